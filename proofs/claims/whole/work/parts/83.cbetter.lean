/-! better: again and again -/
def itN (N : Nt) (s w : Nat) : Nat → Nat → Nat
  | 0, r => r
  | k + 1, r => if btN N s r w = r then r else itN N s w k (btN N s r w)
theorem itN_s (N : Nt) (s w k r : Nat) : itN N s w (k + 1) r = if btN N s r w = r then r else itN N s w k (btN N s r w) := rfl
theorem t3_in {N : Nt} {s free rest a v : Nat} : ∀ k b, t3 N s free rest a k b = some v → ∃ c, b ≤ c ∧ c < b + k ∧ free.testBit c = true ∧ v = rest ||| 2 ^ a ||| 2 ^ c
  | 0, _, h => by cases h
  | k + 1, b, h => by
    rw [show t3 N s free rest a (k + 1) b = if (free.testBit b && decide (fit N s b (rest ||| 2 ^ a) = rest ||| 2 ^ a)) = true then some (rest ||| 2 ^ a ||| 2 ^ b) else t3 N s free rest a k (b + 1) from rfl] at h
    by_cases hc : (free.testBit b && decide (fit N s b (rest ||| 2 ^ a) = rest ||| 2 ^ a)) = true
    · rw [if_pos hc] at h
      cases h
      rw [Bool.and_eq_true] at hc
      exact ⟨b, Nat.le_refl _, by omega, hc.1, rfl⟩
    · rw [if_neg hc] at h
      obtain ⟨c, c1, c2, c3, c4⟩ := t3_in k (b + 1) h
      exact ⟨c, by omega, by omega, c3, c4⟩
theorem t2_in {N : Nt} {s free rest v : Nat} : ∀ k a, t2 N s free rest k a = some v → ∃ b c, b < c ∧ c < a + k ∧ free.testBit b = true ∧ free.testBit c = true ∧ v = rest ||| 2 ^ b ||| 2 ^ c
  | 0, _, h => by cases h
  | k + 1, a, h => by
    rw [show t2 N s free rest (k + 1) a = if (free.testBit a && decide (fit N s a rest = rest)) = true then (match t3 N s free rest a k (a + 1) with | some v => some v | none => t2 N s free rest k (a + 1)) else t2 N s free rest k (a + 1) from rfl] at h
    by_cases hc : (free.testBit a && decide (fit N s a rest = rest)) = true
    · rw [if_pos hc] at h
      rw [Bool.and_eq_true] at hc
      cases h3 : t3 N s free rest a k (a + 1) with
      | some x =>
        rw [h3] at h
        cases h
        obtain ⟨c, c1, c2, c3, c4⟩ := t3_in k (a + 1) h3
        exact ⟨a, c, by omega, by omega, hc.1, c3, c4⟩
      | none =>
        rw [h3] at h
        obtain ⟨b, c, c1, c2, c3⟩ := t2_in k (a + 1) h
        exact ⟨b, c, c1, by omega, c3⟩
    · rw [if_neg hc] at h
      obtain ⟨b, c, c1, c2, c3⟩ := t2_in k (a + 1) h
      exact ⟨b, c, c1, by omega, c3⟩
theorem t1_in {N : Nt} {s ring free v : Nat} : ∀ k x, t1 N s ring free k x = some v → ∃ y b c, y < x + k ∧ ring.testBit y = true ∧ b < c ∧ c < n_n N ∧ free.testBit b = true ∧ free.testBit c = true ∧ v = nd ring (2 ^ y) ||| 2 ^ b ||| 2 ^ c
  | 0, _, h => by cases h
  | k + 1, x, h => by
    rw [show t1 N s ring free (k + 1) x = if ring.testBit x = true then (match t2 N s free (nd ring (2 ^ x)) (n_n N) 0 with | some v => some v | none => t1 N s ring free k (x + 1)) else t1 N s ring free k (x + 1) from rfl] at h
    by_cases hc : ring.testBit x = true
    · rw [if_pos hc] at h
      cases h3 : t2 N s free (nd ring (2 ^ x)) (n_n N) 0 with
      | some z =>
        rw [h3] at h
        cases h
        obtain ⟨b, c, c1, c2, c3, c4, c5⟩ := t2_in (n_n N) 0 h3
        exact ⟨x, b, c, by omega, hc, c1, by omega, c3, c4, c5⟩
      | none =>
        rw [h3] at h
        obtain ⟨y, b, c, c1, c2⟩ := t1_in k (x + 1) h
        exact ⟨y, b, c, by omega, c2⟩
    · rw [if_neg hc] at h
      obtain ⟨y, b, c, c1, c2⟩ := t1_in k (x + 1) h
      exact ⟨y, b, c, by omega, c2⟩
theorem bt_ok {N : Nt} (wf : WfN N) {s r w : Nat} (hr : r < 2 ^ n_n N) : btN N s r w < 2 ^ n_n N ∧ (btN N s r w = r ∨ pc (btN N s r w) = pc r + 1) := by
  have hn := wf.1
  unfold btN
  by_cases h1 : onN N s r w < n_n N
  · rw [if_pos h1]
    have := fa_first_yes (fun p => (nd w r).testBit p && decide (fit N s p r = r)) (n_n N) h1
    rw [Bool.and_eq_true, nd_bit, Bool.and_eq_true, Bool.not_eq_true'] at this
    exact ⟨or_lt hr (pow_lt h1), Or.inr (pc_or (by omega) this.1.2)⟩
  · rw [if_neg h1]
    unfold twN
    cases h2 : t1 N s r (nd w r) (n_n N) 0 with
    | none => exact ⟨hr, Or.inl rfl⟩
    | some v =>
      obtain ⟨y, b, c, c1, c2, c3, c4, c5, c6, c7⟩ := t1_in (n_n N) 0 h2
      rw [nd_bit, Bool.and_eq_true, Bool.not_eq_true'] at c5 c6
      have p1 := pc_nd (w := r) (b := y) (by omega) c2
      have p2 := pc_or (w := nd r (2 ^ y)) (b := b) (by omega) (by rw [nd1_bit, c5.2]; rfl)
      have p3 := pc_or (w := nd r (2 ^ y) ||| 2 ^ b) (b := c) (by omega) (by rw [or1_bit, nd1_bit, c6.2]; simp; omega)
      show v < 2 ^ n_n N ∧ (v = r ∨ pc v = pc r + 1)
      rw [c7]
      exact ⟨or_lt (or_lt (nd_lt hr) (pow_lt (by omega))) (pow_lt c4), Or.inr (by omega)⟩
theorem fr_better_loop {N : Nt} (wf : WfN N) {s w : Nat} (hs : s < 2) (hw : w < 2 ^ n_n N) {σ : Sto} (h : NetAt σ 1 N) : ∀ (k fu i r : Nat), i + k = 40 → k < fu → r < 2 ^ n_n N → L_FR_better_49 fu (nI s) (lN w) (lN r) (nI i) σ = some (lN (itN N s w k r), σ) := by
  intro k
  induction k with
  | zero =>
    intro fu i r hi hf hr
    obtain ⟨fu, rfl⟩ : ∃ f, fu = f + 1 := ⟨fu - 1, by omega⟩
    show B_FR_better_49 (L_FR_better_49 fu) _ _ _ _ _ = _
    unfold B_FR_better_49
    rw [show (40 : Int32) = nI 40 from rfl, if_pos (nI_le (by omega) (by omega))]; rfl
  | succ k ih =>
    intro fu i r hi hf hr
    obtain ⟨fu, rfl⟩ : ∃ f, fu = f + 1 := ⟨fu - 1, by omega⟩
    have hn := wf.1
    obtain ⟨bl, bo⟩ := bt_ok (s := s) (w := w) wf hr
    have e := ih fu (i + 1) (btN N s r w) (by omega) (by omega) bl
    show B_FR_better_49 (L_FR_better_49 fu) _ _ _ _ _ = _
    unfold B_FR_better_49
    rw [show (40 : Int32) = nI 40 from rfl, if_neg (nI_ge (by omega) (by omega)), nt_withOne wf hs hr hw h, Option.bind_some, itN_s]
    by_cases h1 : onN N s r w < n_n N
    · have eb : btN N s r w = r ||| 2 ^ onN N s r w := if_pos h1
      have hne : ¬ r ||| 2 ^ onN N s r w = r := fun z => by
        have := fa_first_yes (fun p => (nd w r).testBit p && decide (fit N s p r = r)) (n_n N) h1
        rw [Bool.and_eq_true, nd_bit, Bool.and_eq_true, Bool.not_eq_true'] at this
        have y := congrArg (fun x => x.testBit (onN N s r w)) z
        simp only [or1_bit, decide_true, Bool.or_true] at y
        rw [show r.testBit (onN N s r w) = false from this.1.2] at y
        cases y
      rw [eb] at e ⊢
      simp only [if_pos h1, lN_inj64 (or_lt (lt64 wf hr) (pow_lt (show onN N s r w < 64 by omega))) (lt64 wf hr), if_neg hne, nI_1]
      exact e
    · have eb : btN N s r w = twN N s r w := if_neg h1
      rw [eb] at e bl ⊢
      simp only [if_neg h1, if_true, nt_withTwo wf hs hr hw h, Option.bind_some, lN_inj64 (lt64 wf bl) (lt64 wf hr), nI_1]
      by_cases h2 : twN N s r w = r
      · rw [if_pos h2, if_pos h2]
      · rw [if_neg h2, if_neg h2]
        exact e
theorem mo_better_loop {N : Nt} (wf : WfN N) {s w : Nat} (hs : s < 2) (hw : w < 2 ^ n_n N) {σ : Sto} (h : ModAt σ N) : ∀ (k fu r : Nat) (was : Int64), 40 ≤ pc r + k → k + 1 < fu → r < 2 ^ n_n N → ¬ lN r = was → L_Mo_better_54 fu (nI s) (lN w) was (lN r) σ = some (lN (itN N s w k r), σ) := by
  intro k
  have hn := wf.1
  have step : ∀ (fu r : Nat) (was : Int64), r < 2 ^ n_n N → ¬ lN r = was → L_Mo_better_54 (fu + 1) (nI s) (lN w) was (lN r) σ = L_Mo_better_54 fu (nI s) (lN w) (lN r) (lN (btN N s r w)) σ := fun fu r was hr hne => by
    show B_Mo_better_54 (L_Mo_better_54 fu) _ _ _ _ _ = _
    unfold B_Mo_better_54
    rw [if_neg hne, mo_bettered wf hs hr hw h, Option.bind_some]
  have stop : ∀ (fu r : Nat), L_Mo_better_54 (fu + 1) (nI s) (lN w) (lN r) (lN r) σ = some (lN r, σ) := fun fu r => by
    show B_Mo_better_54 (L_Mo_better_54 fu) _ _ _ _ _ = _
    unfold B_Mo_better_54
    rw [if_pos rfl]
  induction k with
  | zero =>
    intro fu r was hk hf hr hne
    obtain ⟨fu, rfl⟩ : ∃ f, fu = f + 1 + 1 := ⟨fu - 2, by omega⟩
    obtain ⟨bl, bo⟩ := bt_ok (s := s) (w := w) wf hr
    have : btN N s r w = r := by
      rcases bo with bo | bo
      · exact bo
      · have := pcw40 wf bl; omega
    rw [step (fu + 1) r was hr hne, this, stop]; rfl
  | succ k ih =>
    intro fu r was hk hf hr hne
    obtain ⟨fu, rfl⟩ : ∃ f, fu = f + 1 + 1 := ⟨fu - 2, by omega⟩
    obtain ⟨bl, bo⟩ := bt_ok (s := s) (w := w) wf hr
    rw [step (fu + 1) r was hr hne, itN_s]
    by_cases hb : btN N s r w = r
    · rw [if_pos hb, hb, stop]
    · rw [if_neg hb]
      refine ih (fu + 1) (btN N s r w) (lN r) ?_ (by omega) bl (fun z => hb ((lN_inj64 (lt64 wf bl) (lt64 wf hr)).1 z))
      rcases bo with bo | bo
      · exact absurd bo hb
      · omega
theorem nd_sub0 {a b : Nat} : nd a b = 0 ↔ ∀ i, a.testBit i = true → b.testBit i = true := by
  constructor
  · intro h i hi
    have := nd_bit a b i
    rw [h, Nat.zero_testBit, hi, Bool.true_and] at this
    cases hb : b.testBit i with
    | true => rfl
    | false => rw [hb] at this; cases this
  · intro h
    apply bx
    intro i
    rw [nd_bit, Nat.zero_testBit]
    cases ha : a.testBit i with
    | false => rfl
    | true => rw [h i ha]; rfl
theorem op_better (a0 : Int32) (b1 : Int64) (c2 : Int64) : Op (f_FR_better a0 b1 c2) (f_Mo_better a0 b1 c2) := by
  obtain ⟨r, hr, rfl⟩ := wb_of b1
  obtain ⟨u, hu, rfl⟩ := wb_of c2
  cases h1 : oneB a0
  · refine Op.ask (fun _ => -2) (fun σ A wf h => ⟨σ, ?_, Scr.rf⟩) (fun σ A wf h => ⟨σ, ?_, Scr.rf⟩)
    · unfold f_FR_better B_FR_better_0
      simp [fr_isSideAndSet h.net wf.1 a0 hu, h1, ite_bf]
    · unfold f_Mo_better B_Mo_better_0
      simp [mo_isOne, h1, ite_bf]
  obtain ⟨s, hs, rfl⟩ := oneB_of h1
  refine Op.ask (fun A => if u < 2 ^ n_n (s_N A) then (if nd r u = 0 then (if ringB (s_N A) s r = true then lN (itN (s_N A) s u 40 r) else -3) else -3) else -2) (fun σ A wf h => ⟨σ, ?_, Scr.rf⟩) (fun σ A wf h => ⟨σ, ?_, Scr.rf⟩)
  · unfold f_FR_better B_FR_better_0
    simp only [fr_isSideAndSet h.net wf.1 (nI s) hu, h1, Bool.true_and, Option.bind_some]
    by_cases h3 : u < 2 ^ n_n (s_N A)
    · simp only [decide_eq_true h3, ite_bt, if_pos h3, lN_nd hr, lN_eq0 (nd_lt (b := u) hr)]
      by_cases h4 : nd r u = 0
      · have hrn : r < 2 ^ n_n (s_N A) := bit_lt (fun i hi => by
          cases hb : r.testBit i with
          | false => rfl
          | true => have := nd_sub0.1 h4 i hb; rw [tb_out h3 hi] at this; cases this)
        rw [if_pos h4, if_pos h4, nt_allFit h.net wf.1 hs hr, Option.bind_some]
        cases hrb : ringB (s_N A) s r
        · rw [ite_bf, if_neg (by decide)]
        · rw [ite_bt, if_pos rfl]
          exact fr_better_loop wf.1 hs h3 h.net 40 LF 0 r (by omega) (by rw [LF_big]; omega) hrn
      · rw [if_neg h4, if_neg h4]
    · simp [h3, ite_bf]
  · unfold f_Mo_better B_Mo_better_0
    simp only [mo_isOne, h1, mo_isSet h.net wf.1 hu, Option.bind_some, ite_bt]
    by_cases h3 : u < 2 ^ n_n (s_N A)
    · simp only [decide_eq_true h3, ite_bt, if_pos h3, lN_nd hr, lN_eq0 (nd_lt (b := u) hr)]
      by_cases h4 : nd r u = 0
      · have hrn : r < 2 ^ n_n (s_N A) := bit_lt (fun i hi => by
          cases hb : r.testBit i with
          | false => rfl
          | true => have := nd_sub0.1 h4 i hb; rw [tb_out h3 hi] at this; cases this)
        have hn := wf.1.1
        have hr40 := Nat.lt_of_lt_of_le hrn (two_pow_le hn)
        rw [if_pos h4, if_pos h4, mo_areRing h.net wf.1 hs hr, Option.bind_some]
        cases hrb : ringB (s_N A) s r
        · rw [ite_bf, if_neg (by decide)]
        · rw [ite_bt, if_pos rfl]
          refine mo_better_loop wf.1 hs h3 h.net 40 LF r (-1) (by omega) (by rw [LF_big]; omega) hrn (fun z => ?_)
          rw [lN_m1, lN_inj64 hr (by decide)] at z
          have : (2 : Nat) ^ 40 < 2 ^ 64 - 1 := by decide
          omega
      · rw [if_neg h4, if_neg h4]
    · simp [h3, ite_bf]
