/-! slip -/
def wrM (N : Nt) (s : Nat) (g : Nat → Int32) : Nat → Nat
  | 0 => 0
  | k + 1 => if g k = nI (dgN N s k) then wrM N s g k else wrM N s g k ||| 2 ^ k
theorem wrM_s (N : Nt) (s : Nat) (g : Nat → Int32) (k : Nat) : wrM N s g (k + 1) = if g k = nI (dgN N s k) then wrM N s g k else wrM N s g k ||| 2 ^ k := rfl
theorem wrM_bit (N : Nt) (s : Nat) (g : Nat → Int32) (i : Nat) : ∀ k, (wrM N s g k).testBit i = (decide (i < k) && decide (¬ g i = nI (dgN N s i)))
  | 0 => by simp [wrM]
  | k + 1 => by
    have ih := wrM_bit N s g i k
    rw [wrM_s]
    by_cases e : i = k
    · subst e
      by_cases h : g i = nI (dgN N s i)
      · rw [if_pos h, ih]; simp [h]
      · rw [if_neg h, or1_bit]; simp [h]
    · have e2 : decide (i < k + 1) = decide (i < k) := by
        congr 1
        apply propext
        constructor <;> intro q <;> omega
      rw [e2, ← ih]
      split
      · rfl
      · rw [or1_bit]; simp [e]
/-- the pairs, tried one after the other -/
def slI (N : Nt) (s : Nat) (g : Nat → Int32) (a : Nat) : Nat → Nat → Option Nat
  | 0, _ => none
  | k + 1, b => if tdB (flipN N a b) s g = true then some (40 * a + b) else slI N s g a k (b + 1)
def slO (N : Nt) (s : Nat) (g : Nat → Int32) : Nat → Nat → Option Nat
  | 0, _ => none
  | k + 1, a => match slI N s g a k (a + 1) with
    | some x => some x
    | none => slO N s g k (a + 1)
theorem slI_none {N : Nt} {s : Nat} {g : Nat → Int32} {a : Nat} : ∀ k b, (∀ x, b ≤ x → x < b + k → tdB (flipN N a x) s g = false) → slI N s g a k b = none
  | 0, _, _ => rfl
  | k + 1, b, h => by
    show (if tdB (flipN N a b) s g = true then _ else _) = none
    rw [h b (Nat.le_refl _) (by omega), if_neg (by decide)]
    exact slI_none k (b + 1) (fun x h1 h2 => h x (by omega) (by omega))
theorem slI_some {N : Nt} {s : Nat} {g : Nat → Int32} {a b0 : Nat} (h0 : tdB (flipN N a b0) s g = true) : ∀ k b, b ≤ b0 → b0 < b + k → (∀ x, b ≤ x → x < b + k → tdB (flipN N a x) s g = true → x = b0) → slI N s g a k b = some (40 * a + b0)
  | 0, b, h1, h2, _ => by omega
  | k + 1, b, h1, h2, h3 => by
    show (if tdB (flipN N a b) s g = true then some (40 * a + b) else slI N s g a k (b + 1)) = _
    by_cases e : tdB (flipN N a b) s g = true
    · rw [if_pos e, h3 b (Nat.le_refl _) (by omega) e]
    · rw [if_neg e]
      have : b ≠ b0 := fun z => e (by rw [z]; exact h0)
      exact slI_some h0 k (b + 1) (by omega) (by omega) (fun x x1 x2 => h3 x (by omega) (by omega))
theorem slO_none {N : Nt} {s n : Nat} {g : Nat → Int32} (h : ∀ a b, a < b → b < n → tdB (flipN N a b) s g = false) : ∀ k a, a + k = n → slO N s g k a = none
  | 0, _, _ => rfl
  | k + 1, a, hk => by
    show (match slI N s g a k (a + 1) with | some x => some x | none => slO N s g k (a + 1)) = none
    rw [slI_none k (a + 1) (fun x h1 h2 => h a x (by omega) (by omega))]
    exact slO_none h k (a + 1) (by omega)
theorem slO_some {N : Nt} {s n a0 b0 : Nat} {g : Nat → Int32} (h0 : tdB (flipN N a0 b0) s g = true) (hab : a0 < b0) (hbn : b0 < n) (h : ∀ a b, a < b → b < n → tdB (flipN N a b) s g = true → a = a0 ∧ b = b0) : ∀ k a, a + k = n → a ≤ a0 → slO N s g k a = some (40 * a0 + b0)
  | 0, a, hk, ha => by omega
  | k + 1, a, hk, ha => by
    show (match slI N s g a k (a + 1) with | some x => some x | none => slO N s g k (a + 1)) = _
    by_cases e : a = a0
    · subst e
      rw [slI_some h0 k (a + 1) (by omega) (by omega) (fun x h1 h2 h3 => (h a x (by omega) (by omega) h3).2)]
    · rw [slI_none k (a + 1) (fun x h1 h2 => by
        cases hb : tdB (flipN N a x) s g with
        | false => rfl
        | true => exact absurd (h a x (by omega) (by omega) hb).1 e)]
      exact slO_some h0 hab hbn h k (a + 1) (by omega) (by omega)
/-- the answer -/
def slA (N : Nt) (s : Nat) (g : Nat → Int32) : Int32 := if tdB N s g = true then -1 else match slO N s g (n_n N) 0 with
  | some x => nI x
  | none => -3
theorem wr_0 {N : Nt} {s : Nat} {g : Nat → Int32} : wrM N s g (n_n N) = 0 ↔ tdB N s g = true := by
  unfold tdB
  rw [allB_iff]
  constructor
  · intro h p hp
    have := wrM_bit N s g p (n_n N)
    rw [h, Nat.zero_testBit, decide_eq_true hp, Bool.true_and] at this
    have h2 := of_decide_eq_false this.symm
    exact decide_eq_true (Classical.not_not.mp h2)
  · intro h
    apply bx
    intro i
    rw [wrM_bit, Nat.zero_testBit]
    by_cases hi : i < n_n N
    · rw [decide_eq_true hi, Bool.true_and]
      exact decide_eq_false (Classical.not_not.mpr (of_decide_eq_true (h i hi)))
    · rw [decide_eq_false hi, Bool.false_and]
theorem chI_ne (N : Nt) (s a b : Nat) {d : Nat} (hd : d ≤ 64) : ¬ nI d + chI N s a b = nI d := by
  unfold chI
  have h1 : ∀ d, d < 65 → ¬ nI d + (-1) = nI d ∧ ¬ nI d + 1 = nI d := by decide +kernel
  split
  · exact (h1 d (by omega)).1
  · exact (h1 d (by omega)).2
/-- who is wrong, if a turn mends it -/
theorem td_wr {N : Nt} (wf : WfN N) {s a b : Nat} {g : Nat → Int32} (ha : a < n_n N) (hb : b < n_n N) (hab : a ≠ b) : tdB (flipN N a b) s g = true ↔ (wrM N s g (n_n N) = 2 ^ a ||| 2 ^ b ∧ g a = nI (dgN N s a) + chI N s a b ∧ g b = nI (dgN N s b) + chI N s a b) := by
  rw [td_fl wf ha hb hab]
  constructor
  · rintro ⟨h1, h2, h3⟩
    refine ⟨?_, h2, h3⟩
    apply bx
    intro i
    rw [wrM_bit, or1_bit, Nat.testBit_two_pow]
    by_cases e1 : i = a
    · subst e1
      rw [decide_eq_true ha, decide_eq_true (by rw [h2]; exact chI_ne N s i b (dg_le N s i))]
      simp
    · by_cases e2 : i = b
      · subst e2
        rw [decide_eq_true hb, decide_eq_true (by rw [h3]; exact chI_ne N s a i (dg_le N s i))]
        simp
      · by_cases hi : i < n_n N
        · rw [h1 i hi e1 e2]
          simp [e1, e2, Ne.symm e1]
        · simp [hi, e1, e2, Ne.symm e1]
  · rintro ⟨h1, h2, h3⟩
    refine ⟨fun p hp e1 e2 => ?_, h2, h3⟩
    have := wrM_bit N s g p (n_n N)
    rw [h1, or1_bit, Nat.testBit_two_pow, decide_eq_true hp, decide_eq_false (Ne.symm e1), decide_eq_false e2, Bool.true_and] at this
    exact Classical.not_not.mp (of_decide_eq_false this.symm)
theorem two_bits {a b c d : Nat} (h1 : a < b) (h2 : c < d) (h : 2 ^ a ||| 2 ^ b = 2 ^ c ||| 2 ^ d) : a = c ∧ b = d := by
  have t : ∀ i, (decide (a = i) || decide (i = b)) = (decide (c = i) || decide (i = d)) := fun i => by
    have := congrArg (fun x => x.testBit i) h
    simp only [or1_bit, Nat.testBit_two_pow] at this
    exact this
  have ta := t a
  have tb := t b
  have tc := t c
  have td := t d
  simp only [decide_true, Bool.true_or, Bool.or_true] at ta tb tc td
  simp only [Bool.or_eq_true, decide_eq_true_eq, eq_comm (a := true)] at ta tb tc td
  omega
theorem fr_slip_loop {N : Nt} (wf : WfN N) {s L q : Nat} {g : Nat → Int32} (hs : s < 2) (hL : L ≤ 60) (hnL : n_n N ≤ L) (hq : q < 4) {σ : Sto} (h : NetAt σ 1 N) (h1 : gI σ (36 + 2 * q) 1 = nI L) (h2 : ∀ j, j < L → gI σ (37 + 2 * q) j = g j) : ∀ (k fu p : Nat), p + k = n_n N → k < fu → L_FR_slip_57 fu (nI s) (36 + 2 * q) (lN (wrM N s g p)) (nI p) σ = if wrM N s g (n_n N) = 0 then some (-1, σ) else f_FR_turnThatMends (36 + 2 * q) (nI s) (lN (wrM N s g (n_n N))) σ := by
  intro k
  have hn := wf.1
  have wlt : wrM N s g (n_n N) < 2 ^ 64 := bit_lt (fun i hi => by rw [wrM_bit, decide_eq_false (show ¬ i < n_n N by omega), Bool.false_and])
  induction k with
  | zero =>
    intro fu p hp hf
    obtain ⟨fu, rfl⟩ : ∃ f, fu = f + 1 := ⟨fu - 1, by omega⟩
    show B_FR_slip_57 (L_FR_slip_57 fu) _ _ _ _ _ = _
    unfold B_FR_slip_57
    rw [h.1, if_pos (nI_le (by omega) (by omega)), show p = n_n N by omega]
    simp only [lN_eq0 wlt]
    split
    · rfl
    · cases f_FR_turnThatMends (36 + 2 * q) (nI s) (lN (wrM N s g (n_n N))) σ <;> rfl
  | succ k ih =>
    intro fu p hp hf
    obtain ⟨fu, rfl⟩ : ∃ f, fu = f + 1 := ⟨fu - 1, by omega⟩
    have hpn : p < n_n N := by omega
    have e := ih fu (p + 1) (by omega) (by omega)
    rw [wrM_s] at e
    show B_FR_slip_57 (L_FR_slip_57 fu) _ _ _ _ _ = _
    unfold B_FR_slip_57
    rw [h.1, if_neg (nI_ge hpn (by omega)), sh_at h1 hL (by omega), if_pos (by omega), show 36 + 2 * q + 1 = 37 + 2 * q by omega, h2 p (by omega), Option.bind_some]
    simp only [nt_fits h wf hs hpn, Option.bind_some, lt1_eq, lsh_1 (show p < 64 by omega), fb_orL, nI_1, show pc (fit N s p (2 ^ n_n N - 1)) = dgN N s p from rfl]
    by_cases hg : g p = nI (dgN N s p)
    · rw [if_pos hg]
      rw [if_pos hg] at e
      exact e
    · rw [if_neg hg]
      rw [if_neg hg] at e
      exact e
theorem nd_lt2 {w : Nat} (h : pc w = 2) (hw : w < 2 ^ 40) : ∃ a b, a < b ∧ w = 2 ^ a ||| 2 ^ b ∧ w.testBit a = true ∧ (∀ i, i < a → w.testBit i = false) ∧ (nd w (2 ^ a)).testBit b = true ∧ (∀ i, i < b → (nd w (2 ^ a)).testBit i = false) := by
  have hw64 : w < 2 ^ 64 := Nat.lt_trans hw (by decide)
  have w0 : w ≠ 0 := fun z => by rw [z, pc_zero] at h; omega
  obtain ⟨a, a1, a2⟩ := lo_pow w w0
  have hpa := pc_nd (w := w) (b := a) (bit_in hw64 a1) a1
  have w1 : nd w (2 ^ a) ≠ 0 := fun z => by rw [z, pc_zero] at hpa; omega
  obtain ⟨b, b1, b2⟩ := lo_pow _ w1
  have hwb : w.testBit b = true ∧ b ≠ a := by
    rw [nd1_bit, Bool.and_eq_true] at b1
    exact ⟨b1.1, fun z => by rw [z] at b1; simp at b1⟩
  have hpb := pc_nd (w := nd w (2 ^ a)) (b := b) (bit_in hw64 hwb.1) b1
  have w2 : nd (nd w (2 ^ a)) (2 ^ b) = 0 := pc_z (nd_lt (nd_lt hw64)) (by omega)
  refine ⟨a, b, ?_, ?_, a1, a2, b1, b2⟩
  · rcases Nat.lt_or_ge b a with y | y
    · rw [a2 b y] at hwb; exact absurd hwb.1 (by decide)
    · have := hwb.2; omega
  · apply bx
    intro i
    have := congrArg (fun x => x.testBit i) w2
    simp only [nd1_bit, Nat.zero_testBit] at this
    rw [or1_bit, Nat.testBit_two_pow]
    by_cases e1 : i = a
    · subst e1; rw [a1]; simp
    · by_cases e2 : i = b
      · subst e2; rw [hwb.1]; simp
      · simp only [e1, e2, decide_false, Bool.not_false, Bool.and_true] at this
        rw [this]
        simp [e2, Ne.symm e1]
theorem pc_two {a b : Nat} (h : a < b) (hb : b < 64) : pc (2 ^ a ||| 2 ^ b) = 2 := by
  rw [pc_or hb (by rw [Nat.testBit_two_pow]; simp; omega)]
  have := pc_or (w := 0) (b := a) (by omega) (Nat.zero_testBit a)
  rw [Nat.zero_or, pc_zero] at this
  rw [this]
theorem fr_mends {N : Nt} (wf : WfN N) {s L q : Nat} {g : Nat → Int32} (hs : s < 2) (hL : L ≤ 60) (hnL : n_n N ≤ L) (hq : q < 4) {σ : Sto} (h : NetAt σ 1 N) (h1 : gI σ (36 + 2 * q) 1 = nI L) (h2 : ∀ j, j < L → gI σ (37 + 2 * q) j = g j) (h0 : ¬ wrM N s g (n_n N) = 0) : f_FR_turnThatMends (36 + 2 * q) (nI s) (lN (wrM N s g (n_n N))) σ = some (slA N s g, σ) := by
  have hn := wf.1
  have wlt : wrM N s g (n_n N) < 2 ^ n_n N := bit_lt (fun i hi => by rw [wrM_bit, decide_eq_false (show ¬ i < n_n N by omega), Bool.false_and])
  have wlt40 := Nat.lt_of_lt_of_le wlt (two_pow_le hn)
  have wlt64 := lt64 wf wlt
  have hpl := pc_le (wrM N s g (n_n N))
  unfold f_FR_turnThatMends B_FR_turnThatMends_0
  rw [bitCount_eq wlt64, Option.bind_some]
  have e2 : (nI (pc (wrM N s g (n_n N))) = (2 : Int32)) ↔ pc (wrM N s g (n_n N)) = 2 := by rw [show (2 : Int32) = nI 2 from rfl, nI_eq (by omega) (by decide)]
  simp only [e2]
  have ntd : ¬ tdB N s g = true := fun z => h0 (wr_0.2 z)
  unfold slA
  rw [if_neg ntd]
  by_cases hp : pc (wrM N s g (n_n N)) = 2
  · rw [if_pos hp]
    obtain ⟨a, b, hab, hw, a1, a2, b1, b2⟩ := nd_lt2 hp wlt40
    have ha : a < n_n N := bit_in wlt a1
    have hb : b < n_n N := bit_in wlt (by rw [nd1_bit, Bool.and_eq_true] at b1; exact b1.1)
    rw [fr_leastOf wlt40 a1 a2, Option.bind_some]
    have eo : lN (wrM N s g (n_n N)) &&& (lN (wrM N s g (n_n N)) - 1) = lN (nd (wrM N s g (n_n N)) (2 ^ a)) := by
      rw [show (1 : Int64) = lN 1 from rfl, lN_sub (by omega), fb_andL, low_off a1 a2]
    simp only [eo]
    rw [fr_leastOf (nd_lt wlt40) b1 b2, Option.bind_some]
    simp only []
    rw [lsh_1 (by omega), nt_fitting h wf hs ha (show 2 ^ b < 2 ^ 64 from pow_lt (by omega)), Option.bind_some]
    simp only [lN_eq0 (fit_lt (N := N) (s := s) (p := a) (show 2 ^ b < 2 ^ 64 from pow_lt (by omega))), fit_pow]
    have e51 : ∀ x, B_FR_turnThatMends_51 (36 + 2 * q) (nI s) (nI a) (nI b) x σ = some (if g a = nI (dgN N s a) + x ∧ g b = nI (dgN N s b) + x then nI (40 * a + b) else -3, σ) := fun x => by
      have eat : ∀ p, p < n_n N → f_Sheet_at (36 + 2 * q) (nI p) σ = some (g p, σ) := fun p hp => by
        rw [sh_at h1 hL (by omega), if_pos (by omega), show 36 + 2 * q + 1 = 37 + 2 * q by omega, h2 p (by omega)]
      unfold B_FR_turnThatMends_51
      rw [eat a ha, Option.bind_some]
      simp only []
      rw [nt_fits h wf hs ha, Option.bind_some]
      simp only []
      rw [eat b hb, Option.bind_some]
      simp only []
      rw [nt_fits h wf hs hb, Option.bind_some]
      simp only [show pc (fit N s a (2 ^ n_n N - 1)) = dgN N s a from rfl, show pc (fit N s b (2 ^ n_n N - 1)) = dgN N s b from rfl]
      unfold f_FR_pairOf B_FR_pairOf_0
      rw [show (40 : Int32) * nI a + nI b = nI (40 * a + b) by rw [show (40 : Int32) = nI 40 from rfl, nI_mul, nI_add]]
      simp only [if_neg (show ¬ ((1 : Int32) = 0) by decide +kernel), if_true, Option.bind_some]
      by_cases c1 : g a = nI (dgN N s a) + x
      · by_cases c2 : g b = nI (dgN N s b) + x
        · simp only [if_pos c1, if_pos c2, if_pos (And.intro c1 c2)]
        · simp only [if_pos c1, if_neg c2, if_neg (fun z : g a = nI (dgN N s a) + x ∧ g b = nI (dgN N s b) + x => c2 z.2)]
      · simp only [if_neg c1, if_neg (fun z : g a = nI (dgN N s a) + x ∧ g b = nI (dgN N s b) + x => c1 z.1)]
    rw [e51, e51]
    have ech : (if rl N s a b = false then some (if g a = nI (dgN N s a) + 1 ∧ g b = nI (dgN N s b) + 1 then nI (40 * a + b) else (-3 : Int32), σ) else some (if g a = nI (dgN N s a) + (-1) ∧ g b = nI (dgN N s b) + (-1) then nI (40 * a + b) else -3, σ)) = some (if g a = nI (dgN N s a) + chI N s a b ∧ g b = nI (dgN N s b) + chI N s a b then nI (40 * a + b) else -3, σ) := by
      unfold chI
      cases rl N s a b <;> rfl
    refine Eq.trans ech ?_
    by_cases hc : g a = nI (dgN N s a) + chI N s a b ∧ g b = nI (dgN N s b) + chI N s a b
    · rw [if_pos hc]
      have h0' : tdB (flipN N a b) s g = true := (td_wr wf ha hb (by omega)).2 ⟨hw, hc⟩
      rw [slO_some (n := n_n N) h0' hab hb (fun c d hcd hdn hz => by
        have := ((td_wr wf (show c < n_n N by omega) hdn (by omega)).1 hz).1
        rw [hw] at this
        have := two_bits hab hcd this
        omega) (n_n N) 0 (by omega) (by omega)]
    · rw [if_neg hc]
      rw [slO_none (n := n_n N) (fun c d hcd hdn => by
        cases hz : tdB (flipN N c d) s g with
        | false => rfl
        | true =>
          obtain ⟨z1, z2⟩ := (td_wr wf (show c < n_n N by omega) hdn (by omega)).1 hz
          rw [hw] at z1
          obtain ⟨y1, y2⟩ := two_bits hab hcd z1
          subst y1 y2
          exact absurd z2 hc) (n_n N) 0 (by omega)]
  · rw [if_neg hp]
    rw [slO_none (n := n_n N) (fun c d hcd hdn => by
      cases hz : tdB (flipN N c d) s g with
      | false => rfl
      | true =>
        obtain ⟨z1, z2⟩ := (td_wr wf (show c < n_n N by omega) hdn (by omega)).1 hz
        rw [z1, pc_two hcd (by omega)] at hp
        exact absurd rfl hp) (n_n N) 0 (by omega)]
theorem mo_told_loop {N : Nt} (wf : WfN N) {s L q : Nat} {g : Nat → Int32} (hs : s < 2) (hL : L ≤ 60) (hnL : n_n N ≤ L) (hq : q < 4) {σ : Sto} (h : ModAt σ N) (h2 : ∀ j, j < L → gI σ 71 (60 * q + j) = g j) : ∀ (k fu p : Nat), p + k = n_n N → k < fu → allB (fun p => decide (g p = nI (dgN N s p))) p = true → L_Mo_isTold_2 fu (nI q) (nI s) (nI p) σ = some (tdB N s g, σ) := by
  intro k
  have hn := wf.1
  induction k with
  | zero =>
    intro fu p hp hf ha
    obtain ⟨fu, rfl⟩ : ∃ f, fu = f + 1 := ⟨fu - 1, by omega⟩
    show B_Mo_isTold_2 (L_Mo_isTold_2 fu) _ _ _ _ = _
    unfold B_Mo_isTold_2
    rw [h.1, if_pos (nI_le (by omega) (by omega))]
    unfold tdB
    rw [show n_n N = p by omega, ha]
  | succ k ih =>
    intro fu p hp hf ha
    obtain ⟨fu, rfl⟩ : ∃ f, fu = f + 1 := ⟨fu - 1, by omega⟩
    have hpn : p < n_n N := by omega
    have e := ih fu (p + 1) (by omega) (by omega)
    rw [allB, ha, Bool.true_and] at e
    show B_Mo_isTold_2 (L_Mo_isTold_2 fu) _ _ _ _ = _
    unfold B_Mo_isTold_2 f_Mo_everybody B_Mo_everybody_0
    rw [h.1, if_neg (nI_ge hpn (by omega)), lsh_1 (by omega), show (1 : Int64) = lN 1 from rfl, lN_sub (Nat.one_le_two_pow)]
    simp only [mo_place hq (show p < 60 by omega), inb_ok (show 60 * q + p < 240 by omega) (show 240 < 2 ^ 31 by decide), if_true, nI_clamp (show 60 * q + p < 2 ^ 31 by omega), Option.bind_some, mo_fits h wf hs hpn (whole_lt hn), many_eq (fit_lt (N := N) (s := s) (p := p) (whole_lt hn)), h2 p (by omega), nI_1, show pc (fit N s p (2 ^ n_n N - 1)) = dgN N s p from rfl]
    by_cases hg : g p = nI (dgN N s p)
    · rw [if_pos hg]
      exact e (decide_eq_true hg)
    · rw [if_neg hg]
      unfold tdB
      rw [allB_no hpn (decide_eq_false hg)]
theorem mo_isTold {N : Nt} (wf : WfN N) {s L q : Nat} {g : Nat → Int32} (hs : s < 2) (hL : L ≤ 60) (hnL : n_n N ≤ L) (hq : q < 4) {σ : Sto} (h : ModAt σ N) (h2 : ∀ j, j < L → gI σ 71 (60 * q + j) = g j) : f_Mo_isTold (nI q) (nI s) σ = some (tdB N s g, σ) :=
  mo_told_loop wf hs hL hnL hq h h2 (n_n N) LF 0 (by omega) (by have := wf.1; rw [LF_big]; omega) rfl
theorem mo_slip_in {N : Nt} (wf : WfN N) {s L q a : Nat} {g : Nat → Int32} (hs : s < 2) (hL : L ≤ 60) (hnL : n_n N ≤ L) (hq : q < 4) {σ : Sto} (h : ModAt σ N) (h2 : ∀ j, j < L → gI σ 71 (60 * q + j) = g j) (ha : a < n_n N) {k58 : Int32 → Int32 → Int32 → Sto → Option (Int32 × Sto)} : ∀ (k fu b : Nat), b + k = n_n N → a < b → k < fu → L_Mo_slip_71 k58 fu (nI q) (nI s) (nI a) (nI b) σ = match slI N s g a k b with | some x => some (nI x, σ) | none => k58 (nI q) (nI s) (nI (a + 1)) σ := by
  intro k
  have hn := wf.1
  induction k with
  | zero =>
    intro fu b hb hab hf
    obtain ⟨fu, rfl⟩ : ∃ f, fu = f + 1 := ⟨fu - 1, by omega⟩
    show B_Mo_slip_71 k58 (L_Mo_slip_71 k58 fu) _ _ _ _ _ = _
    unfold B_Mo_slip_71
    rw [h.1, if_pos (nI_le (by omega) (by omega)), nI_1]; rfl
  | succ k ih =>
    intro fu b hb hab hf
    obtain ⟨fu, rfl⟩ : ∃ f, fu = f + 1 := ⟨fu - 1, by omega⟩
    have hbn : b < n_n N := by omega
    have hne : a ≠ b := by omega
    obtain ⟨f1, f2⟩ := mo_flS h wf ha hbn hne
    have fw := fl_wf wf ha hbn hne
    obtain ⟨f3, _⟩ := mo_flS f2 fw ha hbn hne
    rw [flS_flS h wf ha hbn hne] at f3
    have et := mo_isTold (N := flipN N a b) fw (s := s) (L := L) (g := g) hs hL hnL hq f2 (fun j hj => by rw [flS_I]; exact h2 j hj)
    show B_Mo_slip_71 k58 (L_Mo_slip_71 k58 fu) _ _ _ _ _ = _
    unfold B_Mo_slip_71
    rw [h.1, if_neg (nI_ge hbn (by omega)), f1, Option.bind_some]
    simp only []
    rw [et, Option.bind_some]
    simp only []
    rw [f3, Option.bind_some]
    rw [show slI N s g a (k + 1) b = if tdB (flipN N a b) s g = true then some (40 * a + b) else slI N s g a k (b + 1) from rfl]
    cases tdB (flipN N a b) s g with
    | true =>
      rw [ite_bt, if_pos rfl, show (40 : Int32) * nI a + nI b = nI (40 * a + b) by rw [show (40 : Int32) = nI 40 from rfl, nI_mul, nI_add]]
    | false =>
      rw [ite_bf, nI_1, ih fu (b + 1) (by omega) (by omega) (by omega)]; rfl
theorem mo_slip_loop {N : Nt} (wf : WfN N) {s L q : Nat} {g : Nat → Int32} (hs : s < 2) (hL : L ≤ 60) (hnL : n_n N ≤ L) (hq : q < 4) {σ : Sto} (h : ModAt σ N) (h2 : ∀ j, j < L → gI σ 71 (60 * q + j) = g j) : ∀ (k fu a : Nat), a + k = n_n N → k < fu → L_Mo_slip_58 fu (nI q) (nI s) (nI a) σ = some (match slO N s g k a with | some x => nI x | none => -3, σ) := by
  intro k
  have hn := wf.1
  induction k with
  | zero =>
    intro fu a ha hf
    obtain ⟨fu, rfl⟩ : ∃ f, fu = f + 1 := ⟨fu - 1, by omega⟩
    show B_Mo_slip_58 (L_Mo_slip_58 fu) _ _ _ _ = _
    unfold B_Mo_slip_58
    rw [h.1, if_pos (nI_le (by omega) (by omega))]; rfl
  | succ k ih =>
    intro fu a ha hf
    obtain ⟨fu, rfl⟩ : ∃ f, fu = f + 1 := ⟨fu - 1, by omega⟩
    show B_Mo_slip_58 (L_Mo_slip_58 fu) _ _ _ _ = _
    unfold B_Mo_slip_58
    rw [h.1, if_neg (nI_ge (by omega) (by omega)), nI_1, mo_slip_in wf hs hL hnL hq h h2 (show a < n_n N by omega) (k58 := L_Mo_slip_58 fu) k LF (a + 1) (by omega) (by omega) (by rw [LF_big]; omega)]
    rw [show slO N s g (k + 1) a = match slI N s g a k (a + 1) with | some x => some x | none => slO N s g k (a + 1) from rfl]
    cases slI N s g a k (a + 1) with
    | some x => rfl
    | none => exact ih fu (a + 1) (by omega) (by omega)
theorem op_slip (a0 : Int32) (b1 : Int32) : Op (f_FR_slip a0 b1) (f_Mo_slip a0 b1) := by
  cases h0 : ptB a0 4
  · refine Op.ask (fun _ => -2) (fun σ A wf h => ⟨σ, ?_, Scr.rf⟩) (fun σ A wf h => ⟨σ, ?_, Scr.rf⟩)
    · unfold f_FR_slip B_FR_slip_0
      simp [fr_isSheet, h0, ite_bf]
    · unfold f_Mo_slip B_Mo_slip_0
      simp [mo_isSheet, h0, ite_bf]
  cases h1 : oneB b1
  · refine Op.ask (fun _ => -2) (fun σ A wf h => ⟨σ, ?_, Scr.rf⟩) (fun σ A wf h => ⟨σ, ?_, Scr.rf⟩)
    · unfold f_FR_slip B_FR_slip_0
      simp [fr_isSheet, h0, fr_isBit, h1, ite_bf, ite_bt]
    · unfold f_Mo_slip B_Mo_slip_0
      simp [mo_isSheet, h0, mo_isOne, h1, ite_bf, ite_bt]
  obtain ⟨q, hq, rfl⟩ := ptB_of h0
  obtain ⟨s, hs, rfl⟩ := oneB_of h1
  refine Op.ask (fun A => if gone A q = true then -11 else if n_n (s_N A) ≤ (s_S A q).2.1 then slA (s_N A) s (s_S A q).2.2 else -12) (fun σ A wf h => ⟨σ, ?_, Scr.rf⟩) (fun σ A wf h => ⟨σ, ?_, Scr.rf⟩)
  · obtain ⟨c1, c2, c3⟩ := h.2.2.2.2.1 q hq
    have hL := (wf.2.2.2.2.1 q hq).1
    have hn := wf.1.1
    unfold f_FR_slip B_FR_slip_0
    simp only [fr_isSheet, h0, fr_isBit, h1, Option.bind_some, ite_bt, inb_ok hq (show 4 < 2 ^ 31 by decide), if_true, nI_clamp (show q < 2 ^ 31 by omega), sh_gone h hq]
    cases h6 : gone A q
    · rw [ite_bf, if_neg (show ¬ (false = true) by decide), h.net.1, c2]
      simp only [nI_leI (show n_n (s_N A) < 2 ^ 31 by omega) (show (s_S A q).2.1 < 2 ^ 31 by omega)]
      by_cases h7 : n_n (s_N A) ≤ (s_S A q).2.1
      · rw [if_pos h7, if_pos h7]
        refine Eq.trans (fr_slip_loop wf.1 (g := (s_S A q).2.2) hs hL h7 hq h.net c2 c3 (n_n (s_N A)) LF 0 (by omega) (by rw [LF_big]; omega)) ?_
        by_cases h8 : wrM (s_N A) s (s_S A q).2.2 (n_n (s_N A)) = 0
        · rw [if_pos h8]
          unfold slA
          rw [if_pos (wr_0.1 h8)]
        · rw [if_neg h8]
          exact fr_mends wf.1 hs hL h7 hq h.net c2 c3 h8
      · rw [if_neg h7, if_neg h7]
    · rw [ite_bt, if_pos rfl]
  · obtain ⟨c1, c2, c3⟩ := h.2.2.2.2.1 q hq
    have hL := (wf.2.2.2.2.1 q hq).1
    have hn := wf.1.1
    unfold f_Mo_slip B_Mo_slip_0
    simp only [mo_isSheet, h0, mo_isOne, h1, Option.bind_some, ite_bt, inb_ok hq (show 4 < 2 ^ 31 by decide), if_true, nI_clamp (show q < 2 ^ 31 by omega), c1, gone_nn wf hq]
    cases h6 : gone A q
    · rw [if_pos rfl, if_neg (show ¬ (false = true) by decide), h.net.1, c2]
      simp only [nI_leI (show n_n (s_N A) < 2 ^ 31 by omega) (show (s_S A q).2.1 < 2 ^ 31 by omega)]
      by_cases h7 : n_n (s_N A) ≤ (s_S A q).2.1
      · rw [if_pos h7, if_pos h7, mo_isTold wf.1 hs hL h7 hq h.net c3, Option.bind_some]
        unfold slA
        cases h8 : tdB (s_N A) s (s_S A q).2.2
        · rw [ite_bf, if_neg (by decide)]
          exact mo_slip_loop wf.1 hs hL h7 hq h.net c3 (n_n (s_N A)) LF 0 (by omega) (by rw [LF_big]; omega)
        · rw [ite_bt, if_pos rfl]
      · rw [if_neg h7, if_neg h7]
    · rw [if_neg (by decide), if_pos rfl]
