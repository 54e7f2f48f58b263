/-! the lowest bit; two turned; slip -/
theorem Sto_ext {σ τ : Sto} (h1 : ∀ c j, gI σ c j = gI τ c j) (h2 : ∀ c j, gL σ c j = gL τ c j) (h3 : gN σ = gN τ) : σ = τ := by
  obtain ⟨a, b, c⟩ := σ
  obtain ⟨a', b', c'⟩ := τ
  have e1 : a = a' := funext fun x => funext fun y => h1 x y
  have e2 : b = b' := funext fun x => funext fun y => h2 x y
  have e3 : c = c' := h3
  rw [e1, e2, e3]
theorem low_form {w a : Nat} (h1 : w.testBit a = true) (h2 : ∀ i, i < a → w.testBit i = false) : ∃ t, w = 2 ^ (a + 1) * t + 2 ^ a := by
  refine ⟨w / 2 ^ (a + 1), ?_⟩
  have e : w % 2 ^ (a + 1) = 2 ^ a := by
    apply bx
    intro i
    rw [Nat.testBit_mod_two_pow, Nat.testBit_two_pow]
    by_cases e : a = i
    · subst e; rw [h1]; simp
    · by_cases hi : i < a
      · rw [h2 i hi]; simp [e]
      · simp [e, show ¬ i < a + 1 by omega]
  have := Nat.div_add_mod w (2 ^ (a + 1))
  omega
theorem pw_lt (a : Nat) : 2 ^ a < 2 ^ (a + 1) := pow_lt (by omega)
theorem low_off {w a : Nat} (h1 : w.testBit a = true) (h2 : ∀ i, i < a → w.testBit i = false) : w &&& (w - 1) = nd w (2 ^ a) := by
  obtain ⟨t, ht⟩ := low_form h1 h2
  have hp : 0 < 2 ^ a := Nat.two_pow_pos a
  have e1 : w - 1 = 2 ^ (a + 1) * t + (2 ^ a - 1) := by omega
  have hlt := pw_lt a
  apply bx
  intro i
  rw [Nat.testBit_and, nd1_bit, e1, Nat.testBit_two_pow_mul_add t (show 2 ^ a - 1 < 2 ^ (a + 1) by omega), Nat.testBit_two_pow_sub_one]
  have e2 : w.testBit i = if i < a + 1 then (2 ^ a).testBit i else t.testBit (i - (a + 1)) := by rw [ht, Nat.testBit_two_pow_mul_add t hlt]
  rw [e2]
  by_cases hi : i < a + 1
  · rw [if_pos hi, if_pos hi, Nat.testBit_two_pow]
    by_cases e : a = i
    · subst e; simp
    · simp [e]
  · rw [if_neg hi, if_neg hi, Bool.and_self]
    simp [show ¬ i = a by omega]
theorem low_on {w a : Nat} (hw : w < 2 ^ 64) (h1 : w.testBit a = true) (h2 : ∀ i, i < a → w.testBit i = false) : lN w &&& (-lN w) = lN (2 ^ a) := by
  have ha : a < 64 := bit_in hw h1
  obtain ⟨t, ht⟩ := low_form h1 h2
  have hp : 0 < 2 ^ a := Nat.two_pow_pos a
  have hlt := pw_lt a
  have e63 : (2 : Nat) ^ 64 = 2 ^ (a + 1) * 2 ^ (63 - a) := by rw [← Nat.pow_add, show a + 1 + (63 - a) = 64 by omega]
  have htl : t < 2 ^ (63 - a) := by
    apply Nat.lt_of_mul_lt_mul_left (a := 2 ^ (a + 1))
    rw [← e63]
    omega
  have eneg : -lN w = lN (2 ^ 64 - w) := by
    have h := lN_add w (2 ^ 64 - w)
    rw [show w + (2 ^ 64 - w) = 2 ^ 64 by omega, show lN (2 ^ 64) = (0 : Int64) by decide +kernel] at h
    have h2 : lN (2 ^ 64 - w) = -lN w + (lN w + lN (2 ^ 64 - w)) := by
      generalize lN (2 ^ 64 - w) = y
      apply Int64.toBitVec_inj.mp
      simp only [Int64.toBitVec_add, Int64.toBitVec_neg]
      rw [← BitVec.add_assoc, BitVec.add_left_neg, BitVec.zero_add]
    rw [h2, h]
    apply Int64.toBitVec_inj.mp
    simp
  have ecm : 2 ^ 64 - w = 2 ^ (a + 1) * (2 ^ (63 - a) - (t + 1)) + 2 ^ a := by
    rw [e63, Nat.mul_sub, Nat.mul_add]
    have : 2 ^ (a + 1) * t + 2 ^ (a + 1) ≤ 2 ^ (a + 1) * 2 ^ (63 - a) := by
      rw [← Nat.mul_succ]
      exact Nat.mul_le_mul_left _ htl
    have e2 : 2 ^ (a + 1) = 2 * 2 ^ a := by rw [Nat.pow_succ]; omega
    omega
  rw [eneg, fb_andL]
  congr 1
  apply bx
  intro i
  rw [Nat.testBit_and, ecm, Nat.testBit_two_pow_mul_add _ hlt, ht, Nat.testBit_two_pow_mul_add _ hlt]
  by_cases hi : i < a + 1
  · rw [if_pos hi, if_pos hi, Bool.and_self]
  · rw [if_neg hi, if_neg hi, Nat.testBit_two_pow_sub_succ htl, Nat.testBit_two_pow, decide_eq_false (show ¬ a = i by omega)]
    cases t.testBit (i - (a + 1)) <;> simp
theorem lo_pow (w : Nat) (h : w ≠ 0) : ∃ a, w.testBit a = true ∧ ∀ i, i < a → w.testBit i = false := by
  obtain ⟨i, hi⟩ := ex_bit h
  obtain ⟨a, h1, h2, h3⟩ := fb_first (p := fun j => w.testBit j = true) ⟨i, Nat.lt_succ_self i, hi⟩
  exact ⟨a, h2, fun j hj => by
    cases hb : w.testBit j with
    | false => rfl
    | true => exact absurd hb (h3 j hj)⟩
/-- least point of a set -/
theorem fr_least {w a : Nat} (hw : w < 2 ^ 40) (h1 : w.testBit a = true) (h2 : ∀ i, i < a → w.testBit i = false) {σ : Sto} : ∀ (k fu p : Nat), p + k = a → k < fu → L_FR_leastOf_2 fu (lN w) (nI p) σ = some (nI a, σ) := by
  intro k
  have hw64 : w < 2 ^ 64 := Nat.lt_trans hw (by decide)
  have ha := bit_in hw h1
  induction k with
  | zero =>
    intro fu p hp hf
    obtain ⟨fu, rfl⟩ : ∃ f, fu = f + 1 := ⟨fu - 1, by omega⟩
    show B_FR_leastOf_2 (L_FR_leastOf_2 fu) _ _ _ = _
    unfold B_FR_leastOf_2
    rw [show (40 : Int32) = nI 40 from rfl, if_neg (nI_ge (by omega) (by omega)), nt_isOf hw64 (by omega), Option.bind_some, show p = a by omega, h1, ite_bt]
  | succ k ih =>
    intro fu p hp hf
    obtain ⟨fu, rfl⟩ : ∃ f, fu = f + 1 := ⟨fu - 1, by omega⟩
    show B_FR_leastOf_2 (L_FR_leastOf_2 fu) _ _ _ = _
    unfold B_FR_leastOf_2
    rw [show (40 : Int32) = nI 40 from rfl, if_neg (nI_ge (by omega) (by omega)), nt_isOf hw64 (by omega), Option.bind_some, h2 p (by omega), ite_bf, nI_1]
    exact ih fu (p + 1) (by omega) (by omega)
theorem fr_leastOf {w a : Nat} (hw : w < 2 ^ 40) (h1 : w.testBit a = true) (h2 : ∀ i, i < a → w.testBit i = false) (σ : Sto) : f_FR_leastOf (lN w) σ = some (nI a, σ) :=
  fr_least hw h1 h2 a LF 0 (by omega) (by have := bit_in hw h1; rw [LF_big]; omega)
/-! two turned -/
theorem fl_j {N : Nt} (wf : WfN N) {a b : Nat} (ha : a < n_n N) (hb : b < n_n N) (hab : a ≠ b) (p : Nat) : n_j (flipN N a b) p = if p = a then n_j N a ^^^ 2 ^ b else if p = b then n_j N b ^^^ 2 ^ a else n_j N p := by
  have hsym : (n_j N b).testBit a = (n_j N a).testBit b := ((wf.2 a ha).2.2.2.2 b hb).symm
  unfold flipN
  rw [tieN_j, xor_bit1, xor_bit1, hsym]
  by_cases e1 : p = a
  · rw [if_pos e1, if_pos e1]
    cases (n_j N a).testBit b <;> rfl
  · rw [if_neg e1, if_neg e1]
    by_cases e2 : p = b
    · rw [if_pos e2, if_pos e2]
      cases (n_j N a).testBit b <;> rfl
    · rw [if_neg e2, if_neg e2]
theorem fl_wf {N : Nt} (wf : WfN N) {a b : Nat} (ha : a < n_n N) (hb : b < n_n N) (hab : a ≠ b) : WfN (flipN N a b) := tieN_wf wf ha hb hab
theorem fl_n (N : Nt) (a b : Nat) : n_n (flipN N a b) = n_n N := rfl
theorem fl_rl {N : Nt} (wf : WfN N) {s a b p q : Nat} (ha : a < n_n N) (hb : b < n_n N) (hab : a ≠ b) : rl (flipN N a b) s p q = if (p = a ∧ q = b) ∨ (p = b ∧ q = a) then !rl N s p q else rl N s p q := by
  have hsym : (n_j N b).testBit a = (n_j N a).testBit b := ((wf.2 a ha).2.2.2.2 b hb).symm
  unfold rl flipN
  rw [tieN_bit hab]
  by_cases h : (p = a ∧ q = b) ∨ (p = b ∧ q = a)
  · rw [if_pos h, if_pos h]
    have hpq : ¬ p = q := by omega
    have ebit : (n_j N p).testBit q = (n_j N a).testBit b := by
      rcases h with ⟨h1, h2⟩ | ⟨h1, h2⟩
      · rw [h1, h2]
      · rw [h1, h2, hsym]
    rw [ebit]
    cases (n_j N a).testBit b <;> by_cases hs : s = 0 <;> simp [hs, hpq]
  · rw [if_neg h, if_neg h]
theorem fl_fl {N : Nt} (wf : WfN N) {a b : Nat} (ha : a < n_n N) (hb : b < n_n N) (hab : a ≠ b) (p : Nat) : n_j (flipN (flipN N a b) a b) p = n_j N p := by
  rw [fl_j (fl_wf wf ha hb hab) ha hb hab, fl_j wf ha hb hab, fl_j wf ha hb hab, fl_j wf ha hb hab, if_pos rfl, if_neg (Ne.symm hab), if_pos rfl]
  by_cases e1 : p = a
  · rw [if_pos e1, e1, Nat.xor_assoc, Nat.xor_self, Nat.xor_zero]
  · rw [if_neg e1]
    by_cases e2 : p = b
    · rw [if_pos e2, e2, Nat.xor_assoc, Nat.xor_self, Nat.xor_zero]
    · rw [if_neg e2, if_neg e1, if_neg e2]
/-- the reference's turn of two, as a store -/
def flS (σ : Sto) (N : Nt) (a b : Nat) : Sto := sL (sL σ 51 a (lN (n_j (flipN N a b) a))) 51 b (lN (n_j (flipN N a b) b))
theorem mo_flS {σ : Sto} {N : Nt} (h : ModAt σ N) (wf : WfN N) {a b : Nat} (ha : a < n_n N) (hb : b < n_n N) (hab : a ≠ b) : f_Mo_flips (nI a) (nI b) σ = some ((), flS σ N a b) ∧ ModAt (flS σ N a b) (flipN N a b) := by
  have hn := wf.1
  obtain ⟨a1, a2, a3⟩ := h.2 a ha
  obtain ⟨b1, b2, b3⟩ := h.2 b hb
  have eja : n_j (flipN N a b) a = n_j N a ^^^ 2 ^ b := by rw [fl_j wf ha hb hab, if_pos rfl]
  have ejb : n_j (flipN N a b) b = n_j N b ^^^ 2 ^ a := by rw [fl_j wf ha hb hab, if_neg (Ne.symm hab), if_pos rfl]
  constructor
  · unfold f_Mo_flips B_Mo_flips_0 flS
    simp only [inb_ok (show a < 40 by omega) (by decide), inb_ok (show b < 40 by omega) (by decide), if_true, nI_clamp (show a < 2 ^ 31 by omega), nI_clamp (show b < 2 ^ 31 by omega), lt1_eq, bit_eq (show a < 64 by omega), bit_eq (show b < 64 by omega), Option.bind_some, a3, fb_xorL]
    rw [g_sL_ne (show ¬ (51 = 51 ∧ b = a) by omega), b3, fb_xorL, ← eja, ← ejb]
  · unfold flS
    refine ⟨h.1, fun p hp => ?_⟩
    have hp' : p < n_n N := hp
    obtain ⟨p1, p2, p3⟩ := h.2 p hp'
    refine ⟨p1, p2, ?_⟩
    by_cases h2 : p = b
    · subst h2; rw [g_sL_eq]
    · rw [g_sL_ne (by omega)]
      by_cases h1 : p = a
      · subst h1; rw [g_sL_eq]
      · rw [g_sL_ne (by omega), p3, fl_j wf ha hb hab, if_neg h1, if_neg h2]
theorem flS_I (σ : Sto) (N : Nt) (a b c j : Nat) : gI (flS σ N a b) c j = gI σ c j := rfl
theorem flS_L {σ : Sto} {N : Nt} {a b c j : Nat} (h : c ≠ 51) : gL (flS σ N a b) c j = gL σ c j := by
  unfold flS
  rw [g_sL_ne (by omega), g_sL_ne (by omega)]
theorem flS_o {σ : Sto} {N : Nt} {a b j : Nat} (h1 : j ≠ a) (h2 : j ≠ b) : gL (flS σ N a b) 51 j = gL σ 51 j := by
  unfold flS
  rw [g_sL_ne (by omega), g_sL_ne (by omega)]
/-- turned back, nothing is changed -/
theorem flS_flS {σ : Sto} {N : Nt} (h : ModAt σ N) (wf : WfN N) {a b : Nat} (ha : a < n_n N) (hb : b < n_n N) (hab : a ≠ b) : flS (flS σ N a b) (flipN N a b) a b = σ := by
  refine Sto_ext (fun c j => rfl) (fun c j => ?_) rfl
  unfold flS
  rw [fl_fl wf ha hb hab, fl_fl wf ha hb hab]
  by_cases hc : c = 51
  · subst hc
    by_cases e2 : j = b
    · subst e2; rw [g_sL_eq]; exact (h.2 j hb).2.2.symm
    · rw [g_sL_ne (by omega)]
      by_cases e1 : j = a
      · subst e1; rw [g_sL_eq]; exact (h.2 j ha).2.2.symm
      · rw [g_sL_ne (by omega), g_sL_ne (by omega), g_sL_ne (by omega)]
  · rw [g_sL_ne (by omega), g_sL_ne (by omega), g_sL_ne (by omega), g_sL_ne (by omega)]
/-- how many fit -/
def dgN (N : Nt) (s p : Nat) : Nat := pc (fit N s p (2 ^ n_n N - 1))
theorem all_bit (n i : Nat) : (2 ^ n - 1).testBit i = decide (i < n) := Nat.testBit_two_pow_sub_one n i
theorem fl_dg_o {N : Nt} (wf : WfN N) {s a b p : Nat} (ha : a < n_n N) (hb : b < n_n N) (hab : a ≠ b) (h1 : p ≠ a) (h2 : p ≠ b) : dgN (flipN N a b) s p = dgN N s p := by
  unfold dgN
  congr 1
  apply bx
  intro i
  rw [fit_rl, fit_rl, fl_rl wf ha hb hab, if_neg (by omega), fl_n]
theorem fl_dg_x {N : Nt} (wf : WfN N) {s a b : Nat} (ha : a < n_n N) (hb : b < n_n N) (hab : a ≠ b) : (rl N s a b = true → dgN (flipN N a b) s a + 1 = dgN N s a) ∧ (rl N s a b = false → dgN (flipN N a b) s a = dgN N s a + 1) := by
  have hn := wf.1
  have e : fit (flipN N a b) s a (2 ^ n_n N - 1) = fit N s a (2 ^ n_n N - 1) ^^^ 2 ^ b := by
    apply bx
    intro i
    rw [fit_rl, fl_rl wf ha hb hab, fb_bit_flip, fit_rl, all_bit]
    by_cases ei : i = b
    · subst ei
      rw [if_pos (Or.inl ⟨rfl, rfl⟩), decide_eq_true hb]
      cases rl N s a i <;> simp
    · rw [if_neg (by omega)]
      simp [ei]
  have eb : (fit N s a (2 ^ n_n N - 1)).testBit b = rl N s a b := by rw [fit_rl, all_bit, decide_eq_true hb, Bool.true_and]
  constructor
  · intro hr
    unfold dgN
    rw [fl_n, e, xor_bit1, eb, hr, if_pos rfl, pc_nd (by omega) (by rw [eb, hr])]
  · intro hr
    unfold dgN
    rw [fl_n, e, xor_bit1, eb, hr, if_neg (by decide), pc_or (by omega) (by rw [eb, hr])]
theorem fl_sw {N : Nt} {a b : Nat} (wf : WfN N) (ha : a < n_n N) (hb : b < n_n N) (hab : a ≠ b) : ∀ s p, dgN (flipN N a b) s p = dgN (flipN N b a) s p := fun s p => by
  unfold dgN
  congr 1
  apply bx
  intro i
  rw [fit_rl, fit_rl, fl_rl wf ha hb hab, fl_rl wf hb ha (Ne.symm hab), fl_n, fl_n]
  by_cases h : (p = a ∧ i = b) ∨ (p = b ∧ i = a)
  · rw [if_pos h, if_pos (by omega)]
  · rw [if_neg h, if_neg (by omega)]
/-- whether a row tells how many fit -/
def tdB (N : Nt) (s : Nat) (g : Nat → Int32) : Bool := allB (fun p => decide (g p = nI (dgN N s p))) (n_n N)
def chI (N : Nt) (s a b : Nat) : Int32 := if rl N s a b = true then -1 else 1
theorem dg_le (N : Nt) (s p : Nat) : dgN N s p ≤ 64 := pc_le _
theorem td_fl {N : Nt} (wf : WfN N) {s a b : Nat} {g : Nat → Int32} (ha : a < n_n N) (hb : b < n_n N) (hab : a ≠ b) : tdB (flipN N a b) s g = true ↔ ((∀ p, p < n_n N → p ≠ a → p ≠ b → g p = nI (dgN N s p)) ∧ g a = nI (dgN N s a) + chI N s a b ∧ g b = nI (dgN N s b) + chI N s a b) := by
  unfold tdB
  rw [allB_iff, fl_n]
  have x1 := fl_dg_x (s := s) wf ha hb hab
  have x2 := fl_dg_x (s := s) wf hb ha (Ne.symm hab)
  have hsym := rl_sym wf (s := s) ha hb
  have ea : nI (dgN (flipN N a b) s a) = nI (dgN N s a) + chI N s a b := by
    unfold chI
    cases hr : rl N s a b with
    | true =>
      have := x1.1 hr
      rw [if_pos rfl, ← this, nI_m1, show nI (dgN (flipN N a b) s a + 1) - (1 : Int32) = _ from nI_pred _]
    | false =>
      rw [x1.2 hr, if_neg (by decide), nI_1]
  have eb : nI (dgN (flipN N a b) s b) = nI (dgN N s b) + chI N s a b := by
    rw [fl_sw wf ha hb hab]
    unfold chI
    cases hr : rl N s a b with
    | true =>
      have := x2.1 (by rw [← hsym]; exact hr)
      rw [if_pos rfl, ← this, nI_m1, show nI (dgN (flipN N b a) s b + 1) - (1 : Int32) = _ from nI_pred _]
    | false =>
      rw [x2.2 (by rw [← hsym]; exact hr), if_neg (by decide), nI_1]
  constructor
  · intro h
    refine ⟨fun p hp h1 h2 => ?_, ?_, ?_⟩
    · have := of_decide_eq_true (h p hp)
      rwa [fl_dg_o wf ha hb hab h1 h2] at this
    · rw [← ea]; exact of_decide_eq_true (h a ha)
    · rw [← eb]; exact of_decide_eq_true (h b hb)
  · rintro ⟨h1, h2, h3⟩ p hp
    apply decide_eq_true
    by_cases e1 : p = a
    · rw [e1, h2, ea]
    · by_cases e2 : p = b
      · rw [e2, h3, eb]
      · rw [h1 p hp e1 e2, fl_dg_o wf ha hb hab e1 e2]
