/-! the reference's net: measures, rings, joins -/
theorem b2i_z (b : Bool) : (b2i b = nI 0) ↔ b = false := b2i_eq0 b
theorem sm_mea {N : Nt} {m w : Nat} (hm : m < 2) (hn : n_n N ≤ 40) (hw : w < 2 ^ n_n N) : fb_sm (fun p => if w.testBit p then mea1 N m p else 0) (n_n N) = mea N m w := by
  unfold mea mea1
  rcases (show m = 0 ∨ m = 1 by omega) with rfl | rfl
  · rw [if_pos rfl, pc_lt hw (by omega)]
    unfold pcK
    have : ∀ n, fb_sm (fun p => if w.testBit p then (if 0 = 0 then 1 else wt N p) else 0) n = fb_ct (fun i => w.testBit i) n := by
      intro n
      induction n with
      | zero => rfl
      | succ n ih => rw [fb_sm_succ, fb_ct_succ, ih]; rfl
    exact this _
  · rw [if_neg (by decide)]
    refine fb_sm_cong (fun k _ => ?_)
    rw [if_neg (show ¬ (1 = 0) by decide)]
theorem mo_measureOf_loop {σ : Sto} {N : Nt} (h : ModAt σ N) (wf : WfN N) {m w : Nat} (hm : m < 2) (hw : w < 2 ^ 64) : ∀ (k fu p : Nat), p + k = n_n N → k < fu → L_Mo_measureOf_6 fu (nI m) (lN w) (nI (fb_sm (fun p => if w.testBit p then mea1 N m p else 0) p)) (nI p) σ = some (nI (fb_sm (fun p => if w.testBit p then mea1 N m p else 0) (n_n N)), σ) := by
  intro k
  have hn := wf.1
  induction k with
  | zero =>
    intro fu p hp hf
    obtain ⟨fu, rfl⟩ : ∃ f, fu = f + 1 := ⟨fu - 1, by omega⟩
    show B_Mo_measureOf_6 (L_Mo_measureOf_6 fu) _ _ _ _ _ = _
    unfold B_Mo_measureOf_6
    rw [h.1, if_pos (nI_le (by omega) (by omega)), show p = n_n N by omega]
  | succ k ih =>
    intro fu p hp hf
    obtain ⟨fu, rfl⟩ : ∃ f, fu = f + 1 := ⟨fu - 1, by omega⟩
    have hpn : p < n_n N := by omega
    show B_Mo_measureOf_6 (L_Mo_measureOf_6 fu) _ _ _ _ _ = _
    unfold B_Mo_measureOf_6
    rw [h.1, if_neg (nI_ge hpn (by omega)), has_eq hw (by omega), Option.bind_some, mo_worth h wf hm hpn, Option.bind_some]
    have e := ih fu (p + 1) (by omega) (by omega)
    rw [fb_sm_succ] at e
    simp only [b2i_eq0, nI_litN, nI_add, b2i_z]
    cases hb : w.testBit p with
    | false =>
      rw [if_pos rfl]
      rw [hb] at e
      simpa using e
    | true =>
      rw [if_neg (by decide)]
      rw [hb] at e
      simpa using e
theorem mo_measureOf {σ : Sto} {N : Nt} (h : ModAt σ N) (wf : WfN N) {m w : Nat} (hm : m < 2) (hw : w < 2 ^ n_n N) : f_Mo_measureOf (nI m) (lN w) σ = some (nI (mea N m w), σ) := by
  have hw64 : w < 2 ^ 64 := Nat.lt_of_lt_of_le hw (two_pow_le (by have := wf.1; omega))
  have := mo_measureOf_loop h wf hm hw64 (n_n N) LF 0 (by omega) (by have := wf.1; rw [LF_big]; omega)
  rw [sm_mea hm wf.1 hw] at this
  exact this
theorem mo_areRing_loop {σ : Sto} {N : Nt} (h : ModAt σ N) (wf : WfN N) {s w : Nat} (hs : s < 2) (hw : w < 2 ^ 64) : ∀ (k fu p : Nat), p + k = n_n N → k < fu → allB (fun p => !w.testBit p || decide (fit N s p w = nd w (2 ^ p))) p = true → L_Mo_areRing_3 fu (nI s) (lN w) (nI p) σ = some (ringB N s w, σ) := by
  intro k
  have hn := wf.1
  induction k with
  | zero =>
    intro fu p hp hf ha
    obtain ⟨fu, rfl⟩ : ∃ f, fu = f + 1 := ⟨fu - 1, by omega⟩
    show B_Mo_areRing_3 (L_Mo_areRing_3 fu) _ _ _ _ = _
    unfold B_Mo_areRing_3
    rw [h.1, if_pos (nI_le (by omega) (by omega))]
    unfold ringB
    rw [show n_n N = p by omega, ha]
  | succ k ih =>
    intro fu p hp hf ha
    obtain ⟨fu, rfl⟩ : ∃ f, fu = f + 1 := ⟨fu - 1, by omega⟩
    have hpn : p < n_n N := by omega
    show B_Mo_areRing_3 (L_Mo_areRing_3 fu) _ _ _ _ = _
    unfold B_Mo_areRing_3
    have e := ih fu (p + 1) (by omega) (by omega)
    rw [allB, ha, Bool.true_and] at e
    -- fits(p, w without p) is fits(p, w)
    have hfe : fit N s p (nd w (2 ^ p)) = fit N s p w := by
      apply Nat.eq_of_testBit_eq
      intro i
      rw [fit_bit, fit_bit, nd_bit, Nat.testBit_two_pow]
      by_cases hi : p = i
      · subst hi
        have hj := (wf.2 p hpn).2.2.2.1
        by_cases hs0 : s = 0 <;> simp [hs0, hj]
      · simp [hi]
    rw [h.1, if_neg (nI_ge hpn (by omega)), has_eq hw (by omega), Option.bind_some, bit_eq (by omega), Option.bind_some, lN_nd hw, mo_fitsAll h wf hs hpn (nd_lt hw), Option.bind_some, hfe]
    simp only [b2i_eq0, nI_litN, nI_add, b2i_z]
    cases hb : w.testBit p with
    | false =>
      rw [if_pos rfl]
      exact e (by simp [hb])
    | true =>
      rw [if_neg (by decide)]
      by_cases hf : fit N s p w = nd w (2 ^ p)
      · rw [if_neg (by simp [hf])]
        exact e (by simp [hf])
      · rw [if_pos (by simp [hf])]
        unfold ringB
        rw [allB_no hpn (by simp [hb, hf])]
theorem mo_areRing {σ : Sto} {N : Nt} (h : ModAt σ N) (wf : WfN N) {s w : Nat} (hs : s < 2) (hw : w < 2 ^ 64) : f_Mo_areRing (nI s) (lN w) σ = some (ringB N s w, σ) :=
  mo_areRing_loop h wf hs hw (n_n N) LF 0 (by omega) (by have := wf.1; rw [LF_big]; omega) rfl
/-- nothing of the class's changed, nor gN -/
def FrM (σ σ' : Sto) : Prop := (∀ c, c < 48 → (∀ j, gI σ' c j = gI σ c j) ∧ ∀ j, gL σ' c j = gL σ c j) ∧ gN σ' = gN σ
/-- nothing but the joins changed -/
def FrJ (σ σ' : Sto) : Prop := (∀ c j, gI σ' c j = gI σ c j) ∧ (∀ c, c ≠ 51 → ∀ j, gL σ' c j = gL σ c j) ∧ gN σ' = gN σ
theorem FrJ.rf {σ : Sto} : FrJ σ σ := ⟨fun _ _ => rfl, fun _ _ _ => rfl, rfl⟩
theorem FrJ.tr {a b c : Sto} (h1 : FrJ a b) (h2 : FrJ b c) : FrJ a c := ⟨fun x y => (h2.1 x y).trans (h1.1 x y), fun x hx y => (h2.2.1 x hx y).trans (h1.2.1 x hx y), h2.2.2.trans h1.2.2⟩
theorem FrJ.sL {σ : Sto} {j : Nat} {v : Int64} : FrJ σ (sL σ 51 j v) := ⟨fun _ _ => rfl, fun c hc k => g_sL_ne (by omega), rfl⟩
theorem mo_puts {σ : Sto} {N : Nt} (h : ModAt σ N) (wf : WfN N) {a b : Nat} {on : Bool} {x : Int32} (hx : x = 0 ↔ on = false) (ha : a < n_n N) (hb : b < n_n N) (hab : a ≠ b) :
    ∃ σ', f_Mo_puts (nI a) (nI b) x σ = some ((), σ') ∧ ModAt σ' (tieN N a b on) ∧ FrJ σ σ' := by
  have hn := wf.1
  obtain ⟨a1, a2, a3⟩ := h.2 a ha
  obtain ⟨b1, b2, b3⟩ := h.2 b hb
  have eja : n_j (tieN N a b on) a = (if on then n_j N a ||| 2 ^ b else nd (n_j N a) (2 ^ b)) := by rw [tieN_j, if_pos rfl]
  have ejb : n_j (tieN N a b on) b = (if on then n_j N b ||| 2 ^ a else nd (n_j N b) (2 ^ a)) := by rw [tieN_j, if_neg (Ne.symm hab), if_pos rfl]
  have hja0 := jn_lt64 wf ha
  have hjb0 := jn_lt64 wf hb
  refine ⟨sL (sL σ 51 a (lN (n_j (tieN N a b on) a))) 51 b (lN (n_j (tieN N a b on) b)), ?_, ?_, FrJ.tr FrJ.sL FrJ.sL⟩
  · unfold f_Mo_puts B_Mo_puts_0 B_Mo_puts_38
    simp only [inb_ok (show a < 40 by omega) (by decide), inb_ok (show b < 40 by omega) (by decide), if_true, nI_clamp (show a < 2 ^ 31 by omega), nI_clamp (show b < 2 ^ 31 by omega), lt1_eq, bit_eq (show a < 64 by omega), bit_eq (show b < 64 by omega), Option.bind_some, hx, a3]
    cases on with
    | false =>
      rw [if_neg (by decide)] at eja ejb
      rw [if_pos rfl, if_pos rfl, lN_nd hja0, g_sL_ne (show ¬ (51 = 51 ∧ b = a) by omega), b3, lN_nd hjb0, ← eja, ← ejb]
    | true =>
      rw [if_pos rfl] at eja ejb
      rw [if_neg (by decide), if_neg (by decide), fb_orL, g_sL_ne (show ¬ (51 = 51 ∧ b = a) by omega), b3, fb_orL, ← eja, ← ejb]
  · refine ⟨h.1, fun p hp => ?_⟩
    have hp' : p < n_n N := hp
    obtain ⟨p1, p2, p3⟩ := h.2 p hp'
    refine ⟨p1, p2, ?_⟩
    by_cases h2 : p = b
    · subst h2; rw [g_sL_eq]
    · rw [g_sL_ne (by omega)]
      by_cases h1 : p = a
      · subst h1; rw [g_sL_eq]
      · rw [g_sL_ne (by omega), p3, tieN_j, if_neg h1, if_neg h2]
/-- a turn of two -/
def flipN (N : Nt) (a b : Nat) : Nt := tieN N a b (!(n_j N a).testBit b)
theorem xor_bit1 (w b : Nat) : w ^^^ 2 ^ b = if w.testBit b then nd w (2 ^ b) else w ||| 2 ^ b := by
  apply Nat.eq_of_testBit_eq
  intro i
  rw [Nat.testBit_xor, Nat.testBit_two_pow]
  by_cases hi : b = i
  · subst hi
    cases hb : w.testBit b <;> simp [hb, nd_bit, Nat.testBit_or, Nat.testBit_two_pow]
  · split <;> simp [hi, nd_bit, Nat.testBit_or, Nat.testBit_two_pow]
theorem mo_flips {σ : Sto} {N : Nt} (h : ModAt σ N) (wf : WfN N) {a b : Nat} (ha : a < n_n N) (hb : b < n_n N) (hab : a ≠ b) :
    ∃ σ', f_Mo_flips (nI a) (nI b) σ = some ((), σ') ∧ ModAt σ' (flipN N a b) ∧ FrJ σ σ' := by
  have hn := wf.1
  obtain ⟨a1, a2, a3⟩ := h.2 a ha
  obtain ⟨b1, b2, b3⟩ := h.2 b hb
  have hsym : (n_j N b).testBit a = (n_j N a).testBit b := ((wf.2 a ha).2.2.2.2 b hb).symm
  have eja : n_j (flipN N a b) a = n_j N a ^^^ 2 ^ b := by
    unfold flipN
    rw [tieN_j, if_pos rfl, xor_bit1]
    cases (n_j N a).testBit b <;> rfl
  have ejb : n_j (flipN N a b) b = n_j N b ^^^ 2 ^ a := by
    unfold flipN
    rw [tieN_j, if_neg (Ne.symm hab), if_pos rfl, xor_bit1, hsym]
    cases (n_j N a).testBit b <;> rfl
  refine ⟨sL (sL σ 51 a (lN (n_j (flipN N a b) a))) 51 b (lN (n_j (flipN N a b) b)), ?_, ?_, FrJ.tr FrJ.sL FrJ.sL⟩
  · unfold f_Mo_flips B_Mo_flips_0
    simp only [inb_ok (show a < 40 by omega) (by decide), inb_ok (show b < 40 by omega) (by decide), if_true, nI_clamp (show a < 2 ^ 31 by omega), nI_clamp (show b < 2 ^ 31 by omega), lt1_eq, bit_eq (show a < 64 by omega), bit_eq (show b < 64 by omega), Option.bind_some, a3, fb_xorL]
    rw [g_sL_ne (show ¬ (51 = 51 ∧ b = a) by omega), b3, fb_xorL, ← eja, ← ejb]
  · refine ⟨h.1, fun p hp => ?_⟩
    have hp' : p < n_n N := hp
    obtain ⟨p1, p2, p3⟩ := h.2 p hp'
    refine ⟨p1, p2, ?_⟩
    by_cases h2 : p = b
    · subst h2; rw [g_sL_eq]
    · rw [g_sL_ne (by omega)]
      by_cases h1 : p = a
      · subst h1; rw [g_sL_eq]
      · rw [g_sL_ne (by omega), p3]
        unfold flipN
        rw [tieN_j, if_neg h1, if_neg h2]
