/-! fewest -/
theorem mo_fw_fill {N : Nt} (wf : WfN N) {s w : Nat} (hs : s < 2) (h10 : (mbL w (n_n N)).length ≤ 10) : ∀ (q fu v : Nat) (σ : Sto), v + q = 2 ^ (mbL w (n_n N)).length → q < fu → 1 ≤ v → ModAt σ N → ThM w (n_n N) σ → gI σ 58 0 = nI 0 → (∀ u, 1 ≤ u → u < v → (gI σ 58 u = nI 1 ∧ Loo (mR N s w) u) ∨ (gI σ 58 u = nI 99 ∧ ¬ Loo (mR N s w) u)) → ∃ σ' x, L_Mo_fewest_82 fu (nI s) (nI (mbL w (n_n N)).length) (nI v) σ = some (nI x, σ') ∧ ChiV (mR N s w) (2 ^ (mbL w (n_n N)).length - 1) x ∧ (∀ c j, c ≠ 58 → gI σ' c j = gI σ c j) ∧ (∀ c j, gL σ' c j = gL σ c j) := by
  intro q
  have h1024 : 2 ^ (mbL w (n_n N)).length ≤ 1024 := Nat.le_trans (two_pow_le h10) (by decide)
  induction q with
  | zero =>
    intro fu v σ hv hf h1 hN hT h0 hI
    obtain ⟨fu, rfl⟩ : ∃ z, fu = z + 1 := ⟨fu - 1, by omega⟩
    obtain ⟨σ', x, a1, a2, a3, a4⟩ := mo_fw_out (r := mR N s w) h10 (fun a ha => mR_irr wf ha) (2 ^ (mbL w (n_n N)).length - 1) LF 1 σ (by omega) (by rw [LF_big]; omega) (Nat.le_refl _) (fun u hu => ⟨0, by rw [show u = 0 by omega]; exact h0, by rw [show u = 0 by omega]; exact chi_zero, by omega⟩) (fun u h2 h3 => hI u h2 (by omega))
    refine ⟨σ', x, ?_, a2, a3, a4⟩
    show B_Mo_fewest_82 (L_Mo_fewest_82 fu) _ _ _ _ = _
    unfold B_Mo_fewest_82
    rw [ishI _ (by omega), if_pos (nI_le (by omega) (by omega))]
    exact a1
  | succ q ih =>
    intro fu v σ hv hf h1 hN hT h0 hI
    obtain ⟨fu, rfl⟩ : ∃ z, fu = z + 1 := ⟨fu - 1, by omega⟩
    obtain ⟨b, b1, b2⟩ := mo_isLoose wf hs h10 (show v < 2 ^ (mbL w (n_n N)).length by omega) hN hT
    obtain ⟨y, hy⟩ : ∃ y, y = if b = true then nI 1 else nI 99 := ⟨_, rfl⟩
    have nx : ModAt (sI σ 58 v y) N := ⟨by rw [g_sI_ne (by omega)]; exact hN.1, fun x hx => by
      obtain ⟨x1, x2, x3⟩ := hN.2 x hx
      exact ⟨by rw [g_sI_ne (by omega)]; exact x1, by rw [g_sI_ne (by omega)]; exact x2, x3⟩⟩
    obtain ⟨σ', x, a1, a2, a3, a4⟩ := ih fu (v + 1) (sI σ 58 v y) (by omega) (by omega) (by omega) nx (fun i hi => by rw [g_sI_ne (by omega)]; exact hT i hi) (by rw [g_sI_ne (by omega)]; exact h0) (fun u h2 h3 => by
      by_cases e : u = v
      · rw [e, g_sI_eq, hy]
        by_cases hb : b = true
        · rw [if_pos hb]; exact Or.inl ⟨rfl, b2.1 hb⟩
        · rw [if_neg hb]; exact Or.inr ⟨rfl, fun z => hb (b2.2 z)⟩
      · rw [g_sI_ne (by omega)]; exact hI u h2 (by omega))
    refine ⟨σ', x, ?_, a2, fun c j h => by rw [a3 c j h, g_sI_ne (by omega)], fun c j => by rw [a4]; rfl⟩
    rw [← a1]
    show B_Mo_fewest_82 (L_Mo_fewest_82 fu) _ _ _ _ = _
    unfold B_Mo_fewest_82
    rw [ishI _ (by omega), if_neg (nI_ge (by omega) (by omega)), b1, Option.bind_some, hy]
    simp only [inb_ok (show v < 1024 by omega) (show 1024 < 2 ^ 31 by decide), if_true, nI_clamp (show v < 2 ^ 31 by omega), nI_1]
    cases b with
    | false => rw [ite_bf, if_neg (by decide)]; rfl
    | true => rw [ite_bt, if_pos rfl]; rfl
theorem mo_fw_all {N : Nt} (wf : WfN N) {s w : Nat} (hs : s < 2) (hw : w < 2 ^ n_n N) (h10 : (mbL w (n_n N)).length ≤ 10) : ∀ (k fu p : Nat) (σ : Sto), p + k = n_n N → k < fu → ModAt σ N → (∀ i, i < (mbL w p).length → gI σ 59 i = nI ((mbL w p).getD i 0)) → ∃ σ' x, L_Mo_fewest_36 fu (nI s) (lN w) (nI (mbL w p).length) (nI p) σ = some (nI x, σ') ∧ ChiV (mR N s w) (2 ^ (mbL w (n_n N)).length - 1) x ∧ (∀ c j, c ≠ 58 → c ≠ 59 → gI σ' c j = gI σ c j) ∧ (∀ c j, gL σ' c j = gL σ c j) := by
  intro k
  have hn := wf.1
  have hw64 := lt64 wf hw
  have h1024 : 2 ^ (mbL w (n_n N)).length ≤ 1024 := Nat.le_trans (two_pow_le h10) (by decide)
  have hp1 := Nat.two_pow_pos (mbL w (n_n N)).length
  have md : ∀ {σ : Sto} {c : Nat} {j : Nat} {y : Int32}, (c = 58 ∨ c = 59) → ModAt σ N → ModAt (sI σ c j y) N := fun {σ c j y} hc hN => ⟨by rw [g_sI_ne (by omega)]; exact hN.1, fun x hx => by
    obtain ⟨x1, x2, x3⟩ := hN.2 x hx
    exact ⟨by rw [g_sI_ne (by omega)]; exact x1, by rw [g_sI_ne (by omega)]; exact x2, x3⟩⟩
  induction k with
  | zero =>
    intro fu p σ hp hf hN hT
    obtain ⟨fu, rfl⟩ : ∃ z, fu = z + 1 := ⟨fu - 1, by omega⟩
    have ep : p = n_n N := by omega
    subst ep
    obtain ⟨σ', x, a1, a2, a3, a4⟩ := mo_fw_fill wf hs h10 (2 ^ (mbL w (n_n N)).length - 1) LF 1 (sI σ 58 0 (nI 0)) (by omega) (by rw [LF_big]; omega) (Nat.le_refl _) (md (by omega) hN) (fun i hi => by rw [g_sI_ne (by omega)]; exact hT i hi) (g_sI_eq _ _ _ _) (fun u h2 h3 => by omega)
    refine ⟨σ', x, ?_, a2, fun c j h h' => by rw [a3 c j h, g_sI_ne (by omega)], fun c j => by rw [a4]; rfl⟩
    show B_Mo_fewest_36 (L_Mo_fewest_36 fu) _ _ _ _ _ = _
    unfold B_Mo_fewest_36
    rw [hN.1, if_pos (nI_le (by omega) (by omega)), if_pos (show inb 0 1024 = true by decide +kernel)]
    exact a1
  | succ k ih =>
    intro fu p σ hp hf hN hT
    obtain ⟨fu, rfl⟩ : ∃ z, fu = z + 1 := ⟨fu - 1, by omega⟩
    have hle := mbL_le w (p + 1) k
    rw [show p + 1 + k = n_n N by omega, mbL_s] at hle
    have e0 : L_Mo_fewest_36 (fu + 1) (nI s) (lN w) (nI (mbL w p).length) (nI p) σ = if w.testBit p = true then L_Mo_fewest_36 fu (nI s) (lN w) (nI ((mbL w p).length + 1)) (nI (p + 1)) (sI σ 59 (mbL w p).length (nI p)) else L_Mo_fewest_36 fu (nI s) (lN w) (nI (mbL w p).length) (nI (p + 1)) σ := by
      show B_Mo_fewest_36 (L_Mo_fewest_36 fu) _ _ _ _ _ = _
      unfold B_Mo_fewest_36
      rw [hN.1, if_neg (nI_ge (by omega) (by omega)), has_eq hw64 (by omega), Option.bind_some]
      cases hb : w.testBit p with
      | false => rw [ite_bf, if_neg (by decide), nI_1]
      | true =>
        rw [hb, if_pos rfl, List.length_append, show ([p] : List Nat).length = 1 from rfl] at hle
        rw [ite_bt, if_pos rfl, if_pos (inb_ok (show (mbL w p).length < 10 by omega) (by decide)), nI_clamp (by omega), nI_1, nI_1]
    rw [e0]
    by_cases hb : w.testBit p = true
    · rw [if_pos hb]
      have eL : mbL w (p + 1) = mbL w p ++ [p] := by rw [mbL_s, if_pos hb]
      have ell : (mbL w (p + 1)).length = (mbL w p).length + 1 := by rw [eL, List.length_append]; rfl
      obtain ⟨σ', x, a1, a2, a3, a4⟩ := ih fu (p + 1) (sI σ 59 (mbL w p).length (nI p)) (by omega) (by omega) (md (by omega) hN) (fun i hi => by
        rw [ell] at hi
        rw [eL, getD_snoc hi]
        by_cases e : i = (mbL w p).length
        · rw [if_pos e, e, g_sI_eq]
        · rw [if_neg e, g_sI_ne (by omega)]; exact hT i (by omega))
      rw [ell] at a1
      exact ⟨σ', x, a1, a2, fun c j h h' => by rw [a3 c j h h', g_sI_ne (by omega)], fun c j => by rw [a4]; rfl⟩
    · rw [if_neg hb]
      have eL : mbL w (p + 1) = mbL w p := by rw [mbL_s, if_neg hb]
      have := ih fu (p + 1) σ (by omega) (by omega) hN (by rw [eL]; exact hT)
      rw [eL] at this
      exact this
theorem pc10 {w : Nat} : (nI (pc w) ≤ (10 : Int32)) ↔ pc w ≤ 10 := by
  have : pc w ≤ 64 := pcK_le 64 w
  exact nI_leI (b := 10) (by omega) (by decide)
theorem op_fewest (a0 : Int32) (b1 : Int64) : Op (f_FR_fewest a0 b1) (f_Mo_fewest a0 b1) := by
  obtain ⟨u, hu, rfl⟩ := wb_of b1
  cases h1 : oneB a0
  · refine Op.ask (fun _ => -2) (fun σ A wf h => ⟨σ, ?_, Scr.rf⟩) (fun σ A wf h => ⟨σ, ?_, Scr.rf⟩)
    · unfold f_FR_fewest B_FR_fewest_0
      simp [fr_isSideAndSet h.net wf.1 a0 hu, h1, ite_bf]
    · unfold f_Mo_fewest B_Mo_fewest_0
      simp [mo_isOne, h1, ite_bf]
  obtain ⟨s, hs, rfl⟩ := oneB_of h1
  rintro σ ⟨A, wf, hC, hM⟩
  have fin : ∀ r : Int32, f_FR_fewest (nI s) (lN u) σ = some (r, σ) → f_Mo_fewest (nI s) (lN u) σ = some (r, σ) → ∃ (r : Int32) (σ1 σ2 : Sto), f_FR_fewest (nI s) (lN u) σ = some (r, σ1) ∧ f_Mo_fewest (nI s) (lN u) σ1 = some (r, σ2) ∧ St σ2 := fun r x y => ⟨r, σ, σ, x, y, A, wf, hC, hM⟩
  by_cases h3 : u < 2 ^ n_n (s_N A)
  rotate_left
  · refine fin (-2) ?_ ?_
    · unfold f_FR_fewest B_FR_fewest_0
      simp only [fr_isSideAndSet hC.net wf.1 (nI s) hu, h1, Bool.true_and, Option.bind_some, decide_eq_false h3, ite_bf]
    · unfold f_Mo_fewest B_Mo_fewest_0
      simp only [mo_isOne, h1, mo_isSet hM.net wf.1 hu, Option.bind_some, ite_bt, decide_eq_false h3, ite_bf]
  by_cases h4 : pc u ≤ 10
  rotate_left
  · refine fin (-5) ?_ ?_
    · unfold f_FR_fewest B_FR_fewest_0
      simp only [fr_isSideAndSet hC.net wf.1 (nI s) hu, h1, Bool.true_and, Option.bind_some, decide_eq_true h3, ite_bt, bitCount_eq hu, pc10, if_neg h4]
    · unfold f_Mo_fewest B_Mo_fewest_0
      simp only [mo_isOne, h1, mo_isSet hM.net wf.1 hu, Option.bind_some, ite_bt, decide_eq_true h3, many_eq hu, pc10, if_neg h4]
  have h10 : (mbL u (n_n (s_N A))).length ≤ 10 := by
    have := wf.1.1
    rw [mbL_len, ← pc_lt h3 (by omega)]; exact h4
  obtain ⟨σ1, x, e1, c1, r1⟩ := fi_fewest wf.1 hs h3 h10 hC.net
  have s1 := r1.kFC
  have hM1 := hM.scrC s1
  obtain ⟨σ2, y, e2, c2, r2, r3⟩ := mo_fw_all wf.1 hs h3 h10 (n_n (s_N A)) LF 0 σ1 (by omega) (by have := wf.1.1; rw [LF_big]; omega) hM1.net (fun i hi => absurd hi (Nat.not_lt_zero i))
  have exy : y = x := c2.uniq c1
  have s2 : Scr kM σ1 σ2 := fun c j hc => by
    have : c ≠ 58 ∧ c ≠ 59 := by
      revert hc
      unfold kM
      simp only [Bool.or_eq_true, Bool.and_eq_true, decide_eq_true_eq]
      omega
    exact ⟨r2 c j this.1 this.2, r3 c j⟩
  refine ⟨nI x, σ1, σ2, ?_, ?_, A, wf, (hC.scrC s1).scrM s2, hM1.scrM s2⟩
  · unfold f_FR_fewest B_FR_fewest_0
    simp only [fr_isSideAndSet hC.net wf.1 (nI s) hu, h1, Bool.true_and, Option.bind_some, decide_eq_true h3, ite_bt, bitCount_eq hu, pc10, if_pos h4]
    rw [e1, Option.bind_some]
  · unfold f_Mo_fewest B_Mo_fewest_0
    simp only [mo_isOne, h1, mo_isSet hM1.net wf.1 hu, Option.bind_some, ite_bt, decide_eq_true h3, many_eq hu, pc10, if_pos h4]
    rw [← exy]
    exact e2
