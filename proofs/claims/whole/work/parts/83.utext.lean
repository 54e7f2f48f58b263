/-! text: the reference's next token -/
def tkA (L : Nat) (b : Nat → Nat) (a : Nat) : Nat × Nat × Nat :=
  if a = L then (0, L, L) else if isL (b a) = true then (1, a, rnN (fun i => isL (b i)) (L - (a + 1)) (a + 1)) else if isD (b a) = true then (2, a, rnN (fun i => isD (b i)) (L - (a + 1)) (a + 1)) else if b a = 59 then (3, a, a + 1) else (4, a, a + 1)
theorem nxT_A (L : Nat) (b : Nat → Nat) (z : Nat) : nxT L b z = tkA L b (rnN (fun i => decide (b i = 32)) (L - z) z) := rfl
theorem mo_n_180 {σ : Sto} (h : ¬ gI σ 48 25 = (2 : Int32)) : L_Mo_next_180 LF σ = some ((), σ) := by
  obtain ⟨F, hF⟩ : ∃ F, LF = F + 1 := ⟨999999, rfl⟩
  rw [hF]
  show B_Mo_next_180 (L_Mo_next_180 F) _ = _
  unfold B_Mo_next_180
  rw [if_neg h]
theorem mo_n_144 {σ : Sto} (h : ¬ gI σ 48 25 = (1 : Int32)) : L_Mo_next_144 LF σ = L_Mo_next_180 LF σ := by
  obtain ⟨F, hF⟩ : ∃ F, LF = F + 1 := ⟨999999, rfl⟩
  have : L_Mo_next_144 (F + 1) σ = L_Mo_next_180 LF σ := by
    show B_Mo_next_144 (L_Mo_next_144 F) _ = _
    unfold B_Mo_next_144
    rw [if_neg h]
  rw [← this, ← hF]
theorem mo_n_go {L a : Nat} {b : Nat → Nat} (wt : WfT L b) (ha : a ≤ L) (hs : a < L → b a ≠ 32) (fu : Nat) {σ : Sto} (h : TxM σ L b) (h6 : gI σ 48 26 = nI a) : ∃ σ', L_Mo_next_8 (fu + 1) σ = some ((), σ') ∧ TkM σ' b (tkA L b a) ∧ FrL σ σ' := by
  have hL := wt.1
  have fr : FrL σ (sI σ 48 27 (nI a)) := FrL.sI (by omega)
  have tx := h.frL fr
  have g6 : gI (sI σ 48 27 (nI a)) 48 26 = nI a := by rw [g_sI_ne (by omega)]; exact h6
  have g7 : gI (sI σ 48 27 (nI a)) 48 27 = nI a := g_sI_eq _ _ _ _
  have e1 : f_Mo_isAt (nI a) 32 32 σ = some (false, σ) := by
    by_cases e : a = L
    · rw [e]; exact mo_isAtEnd wt h 32 32
    · rw [show f_Mo_isAt (nI a) 32 32 σ = _ from mo_isAt wt h (show a < L by omega) (lo := 32) (hi := 32) (by decide) (by decide)]
      have := hs (by omega)
      congr 2
      simp only [Bool.and_eq_false_iff, decide_eq_false_iff_not]
      omega
  have at2 : ∀ (t : Nat) (x : Int32), FrL σ (sI (sI (sI σ 48 27 (nI a)) 48 25 (nI t)) 48 28 x) := fun t x => (fr.tr (FrL.sI (by omega))).tr (FrL.sI (by omega))
  have q5 : ∀ (t : Nat) (x : Int32), gI (sI (sI (sI σ 48 27 (nI a)) 48 25 (nI t)) 48 28 x) 48 25 = nI t := fun t x => by rw [g_sI_ne (by omega), g_sI_eq]
  have q6 : ∀ (t : Nat) (x : Int32), gI (sI (sI (sI σ 48 27 (nI a)) 48 25 (nI t)) 48 28 x) 48 26 = nI a := fun t x => by rw [g_sI_ne (by omega), g_sI_ne (by omega)]; exact g6
  have q7 : ∀ (t : Nat) (x : Int32), gI (sI (sI (sI σ 48 27 (nI a)) 48 25 (nI t)) 48 28 x) 48 27 = nI a := fun t x => by rw [g_sI_ne (by omega), g_sI_ne (by omega)]; exact g7
  have big : ∀ t : Nat, 3 ≤ t → t ≤ 4 → ∃ σ', L_Mo_next_144 LF (sI (sI (sI (sI σ 48 27 (nI a)) 48 25 (nI t)) 48 28 (nI 0)) 48 27 (nI (a + 1))) = some ((), σ') ∧ TkM σ' b (t, a, a + 1) ∧ FrL σ σ' := fun t h1 h2 => by
    have p5 : gI (sI (sI (sI (sI σ 48 27 (nI a)) 48 25 (nI t)) 48 28 (nI 0)) 48 27 (nI (a + 1))) 48 25 = nI t := by rw [g_sI_ne (by omega)]; exact q5 t _
    refine ⟨_, by rw [mo_n_144 (by rw [p5, show (1 : Int32) = nI 1 from rfl, nI_eq (by omega) (by decide)]; omega), mo_n_180 (by rw [p5, show (2 : Int32) = nI 2 from rfl, nI_eq (by omega) (by decide)]; omega)], ⟨p5, by rw [g_sI_ne (by omega)]; exact q6 t _, g_sI_eq _ _ _ _, ?_⟩, (at2 t _).tr (FrL.sI (by omega))⟩
    rw [g_sI_ne (by omega), g_sI_eq]
    unfold vlT
    rw [if_neg (show ¬ (t = 2) by omega)]
  show ∃ σ', B_Mo_next_8 (L_Mo_next_8 fu) σ = some ((), σ') ∧ _
  unfold B_Mo_next_8
  rw [h6, e1, Option.bind_some, ite_bf]
  simp only [h6, g6, tx.1]
  unfold tkA
  by_cases hend : a = L
  · rw [if_pos hend, if_pos (by rw [hend]), lt1_eq]
    simp only [show (0 : Int32) = nI 0 from rfl, q5]
    rw [if_pos (show nI 0 ≤ (2 : Int32) by decide +kernel), mo_n_144 (by rw [q5]; decide +kernel), mo_n_180 (by rw [q5]; decide +kernel)]
    refine ⟨_, rfl, ⟨q5 0 _, by rw [q6, hend], by rw [q7, hend], g_sI_eq _ _ _ _⟩, at2 0 _⟩
  have haL : a < L := by omega
  rw [if_neg hend, if_neg (show ¬ (nI a = nI L) by rw [nI_eq (by omega) (by omega)]; exact hend), show f_Mo_isAt (nI a) 97 122 (sI σ 48 27 (nI a)) = some (isL (b a), _) from mo_isAt wt tx haL (lo := 97) (hi := 122) (by decide) (by decide), Option.bind_some]
  simp only [g6]
  cases hl : isL (b a) with
  | true =>
    rw [ite_bt, if_pos rfl]
    simp only [show (1 : Int32) = nI 1 from rfl, show (0 : Int32) = nI 0 from rfl, q5]
    rw [if_pos (show nI 1 ≤ (2 : Int32) by decide +kernel)]
    obtain ⟨σ', x1, x2, x3⟩ := mo_n_letters wt (a := a) (L - a) LF a (sI (sI (sI σ 48 27 (nI a)) 48 25 (nI 1)) 48 28 (nI 0)) (by omega) (by rw [LF_big]; omega) (h.frL (at2 1 _)) (q5 1 _) (q6 1 _) (q7 1 _) (g_sI_eq _ _ _ _)
    rw [show L - a = (L - (a + 1)) + 1 by omega, rnN_s, if_pos hl] at x2
    exact ⟨σ', x1, x2, (at2 1 _).tr x3⟩
  | false =>
    rw [ite_bf, if_neg (show ¬ (false = true) by decide), show f_Mo_isAt (nI a) 48 57 (sI σ 48 27 (nI a)) = some (isD (b a), _) from mo_isAt wt tx haL (lo := 48) (hi := 57) (by decide) (by decide), Option.bind_some]
    simp only [g6]
    cases hd : isD (b a) with
    | true =>
      rw [ite_bt, if_pos rfl]
      simp only [show (2 : Int32) = nI 2 from rfl, show (0 : Int32) = nI 0 from rfl, q5]
      rw [if_pos (show nI 2 ≤ nI 2 by decide +kernel), mo_n_144 (by rw [q5]; decide +kernel)]
      obtain ⟨σ', x1, x2, x3⟩ := mo_n_digits wt (a := a) (L - a) LF a (sI (sI (sI σ 48 27 (nI a)) 48 25 (nI 2)) 48 28 (nI 0)) (by omega) (by rw [LF_big]; omega) (Nat.le_refl _) (fun i h1 h2 => by omega) (h.frL (at2 2 _)) (q5 2 _) (q6 2 _) (q7 2 _) (by rw [g_sI_eq]; unfold vpT; rw [if_pos rfl])
      rw [show L - a = (L - (a + 1)) + 1 by omega, rnN_s, if_pos hd] at x2
      exact ⟨σ', x1, x2, (at2 2 _).tr x3⟩
    | false =>
      have e59 : f_Mo_isAt (nI a) 59 59 (sI σ 48 27 (nI a)) = some (decide (b a = 59), sI σ 48 27 (nI a)) := by
        rw [show f_Mo_isAt (nI a) 59 59 (sI σ 48 27 (nI a)) = _ from mo_isAt wt tx haL (lo := 59) (hi := 59) (by decide) (by decide)]
        by_cases e : b a = 59
        · rw [e]; rfl
        · rw [decide_eq_false e]
          congr 2
          simp only [Bool.and_eq_false_iff, decide_eq_false_iff_not]
          omega
      rw [ite_bf, if_neg (show ¬ (false = true) by decide), e59, Option.bind_some]
      by_cases e : b a = 59
      · rw [if_pos e, decide_eq_true e, ite_bt]
        simp only [show (3 : Int32) = nI 3 from rfl, show (0 : Int32) = nI 0 from rfl, q5, q7, nI_1, lt1_eq]
        rw [if_neg (show ¬ (nI 3 ≤ (2 : Int32)) by decide +kernel)]
        exact big 3 (by omega) (by omega)
      · rw [if_neg e, decide_eq_false e, ite_bf]
        simp only [show (4 : Int32) = nI 4 from rfl, show (0 : Int32) = nI 0 from rfl, q5, q7, nI_1, lt1_eq]
        rw [if_neg (show ¬ (nI 4 ≤ (2 : Int32)) by decide +kernel)]
        exact big 4 (by omega) (by omega)
theorem mo_n_skip {L : Nat} {b : Nat → Nat} (wt : WfT L b) : ∀ (k fu p : Nat) (σ : Sto), p + k = L → k < fu → TxM σ L b → gI σ 48 26 = nI p → ∃ σ', L_Mo_next_8 fu σ = some ((), σ') ∧ TkM σ' b (tkA L b (rnN (fun i => decide (b i = 32)) k p)) ∧ FrL σ σ' := by
  have hL := wt.1
  intro k
  induction k with
  | zero =>
    intro fu p σ hp hf h h6
    obtain ⟨fu, rfl⟩ : ∃ z, fu = z + 1 := ⟨fu - 1, by omega⟩
    exact mo_n_go wt (a := p) (by omega) (fun z => by omega) fu h h6
  | succ k ih =>
    intro fu p σ hp hf h h6
    obtain ⟨fu, rfl⟩ : ∃ z, fu = z + 1 := ⟨fu - 1, by omega⟩
    rw [rnN_s]
    by_cases hb : b p = 32
    · rw [if_pos (decide_eq_true hb)]
      have fr : FrL σ (sI σ 48 26 (nI (p + 1))) := FrL.sI (by omega)
      obtain ⟨σ', a1, a2, a3⟩ := ih fu (p + 1) (sI σ 48 26 (nI (p + 1))) (by omega) (by omega) (h.frL fr) (g_sI_eq _ _ _ _)
      refine ⟨σ', ?_, a2, fr.tr a3⟩
      rw [← a1]
      show B_Mo_next_8 (L_Mo_next_8 fu) _ = _
      unfold B_Mo_next_8
      rw [h6, show f_Mo_isAt (nI p) 32 32 σ = _ from mo_isAt wt h (show p < L by omega) (lo := 32) (hi := 32) (by decide) (by decide), hb, Option.bind_some]
      simp only [h6, nI_1]
      rw [if_neg (by decide)]
    · rw [if_neg (by rw [decide_eq_false hb]; decide)]
      exact mo_n_go wt (by omega) (fun _ => hb) fu h h6
theorem mo_next {L z : Nat} {b : Nat → Nat} (wt : WfT L b) (hz : z ≤ L) {σ : Sto} (h : TxM σ L b) (h7 : gI σ 48 27 = nI z) : ∃ σ', f_Mo_next σ = some ((), σ') ∧ TkM σ' b (nxT L b z) ∧ FrL σ σ' := by
  have hL := wt.1
  have fr : FrL σ (sI σ 48 26 (nI z)) := FrL.sI (by omega)
  obtain ⟨σ', a1, a2, a3⟩ := mo_n_skip wt (L - z) LF z (sI σ 48 26 (nI z)) (by omega) (by rw [LF_big]; omega) (h.frL fr) (g_sI_eq _ _ _ _)
  refine ⟨σ', ?_, by rw [nxT_A]; exact a2, fr.tr a3⟩
  unfold f_Mo_next B_Mo_next_0
  rw [h7]; exact a1
