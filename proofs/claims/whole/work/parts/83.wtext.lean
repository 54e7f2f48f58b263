/-! text: the deeds as a whole -/
theorem mo_drows {vb f l : Nat} (hvb : 2 ≤ vb ∧ vb < 5) : ∀ (k fu p : Nat) (N : Nt) (σ : Sto), p + k = l → k + 1 < fu → ModAt σ N → WfN N → l < n_n N → f < n_n N → ∃ σ', L_Mo_does_24 fu (nI vb) (nI f) (nI l) (nI p) σ = some ((), σ') ∧ ModAt σ' (doN vb f l k p N) ∧ FrJ σ σ' := by
  intro k
  induction k with
  | zero =>
    intro fu p N σ hp hf h wf hl hfn
    have hn := wf.1
    obtain ⟨fu, rfl⟩ : ∃ z, fu = z + 2 := ⟨fu - 2, by omega⟩
    obtain ⟨σ1, a1, a2, a3⟩ := mo_drow (vb := vb) (f := f) (l := l) (p := p) hvb (k24 := L_Mo_does_24 (fu + 1)) 0 LF (p + 1) N σ (by omega) (by rw [LF_big]; omega) (by omega) h wf hl hfn
    refine ⟨σ1, ?_, a2, a3⟩
    show B_Mo_does_24 (L_Mo_does_24 (fu + 1)) _ _ _ _ _ = _
    unfold B_Mo_does_24
    rw [if_neg (fun z => by have := (nI_ltN (by omega) (by omega)).1 z; omega), nI_1, a1]
    show B_Mo_does_24 (L_Mo_does_24 fu) _ _ _ _ _ = _
    unfold B_Mo_does_24
    rw [if_pos ((nI_ltN (by omega) (by omega)).2 (by omega))]
  | succ k ih =>
    intro fu p N σ hp hf h wf hl hfn
    have hn := wf.1
    obtain ⟨fu, rfl⟩ : ∃ z, fu = z + 1 := ⟨fu - 1, by omega⟩
    obtain ⟨σ1, a1, a2, a3⟩ := mo_drow (vb := vb) (f := f) (l := l) (p := p) hvb (k24 := L_Mo_does_24 fu) (k + 1) LF (p + 1) N σ (by omega) (by rw [LF_big]; omega) (by omega) h wf hl hfn
    obtain ⟨w1, w2⟩ := diN_ok (vb := vb) (f := f) (l := l) (p := p) (k + 1) (p + 1) N wf (by omega) (by omega)
    obtain ⟨σ', b1, b2, b3⟩ := ih fu (p + 1) _ σ1 (by omega) (by omega) a2 w1 (by omega) (by omega)
    refine ⟨σ', ?_, by rw [doN_s]; exact b2, a3.tr b3⟩
    rw [← b1, ← a1]
    show B_Mo_does_24 (L_Mo_does_24 fu) _ _ _ _ _ = _
    unfold B_Mo_does_24
    rw [if_neg (fun z => by have := (nI_ltN (by omega) (by omega)).1 z; omega), nI_1]
theorem deN_ok {vb f l : Nat} {N : Nt} (wf : WfN N) (hf : f < n_n N) (hl : l < n_n N) (hne : f ≠ l) (hle : 2 ≤ vb → f ≤ l) : WfN (deN vb f l N) ∧ n_n (deN vb f l N) = n_n N := by
  unfold deN
  by_cases h0 : vb = 0
  · rw [if_pos h0]; exact ⟨tieN_wf wf hf hl hne, rfl⟩
  · rw [if_neg h0]
    by_cases h1 : vb = 1
    · rw [if_pos h1]; exact ⟨tieN_wf wf hf hl hne, rfl⟩
    · rw [if_neg h1]; have := hle (by omega); exact doN_ok (l - f) f N wf (by omega) hl
theorem tp_carryOut {vb f l o : Nat} {N : Nt} {σ : Sto} (h : NetAt σ o N) (wf : WfN N) (hvb : vb < 5) (hf : f < n_n N) (hl : l < n_n N) (hne : f ≠ l) (hle : 2 ≤ vb → f ≤ l) : ∃ σ', f_Tape_carryOut o (nI vb) (nI f) (nI l) σ = some ((), σ') ∧ NetAt σ' o (deN vb f l N) ∧ FrN o σ σ' := by
  have hn := wf.1
  unfold f_Tape_carryOut B_Tape_carryOut_0 deN
  simp only [show (0 : Int32) = nI 0 from rfl, show (1 : Int32) = nI 1 from rfl, nI_eq (show vb < 2 ^ 31 by omega) (show 0 < 2 ^ 31 by decide), nI_eq (show vb < 2 ^ 31 by omega) (show 1 < 2 ^ 31 by decide)]
  by_cases h0 : vb = 0
  · rw [if_pos h0, if_pos h0, if_pos h0]
    obtain ⟨σ', e, g1, g2⟩ := nt_tie h wf (on := true) (x := nI 1) (by decide +kernel) hf hl hne
    exact ⟨σ', by rw [e, Option.bind_some], g1, g2⟩
  · rw [if_neg h0, if_neg h0, if_neg h0]
    by_cases h1 : vb = 1
    · rw [if_pos h1, if_pos h1]
      obtain ⟨σ', e, g1, g2⟩ := nt_tie h wf (on := false) (x := nI 0) (by decide +kernel) hf hl hne
      exact ⟨σ', by rw [e, Option.bind_some], g1, g2⟩
    · rw [if_neg h1, if_neg h1]
      have := hle (by omega)
      exact tp_rows hvb (l - f) LF f N σ (by omega) (by rw [LF_big]; omega) h wf hl hf
theorem mo_does {vb f l : Nat} {N : Nt} {σ : Sto} (h : ModAt σ N) (wf : WfN N) (hvb : vb < 5) (hf : f < n_n N) (hl : l < n_n N) (hne : f ≠ l) (hle : 2 ≤ vb → f ≤ l) : ∃ σ', f_Mo_does (nI vb) (nI f) (nI l) σ = some ((), σ') ∧ ModAt σ' (deN vb f l N) ∧ FrJ σ σ' := by
  have hn := wf.1
  unfold f_Mo_does B_Mo_does_0 deN
  simp only [show (2 : Int32) = nI 2 from rfl, show (0 : Int32) = nI 0 from rfl, nI_leI (show 2 < 2 ^ 31 by decide) (show vb < 2 ^ 31 by omega), nI_eq (show vb < 2 ^ 31 by omega) (show 0 < 2 ^ 31 by decide)]
  by_cases h2 : 2 ≤ vb
  · rw [if_pos h2, if_neg (by omega), if_neg (by omega)]
    have := hle h2
    exact mo_drows ⟨h2, hvb⟩ (l - f) LF f N σ (by omega) (by rw [LF_big]; omega) h wf hl hf
  · rw [if_neg h2]
    by_cases h0 : vb = 0
    · rw [if_pos h0, if_pos h0]
      obtain ⟨σ', e, g1, g2⟩ := mo_puts h wf (on := true) (x := 1) (by simp) hf hl hne
      exact ⟨σ', by rw [e, Option.bind_some], g1, g2⟩
    · rw [if_neg h0, if_neg h0, if_pos (by omega)]
      obtain ⟨σ', e, g1, g2⟩ := mo_puts h wf (on := false) (x := nI 0) (by decide +kernel) hf hl hne
      exact ⟨σ', by rw [e, Option.bind_some], g1, g2⟩
