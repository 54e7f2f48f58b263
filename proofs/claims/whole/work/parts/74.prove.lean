theorem fr_isClaim {σ : Sto} {N : Nt} (hN : NetAt σ 1 N) (wf : WfN N) (a b c d : Int32) {u : Nat} (hu : u < 2 ^ 64) : f_FR_isClaim a b c d (lN u) σ = some (ptB a 5 && (oneB b && oneB c && decide (u < 2 ^ n_n N)) && decide (0 ≤ d), σ) := by
  unfold f_FR_isClaim B_FR_isClaim_0
  simp only [fr_isRule, ptL_w, Option.bind_some, fr_isAsked hN wf b c hu]
  cases ptB a 5
  · simp [ite_bf]
  cases (oneB b && oneB c && decide (u < 2 ^ n_n N))
  · simp [ite_bf, ite_bt]
  by_cases hd : d < 0
  · simp only [ite_bt, if_pos hd, decide_eq_false (Int32.not_le.mpr hd)]; rfl
  · simp only [ite_bt, if_neg hd, decide_eq_true (Int32.not_lt.mp hd)]; rfl
theorem mo_isProved {σ : Sto} {N : Nt} (hN : ModAt σ N) (wf : WfN N) (a b c d : Int32) {u : Nat} (hu : u < 2 ^ 64) : f_Mo_isProved a b c d (lN u) σ = some (ptB a 5 && (oneB b && oneB c && decide (u < 2 ^ n_n N)) && decide (0 ≤ d), σ) := by
  unfold f_Mo_isProved B_Mo_isProved_0
  simp only [mo_isRule, mo_isOne, Option.bind_some, mo_isSet hN wf hu]
  cases ptB a 5
  · simp [ite_bf]
  cases oneB b
  · simp [ite_bf, ite_bt]
  cases oneB c
  · simp [ite_bf, ite_bt]
  by_cases hd : d < 0
  · simp only [ite_bt, if_pos hd, decide_eq_false (Int32.not_le.mpr hd), Bool.and_false]
  · simp only [ite_bt, if_neg hd, decide_eq_true (Int32.not_lt.mp hd), Bool.and_true, Bool.true_and]
    cases decide (u < 2 ^ n_n N) <;> rfl
theorem StOk_one {N : Nt} (wf : WfN N) {w : Nat} (hw : w < 2 ^ n_n N) : StOk N [(w, 0)] := by
  have hp := pcw40 wf hw
  generalize hq : pc w = q at hp
  refine ⟨hw, ?_, ?_, trivial⟩
  · show pc w + 0 ≤ 40
    rw [hq]; omega
  · show 0 + 300 * pc w ≤ 19200
    rw [hq]; omega
