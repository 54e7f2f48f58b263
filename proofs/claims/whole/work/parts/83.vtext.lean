/-! text: the deeds -/
def prT (vb f l p q : Nat) : Bool := if vb = 3 then (decide (q = p + 1) || (decide (p = f) && decide (q = l))) else true
def d1N (vb : Nat) (N : Nt) (p q : Nat) : Nt := if vb = 4 then flipN N p q else tieN N p q true
def diN (vb f l p : Nat) : Nat → Nat → Nt → Nt
  | 0, _, N => N
  | k + 1, q, N => diN vb f l p k (q + 1) (if prT vb f l p q = true then d1N vb N p q else N)
def doN (vb f l : Nat) : Nat → Nat → Nt → Nt
  | 0, _, N => N
  | k + 1, p, N => doN vb f l k (p + 1) (diN vb f l p (k + 1) (p + 1) N)
def deN (vb f l : Nat) (N : Nt) : Nt := if vb = 0 then tieN N f l true else if vb = 1 then tieN N f l false else doN vb f l (l - f) f N
theorem diN_s (vb f l p k q : Nat) (N : Nt) : diN vb f l p (k + 1) q N = diN vb f l p k (q + 1) (if prT vb f l p q = true then d1N vb N p q else N) := rfl
theorem doN_s (vb f l k p : Nat) (N : Nt) : doN vb f l (k + 1) p N = doN vb f l k (p + 1) (diN vb f l p (k + 1) (p + 1) N) := rfl
theorem d1N_ok {vb p q : Nat} {N : Nt} (wf : WfN N) (hp : p < n_n N) (hq : q < n_n N) (h : p ≠ q) : WfN (d1N vb N p q) ∧ n_n (d1N vb N p q) = n_n N := by
  unfold d1N
  split
  · exact ⟨fl_wf wf hp hq h, rfl⟩
  · exact ⟨tieN_wf wf hp hq h, rfl⟩
theorem diN_ok {vb f l p : Nat} : ∀ (k q : Nat) (N : Nt), WfN N → p < q → q + k ≤ n_n N → WfN (diN vb f l p k q N) ∧ n_n (diN vb f l p k q N) = n_n N := by
  intro k
  induction k with
  | zero => intro q N wf _ _; exact ⟨wf, rfl⟩
  | succ k ih =>
    intro q N wf hpq hq
    rw [diN_s]
    by_cases h : prT vb f l p q = true
    · rw [if_pos h]
      obtain ⟨a1, a2⟩ := d1N_ok (vb := vb) wf (show p < n_n N by omega) (show q < n_n N by omega) (by omega)
      obtain ⟨b1, b2⟩ := ih (q + 1) _ a1 (by omega) (by omega)
      exact ⟨b1, by rw [b2, a2]⟩
    · rw [if_neg h]; exact ih (q + 1) N wf (by omega) (by omega)
theorem doN_ok {vb f l : Nat} : ∀ (k p : Nat) (N : Nt), WfN N → p + k = l → l < n_n N → WfN (doN vb f l k p N) ∧ n_n (doN vb f l k p N) = n_n N := by
  intro k
  induction k with
  | zero => intro p N wf _ _; exact ⟨wf, rfl⟩
  | succ k ih =>
    intro p N wf hp hl
    rw [doN_s]
    obtain ⟨a1, a2⟩ := diN_ok (vb := vb) (f := f) (l := l) (p := p) (k + 1) (p + 1) N wf (by omega) (by omega)
    obtain ⟨b1, b2⟩ := ih (p + 1) _ a1 (by omega) (by omega)
    exact ⟨b1, by rw [b2, a2]⟩
/-- one pair, on either side -/
theorem tp_one {vb p q o : Nat} {N : Nt} {σ : Sto} (h : NetAt σ o N) (wf : WfN N) (hp : p < n_n N) (hq : q < n_n N) (hpq : p ≠ q) (hvb : vb < 5) {k47 : Nat → Int32 → Int32 → Int32 → Int32 → Int32 → Sto → Option (Unit × Sto)} {x2 x3 : Int32} : ∃ σ', B_Tape_carryOut_98 k47 o (nI vb) x2 x3 (nI p) (nI q) σ = k47 o (nI vb) x2 x3 (nI p) (nI (q + 1)) σ' ∧ NetAt σ' o (d1N vb N p q) ∧ FrN o σ σ' := by
  unfold B_Tape_carryOut_98 d1N
  simp only [show (4 : Int32) = nI 4 from rfl, nI_eq (show vb < 2 ^ 31 by omega) (show 4 < 2 ^ 31 by decide)]
  by_cases e : vb = 4
  · rw [if_pos e, if_pos e, nt_isTied h wf hp hq, Option.bind_some]
    unfold flipN
    cases (n_j N p).testBit q with
    | false =>
      obtain ⟨σ', e, g1, g2⟩ := nt_tie h wf (on := true) (x := 1) (by simp) hp hq hpq
      exact ⟨σ', by rw [ite_bf, e, Option.bind_some, nI_1], g1, g2⟩
    | true =>
      obtain ⟨σ', e, g1, g2⟩ := nt_tie h wf (on := false) (x := 0) (by simp) hp hq hpq
      exact ⟨σ', by rw [ite_bt, e, Option.bind_some, nI_1], g1, g2⟩
  · rw [if_neg e, if_neg e]
    obtain ⟨σ', e, g1, g2⟩ := nt_tie h wf (on := true) (x := 1) (by simp) hp hq hpq
    exact ⟨σ', by rw [e, Option.bind_some, nI_1], g1, g2⟩
theorem tp_row {vb f l p o : Nat} (hvb : vb < 5) {k28 : Nat → Int32 → Int32 → Int32 → Int32 → Sto → Option (Unit × Sto)} : ∀ (k fu q : Nat) (N : Nt) (σ : Sto), q + k = l + 1 → k < fu → p < q → NetAt σ o N → WfN N → l < n_n N → f < n_n N → ∃ σ', L_Tape_carryOut_47 k28 fu o (nI vb) (nI f) (nI l) (nI p) (nI q) σ = k28 o (nI vb) (nI f) (nI l) (nI (p + 1)) σ' ∧ NetAt σ' o (diN vb f l p k q N) ∧ FrN o σ σ' := by
  intro k
  induction k with
  | zero =>
    intro fu q N σ hq hf hpq h wf hl hfn
    have hn := wf.1
    obtain ⟨fu, rfl⟩ : ∃ z, fu = z + 1 := ⟨fu - 1, by omega⟩
    refine ⟨σ, ?_, h, FrN.rf⟩
    show B_Tape_carryOut_47 k28 (L_Tape_carryOut_47 k28 fu) _ _ _ _ _ _ _ = _
    unfold B_Tape_carryOut_47
    rw [if_pos ((nI_ltN (by omega) (by omega)).2 (by omega)), nI_1]
  | succ k ih =>
    intro fu q N σ hq hf hpq h wf hl hfn
    have hn := wf.1
    obtain ⟨fu, rfl⟩ : ∃ z, fu = z + 1 := ⟨fu - 1, by omega⟩
    have e0 : L_Tape_carryOut_47 k28 (fu + 1) o (nI vb) (nI f) (nI l) (nI p) (nI q) σ = if prT vb f l p q = true then B_Tape_carryOut_98 (L_Tape_carryOut_47 k28 fu) o (nI vb) (nI f) (nI l) (nI p) (nI q) σ else L_Tape_carryOut_47 k28 fu o (nI vb) (nI f) (nI l) (nI p) (nI (q + 1)) σ := by
      show B_Tape_carryOut_47 k28 (L_Tape_carryOut_47 k28 fu) _ _ _ _ _ _ _ = _
      unfold B_Tape_carryOut_47
      rw [if_neg (fun z => by have := (nI_ltN (by omega) (by omega)).1 z; omega), if_neg (show ¬ ((40 : Int32) ≤ nI q) from nI_ge (b := 40) (by omega) (by decide))]
      simp only [nI_1, nI_eq (show q < 2 ^ 31 by omega) (show p + 1 < 2 ^ 31 by omega), show (3 : Int32) = nI 3 from rfl, nI_eq (show vb < 2 ^ 31 by omega) (show 3 < 2 ^ 31 by decide), nI_eq (show p < 2 ^ 31 by omega) (show f < 2 ^ 31 by omega), nI_eq (show q < 2 ^ 31 by omega) (show l < 2 ^ 31 by omega), show ¬ ((1 : Int32) = 0) by decide +kernel, if_false, if_true]
      unfold prT
      by_cases h1 : vb = 3
      · by_cases h2 : q = p + 1
        · simp [h1, h2]
        · by_cases h3 : p = f
          · by_cases h4 : q = l
            · simp [h1, h2, h3, h4]
            · simp [h1, h2, h3, h4]
          · simp [h1, h2, h3]
      · simp [h1]
    rw [e0, diN_s]
    by_cases hpr : prT vb f l p q = true
    · rw [if_pos hpr, if_pos hpr]
      obtain ⟨σ1, a1, a2, a3⟩ := tp_one h wf (vb := vb) (show p < n_n N by omega) (show q < n_n N by omega) (by omega) hvb (k47 := L_Tape_carryOut_47 k28 fu) (x2 := nI f) (x3 := nI l)
      obtain ⟨w1, w2⟩ := d1N_ok (vb := vb) wf (show p < n_n N by omega) (show q < n_n N by omega) (by omega)
      obtain ⟨σ', b1, b2, b3⟩ := ih fu (q + 1) _ σ1 (by omega) (by omega) (by omega) a2 w1 (by omega) (by omega)
      exact ⟨σ', by rw [a1]; exact b1, b2, a3.tr b3⟩
    · rw [if_neg hpr, if_neg hpr]
      exact ih fu (q + 1) N σ (by omega) (by omega) (by omega) h wf hl hfn
theorem tp_rows {vb f l o : Nat} (hvb : vb < 5) : ∀ (k fu p : Nat) (N : Nt) (σ : Sto), p + k = l → k < fu → NetAt σ o N → WfN N → l < n_n N → f < n_n N → ∃ σ', L_Tape_carryOut_28 fu o (nI vb) (nI f) (nI l) (nI p) σ = some ((), σ') ∧ NetAt σ' o (doN vb f l k p N) ∧ FrN o σ σ' := by
  intro k
  induction k with
  | zero =>
    intro fu p N σ hp hf h wf hl hfn
    have hn := wf.1
    obtain ⟨fu, rfl⟩ : ∃ z, fu = z + 1 := ⟨fu - 1, by omega⟩
    refine ⟨σ, ?_, h, FrN.rf⟩
    show B_Tape_carryOut_28 (L_Tape_carryOut_28 fu) _ _ _ _ _ _ = _
    unfold B_Tape_carryOut_28
    rw [if_pos (nI_le (by omega) (by omega))]
  | succ k ih =>
    intro fu p N σ hp hf h wf hl hfn
    have hn := wf.1
    obtain ⟨fu, rfl⟩ : ∃ z, fu = z + 1 := ⟨fu - 1, by omega⟩
    obtain ⟨σ1, a1, a2, a3⟩ := tp_row (vb := vb) (f := f) (l := l) (p := p) (o := o) hvb (k28 := L_Tape_carryOut_28 fu) (k + 1) LF (p + 1) N σ (by omega) (by rw [LF_big]; omega) (by omega) h wf hl hfn
    obtain ⟨w1, w2⟩ := diN_ok (vb := vb) (f := f) (l := l) (p := p) (k + 1) (p + 1) N wf (by omega) (by omega)
    obtain ⟨σ', b1, b2, b3⟩ := ih fu (p + 1) _ σ1 (by omega) (by omega) a2 w1 (by omega) (by omega)
    refine ⟨σ', ?_, by rw [doN_s]; exact b2, a3.tr b3⟩
    rw [← b1, ← a1]
    show B_Tape_carryOut_28 (L_Tape_carryOut_28 fu) _ _ _ _ _ _ = _
    unfold B_Tape_carryOut_28
    rw [if_neg (nI_ge (by omega) (by omega)), if_neg (show ¬ ((40 : Int32) ≤ nI p) from nI_ge (b := 40) (by omega) (by decide)), nI_1]
theorem mo_drow {vb f l p : Nat} (hvb : 2 ≤ vb ∧ vb < 5) {k24 : Int32 → Int32 → Int32 → Int32 → Sto → Option (Unit × Sto)} : ∀ (k fu q : Nat) (N : Nt) (σ : Sto), q + k = l + 1 → k < fu → p < q → ModAt σ N → WfN N → l < n_n N → f < n_n N → ∃ σ', L_Mo_does_36 k24 fu (nI vb) (nI f) (nI l) (nI p) (nI q) σ = k24 (nI vb) (nI f) (nI l) (nI (p + 1)) σ' ∧ ModAt σ' (diN vb f l p k q N) ∧ FrJ σ σ' := by
  intro k
  induction k with
  | zero =>
    intro fu q N σ hq hf hpq h wf hl hfn
    have hn := wf.1
    obtain ⟨fu, rfl⟩ : ∃ z, fu = z + 1 := ⟨fu - 1, by omega⟩
    refine ⟨σ, ?_, h, FrJ.rf⟩
    show B_Mo_does_36 k24 (L_Mo_does_36 k24 fu) _ _ _ _ _ _ = _
    unfold B_Mo_does_36
    rw [if_pos ((nI_ltN (by omega) (by omega)).2 (by omega)), nI_1]
  | succ k ih =>
    intro fu q N σ hq hf hpq h wf hl hfn
    have hn := wf.1
    obtain ⟨fu, rfl⟩ : ∃ z, fu = z + 1 := ⟨fu - 1, by omega⟩
    have e0 : L_Mo_does_36 k24 (fu + 1) (nI vb) (nI f) (nI l) (nI p) (nI q) σ = if prT vb f l p q = true then (if vb = 4 then ((f_Mo_flips (nI p) (nI q) σ).bind fun q6 => L_Mo_does_36 k24 fu (nI vb) (nI f) (nI l) (nI p) (nI (q + 1)) q6.2) else ((f_Mo_puts (nI p) (nI q) 1 σ).bind fun q6 => L_Mo_does_36 k24 fu (nI vb) (nI f) (nI l) (nI p) (nI (q + 1)) q6.2)) else L_Mo_does_36 k24 fu (nI vb) (nI f) (nI l) (nI p) (nI (q + 1)) σ := by
      show B_Mo_does_36 k24 (L_Mo_does_36 k24 fu) _ _ _ _ _ _ = _
      unfold B_Mo_does_36
      rw [if_neg (fun z => by have := (nI_ltN (by omega) (by omega)).1 z; omega)]
      simp only [nI_1, nI_eq (show q < 2 ^ 31 by omega) (show p + 1 < 2 ^ 31 by omega), show (4 : Int32) = nI 4 from rfl, show (2 : Int32) = nI 2 from rfl, nI_eq (show vb < 2 ^ 31 by omega) (show 4 < 2 ^ 31 by decide), nI_eq (show vb < 2 ^ 31 by omega) (show 2 < 2 ^ 31 by decide), nI_eq (show p < 2 ^ 31 by omega) (show f < 2 ^ 31 by omega), nI_eq (show q < 2 ^ 31 by omega) (show l < 2 ^ 31 by omega)]
      unfold prT
      rcases (show vb = 2 ∨ vb = 3 ∨ vb = 4 by omega) with h1 | h1 | h1
      · simp [h1]
      · by_cases h2 : q = p + 1
        · simp [h1, h2]
        · by_cases h3 : p = f
          · by_cases h4 : q = l
            · simp [h1, h2, h3, h4]
            · simp [h1, h2, h3, h4]
          · simp [h1, h2, h3]
      · simp [h1]
    rw [e0, diN_s]
    by_cases hpr : prT vb f l p q = true
    · rw [if_pos hpr, if_pos hpr]
      obtain ⟨w1, w2⟩ := d1N_ok (vb := vb) wf (show p < n_n N by omega) (show q < n_n N by omega) (by omega)
      by_cases e4 : vb = 4
      · obtain ⟨σ1, a1, a2, a3⟩ := mo_flips h wf (show p < n_n N by omega) (show q < n_n N by omega) (by omega)
        obtain ⟨σ', b1, b2, b3⟩ := ih fu (q + 1) (d1N vb N p q) σ1 (by omega) (by omega) (by omega) (by unfold d1N; rw [if_pos e4]; exact a2) w1 (by omega) (by omega)
        exact ⟨σ', by rw [if_pos e4, a1, Option.bind_some]; exact b1, b2, a3.tr b3⟩
      · obtain ⟨σ1, a1, a2, a3⟩ := mo_puts h wf (on := true) (x := 1) (by simp) (show p < n_n N by omega) (show q < n_n N by omega) (by omega)
        obtain ⟨σ', b1, b2, b3⟩ := ih fu (q + 1) (d1N vb N p q) σ1 (by omega) (by omega) (by omega) (by unfold d1N; rw [if_neg e4]; exact a2) w1 (by omega) (by omega)
        exact ⟨σ', by rw [if_neg e4, a1, Option.bind_some]; exact b1, b2, a3.tr b3⟩
    · rw [if_neg hpr, if_neg hpr]
      exact ih fu (q + 1) N σ (by omega) (by omega) (by omega) h wf hl hfn
