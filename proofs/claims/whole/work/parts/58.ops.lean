/-! a row remade: sheet -/
theorem jf_loop {o m : Nat} {v : Int32} (hl : ln o = m) (hm : m < 2 ^ 31) : ∀ (k fu p : Nat) (σ : Sto), p + k = m → k < fu → ∃ σ', L_JArrays_fill_5 fu o v (nI p) (nI m) σ = some ((), σ') ∧ (∀ i, p ≤ i → i < m → gI σ' o i = v) ∧ (∀ i, i < p → gI σ' o i = gI σ o i) ∧ (∀ c j, c ≠ o → gI σ' c j = gI σ c j) ∧ (∀ c j, gL σ' c j = gL σ c j) := by
  intro k
  induction k with
  | zero =>
    intro fu p σ hp hf
    obtain ⟨fu, rfl⟩ : ∃ f, fu = f + 1 := ⟨fu - 1, by omega⟩
    refine ⟨σ, ?_, fun i h1 h2 => absurd h2 (by omega), fun _ _ => rfl, fun _ _ _ => rfl, fun _ _ => rfl⟩
    show B_JArrays_fill_5 (L_JArrays_fill_5 fu) _ _ _ _ _ = _
    unfold B_JArrays_fill_5
    rw [if_pos (nI_le (by omega) (by omega))]
  | succ k ih =>
    intro fu p σ hp hf
    obtain ⟨fu, rfl⟩ : ∃ f, fu = f + 1 := ⟨fu - 1, by omega⟩
    obtain ⟨σ', e, f1, f2, f3, f4⟩ := ih fu (p + 1) (sI σ o p v) (by omega) (by omega)
    refine ⟨σ', ?_, fun i h1 h2 => ?_, fun i hi => ?_, fun c j hc => by rw [f3 c j hc, g_sI_ne (by omega)], fun c j => by rw [f4]; rfl⟩
    · show B_JArrays_fill_5 (L_JArrays_fill_5 fu) _ _ _ _ _ = _
      unfold B_JArrays_fill_5
      rw [if_neg (nI_ge (by omega) (by omega)), hl]
      simp only [inb_ok (show p < m by omega) hm, if_true, nI_clamp (show p < 2 ^ 31 by omega), nI_1]
      exact e
    · by_cases e2 : i = p
      · subst e2; rw [f2 i (by omega), g_sI_eq]
      · exact f1 i (by omega) h2
    · rw [f2 i (by omega), g_sI_ne (by omega)]
theorem jf_fill {o m : Nat} (v : Int32) (hl : ln o = m) (hm : m < 1000) (σ : Sto) : ∃ σ', f_JArrays_fill o v σ = some ((), σ') ∧ (∀ i, i < m → gI σ' o i = v) ∧ (∀ c j, c ≠ o → gI σ' c j = gI σ c j) ∧ (∀ c j, gL σ' c j = gL σ c j) := by
  obtain ⟨σ', e, f1, f2, f3, f4⟩ := jf_loop (v := v) hl (by omega) m LF 0 σ (by omega) (by rw [LF_big]; omega)
  refine ⟨σ', ?_, fun i hi => f1 i (by omega) hi, f3, f4⟩
  unfold f_JArrays_fill B_JArrays_fill_0
  rw [hl]
  exact e
theorem sh_remake {q : Nat} (hq : q < 4) (x y : Int32) (σ : Sto) : ∃ σ', f_Sheet_remake (36 + 2 * q) x y σ = some ((), σ') ∧ gI σ' (36 + 2 * q) 0 = x ∧ gI σ' (36 + 2 * q) 1 = mxI 0 (mnI y 60) ∧ (∀ i, i < 60 → gI σ' (37 + 2 * q) i = 0) ∧ (∀ c j, c ≠ 36 + 2 * q → c ≠ 37 + 2 * q → gI σ' c j = gI σ c j ∧ gL σ' c j = gL σ c j) := by
  have hl : ln (37 + 2 * q) = 60 := by
    rcases (show q = 0 ∨ q = 1 ∨ q = 2 ∨ q = 3 by omega) with rfl | rfl | rfl | rfl <;> rfl
  obtain ⟨σ', e, f1, f3, f4⟩ := jf_fill (o := 37 + 2 * q) 0 hl (by decide) (sI (sI σ (36 + 2 * q) 0 x) (36 + 2 * q) 1 (mxI 0 (mnI y 60)))
  refine ⟨σ', ?_, ?_, ?_, f1, fun c j h1 h2 => ⟨?_, ?_⟩⟩
  · unfold f_Sheet_remake B_Sheet_remake_0
    rw [lt1_eq, show 36 + 2 * q + 1 = 37 + 2 * q by omega, e]
    rfl
  · rw [f3 _ _ (by omega), g_sI_ne (by omega), g_sI_eq]
  · rw [f3 _ _ (by omega), g_sI_eq]
  · rw [f3 _ _ h2, g_sI_ne (by omega), g_sI_ne (by omega)]
  · rw [f4]; rfl
theorem mo_row_loop {q : Nat} (hq : q < 4) : ∀ (k fu p : Nat) (σ : Sto), p + k = 60 → k < fu → ∃ σ', L_Mo_becomesRow_25 fu (nI q) (nI p) σ = some ((), σ') ∧ (∀ i, p ≤ i → i < 60 → gI σ' 71 (60 * q + i) = 0) ∧ (∀ j, ¬ (60 * q + p ≤ j ∧ j < 60 * q + 60) → gI σ' 71 j = gI σ 71 j) ∧ (∀ c j, c ≠ 71 → gI σ' c j = gI σ c j) ∧ (∀ c j, gL σ' c j = gL σ c j) := by
  intro k
  induction k with
  | zero =>
    intro fu p σ hp hf
    obtain ⟨fu, rfl⟩ : ∃ f, fu = f + 1 := ⟨fu - 1, by omega⟩
    refine ⟨σ, ?_, fun i h1 h2 => absurd h2 (by omega), fun _ _ => rfl, fun _ _ _ => rfl, fun _ _ => rfl⟩
    show B_Mo_becomesRow_25 (L_Mo_becomesRow_25 fu) _ _ _ = _
    unfold B_Mo_becomesRow_25
    rw [if_pos (show (60 : Int32) ≤ nI p from nI_le (a := 60) (by omega) (by omega))]
  | succ k ih =>
    intro fu p σ hp hf
    obtain ⟨fu, rfl⟩ : ∃ f, fu = f + 1 := ⟨fu - 1, by omega⟩
    obtain ⟨σ', e, f1, f2, f3, f4⟩ := ih fu (p + 1) (sI σ 71 (60 * q + p) 0) (by omega) (by omega)
    refine ⟨σ', ?_, fun i h1 h2 => ?_, fun j hj => ?_, fun c j hc => by rw [f3 c j hc, g_sI_ne (by omega)], fun c j => by rw [f4]; rfl⟩
    · show B_Mo_becomesRow_25 (L_Mo_becomesRow_25 fu) _ _ _ = _
      unfold B_Mo_becomesRow_25
      rw [if_neg (show ¬ ((60 : Int32) ≤ nI p) from nI_ge (b := 60) (by omega) (by decide))]
      simp only [mo_place hq (show p < 60 by omega), inb_ok (show 60 * q + p < 240 by omega) (show 240 < 2 ^ 31 by decide), if_true, nI_clamp (show 60 * q + p < 2 ^ 31 by omega), lt1_eq, nI_1]
      exact e
    · by_cases e2 : i = p
      · subst e2; rw [f2 _ (by omega), g_sI_eq]
      · exact f1 i (by omega) h2
    · rw [f2 j (by omega), g_sI_ne (by omega)]
theorem mo_row {q : Nat} (hq : q < 4) (x y : Int32) (σ : Sto) : ∃ σ', f_Mo_becomesRow (nI q) x y σ = some ((), σ') ∧ gI σ' 69 q = x ∧ gI σ' 70 q = (if 0 ≤ x then y else 0) ∧ (∀ i, i < 60 → gI σ' 71 (60 * q + i) = 0) ∧ (∀ j, ¬ (60 * q ≤ j ∧ j < 60 * q + 60) → gI σ' 71 j = gI σ 71 j) ∧ (∀ c j, c ≠ 71 → ¬ (c = 69 ∧ j = q) → ¬ (c = 70 ∧ j = q) → gI σ' c j = gI σ c j) ∧ (∀ c j, gL σ' c j = gL σ c j) := by
  obtain ⟨σ', e, f1, f2, f3, f4⟩ := mo_row_loop hq 60 LF 0 (sI (sI σ 69 q x) 70 q (if 0 ≤ x then y else 0)) (by omega) (by rw [LF_big]; omega)
  refine ⟨σ', ?_, ?_, ?_, fun i hi => f1 i (by omega) hi, fun j hj => ?_, fun c j h1 h2 h3 => ?_, fun c j => by rw [f4]; rfl⟩
  · unfold f_Mo_becomesRow B_Mo_becomesRow_0
    simp only [inb_ok (show q < 4 by omega) (show 4 < 2 ^ 31 by decide), if_true, nI_clamp (show q < 2 ^ 31 by omega), lt1_eq]
    by_cases h0 : 0 ≤ x
    · rw [if_pos h0] at e ⊢; exact e
    · rw [if_neg h0] at e ⊢; exact e
  · rw [f3 _ _ (by omega), g_sI_ne (by omega), g_sI_eq]
  · rw [f3 _ _ (by omega), g_sI_eq]
  · rw [f2 _ (by omega), g_sI_ne (by omega), g_sI_ne (by omega)]
  · rw [f3 _ _ h1, g_sI_ne (by omega), g_sI_ne (by omega)]
theorem MSt.row {σ σ' : Sto} {A : Ast} (h : MSt σ A) (wf : WfA A) {q m : Nat} {x y : Int32} (k1 : gI σ' 69 q = x) (k2 : gI σ' 70 q = y) (hy : y = nI m) (hm : m ≤ 60) (k3 : ∀ i, i < 60 → gI σ' 71 (60 * q + i) = 0) (k4 : ∀ j, ¬ (60 * q ≤ j ∧ j < 60 * q + 60) → gI σ' 71 j = gI σ 71 j) (k5 : ∀ c j, c ≠ 71 → ¬ (c = 69 ∧ j = q) → ¬ (c = 70 ∧ j = q) → gI σ' c j = gI σ c j) (k6 : ∀ c j, gL σ' c j = gL σ c j) : MSt σ' (setS A q (x, m, fun _ => 0)) :=
  h.shU (fun c j h1 h2 h3 => k5 c j h3 (by omega) (by omega)) k6 (fun j hj => k5 69 j (by omega) (by omega) (by omega)) (fun j hj => k5 70 j (by omega) (by omega) (by omega)) k4 wf k1 (by rw [k2, hy]) (fun i hi => k3 i (by have : i < m := hi; omega))
theorem op_sheet (a0 : Int32) (b1 : Int32) (c2 : Int32) : Op (f_FR_sheet a0 b1 c2) (f_Mo_sheet a0 b1 c2) := by
  cases h1 : ptB a0 4
  · refine Op.ask (fun _ => -2) (fun σ A wf h => ⟨σ, ?_, Scr.rf⟩) (fun σ A wf h => ⟨σ, ?_, Scr.rf⟩)
    · unfold f_FR_sheet B_FR_sheet_0
      simp [fr_isSheet, h1, ite_bf]
    · unfold f_Mo_sheet B_Mo_sheet_0
      simp [mo_isSheet, h1, ite_bf]
  obtain ⟨q, hq, rfl⟩ := ptB_of h1
  have l1 : b1 < -1 ↔ b1.toInt < -1 := by rw [Int32.lt_iff_toInt_lt, show (-1 : Int32).toInt = -1 by decide +kernel]
  have l2 : b1 ≤ 2 ↔ b1.toInt ≤ 2 := by rw [Int32.le_iff_toInt_le, show (2 : Int32).toInt = 2 by decide +kernel]
  have l3 : b1 < 0 ↔ b1.toInt < 0 := by rw [Int32.lt_iff_toInt_lt, Int32.toInt_zero]
  have l3' : 0 ≤ b1 ↔ 0 ≤ b1.toInt := by rw [Int32.le_iff_toInt_le, Int32.toInt_zero]
  have l4 : c2 ≤ 60 ↔ c2.toInt ≤ 60 := by rw [Int32.le_iff_toInt_le, show (60 : Int32).toInt = 60 by decide +kernel]
  have l5 : 0 ≤ c2 ↔ 0 ≤ c2.toInt := by rw [Int32.le_iff_toInt_le, Int32.toInt_zero]
  have l6 : b1 = -1 ↔ b1.toInt = -1 := by rw [← Int32.toInt_inj, show (-1 : Int32).toInt = -1 by decide +kernel]
  have mi : ∀ σ, f_Mo_in (Int32.toInt64 b1) (-1) 2 σ = some (decide (-1 ≤ b1.toInt) && decide (b1.toInt ≤ 2), σ) := fun σ => by
    rw [mo_inI, show (-1 : Int64).toInt = -1 by decide +kernel, show (2 : Int64).toInt = 2 by decide +kernel]
  by_cases g1 : -1 ≤ b1.toInt ∧ b1.toInt ≤ 2
  rotate_left
  · refine Op.ask (fun _ => -2) (fun σ A wf h => ⟨σ, ?_, Scr.rf⟩) (fun σ A wf h => ⟨σ, ?_, Scr.rf⟩)
    · unfold f_FR_sheet B_FR_sheet_0
      simp only [fr_isSheet, h1, ite_bt, Option.bind_some, l1, l2]
      by_cases g2 : b1.toInt < -1
      · rw [if_pos g2]
      · rw [if_neg g2, if_neg (by omega)]
    · unfold f_Mo_sheet B_Mo_sheet_0
      simp only [mo_isSheet, h1, ite_bt, Option.bind_some, mi]
      rw [show (decide (-1 ≤ b1.toInt) && decide (b1.toInt ≤ 2)) = false by simp; omega, ite_bf]
  have hc : ∀ σ : Sto, f_FR_sheet (nI q) b1 c2 σ = (if b1.toInt = -1 then (f_Sheet_remake (36 + 2 * q) (-1) 0 σ).bind (fun q5 => some (1, q5.2)) else (if c2.toInt ≤ 60 then (if 0 ≤ c2.toInt then (f_Sheet_remake (36 + 2 * q) b1 c2 σ).bind (fun q3 => some (1, q3.2)) else some (-14, σ)) else some (-2, σ))) := fun σ => by
    unfold f_FR_sheet B_FR_sheet_0
    simp only [fr_isSheet, h1, ite_bt, Option.bind_some, l1, l2, l4, l5, l6, inb_ok (show q < 4 by omega) (show 4 < 2 ^ 31 by decide), if_true, nI_clamp (show q < 2 ^ 31 by omega)]
    rw [if_neg (by omega), if_pos g1.2]
  have hm : ∀ σ : Sto, f_Mo_sheet (nI q) b1 c2 σ = (if b1.toInt < 0 then (f_Mo_becomesRow (nI q) b1 c2 σ).bind (fun q5 => some (1, q5.2)) else (if c2.toInt ≤ 60 then (if 0 ≤ c2.toInt then (f_Mo_becomesRow (nI q) b1 c2 σ).bind (fun q3 => some (1, q3.2)) else some (-14, σ)) else some (-2, σ))) := fun σ => by
    unfold f_Mo_sheet B_Mo_sheet_0
    simp only [mo_isSheet, h1, ite_bt, Option.bind_some, mi, l3, l4, l5]
    rw [show (decide (-1 ≤ b1.toInt) && decide (b1.toInt ≤ 2)) = true by simp; omega, ite_bt]
    by_cases g2 : b1.toInt < 0
    · simp only [if_pos g2]
    · simp only [if_neg g2]
  by_cases g2 : b1.toInt = -1
  · have hb : b1 = -1 := l6.2 g2
    refine Op.mk (fun _ => 1) (fun A => setS A q (-1, 0, fun _ => 0)) (fun σ A wf h => ?_) (fun σ A wf h => ?_)
    · obtain ⟨σ', e, k1, k2, k3, k4⟩ := sh_remake hq (-1) 0 σ
      exact ⟨σ', by rw [hc, if_pos g2, e]; rfl, setS_wf wf ⟨by simp, Or.inl ⟨rfl, rfl⟩⟩, h.shU k4 hq k1 (by rw [k2]; decide +kernel) (fun i hi => absurd hi (by simp)), fun c j hc => k4 c j (by omega) (by omega)⟩
    · obtain ⟨σ', e, k1, k2, k3, k4, k5, k6⟩ := mo_row hq b1 c2 σ
      refine ⟨σ', by rw [hm, if_pos (by omega), e]; rfl, ?_, fun c j hc => ⟨k5 c j (by omega) (by omega) (by omega), k6 c j⟩⟩
      exact h.row wf (k1.trans hb) k2 (by rw [if_neg (fun z => absurd (l3'.1 z) (by omega))]; rfl) (by omega) k3 k4 k5 k6
  by_cases g3 : c2.toInt ≤ 60
  rotate_left
  · refine Op.ask (fun _ => -2) (fun σ A wf h => ⟨σ, ?_, Scr.rf⟩) (fun σ A wf h => ⟨σ, ?_, Scr.rf⟩)
    · rw [hc, if_neg g2, if_neg g3]
    · rw [hm, if_neg (by omega), if_neg g3]
  by_cases g4 : 0 ≤ c2.toInt
  rotate_left
  · refine Op.ask (fun _ => -14) (fun σ A wf h => ⟨σ, ?_, Scr.rf⟩) (fun σ A wf h => ⟨σ, ?_, Scr.rf⟩)
    · rw [hc, if_neg g2, if_pos g3, if_neg g4]
    · rw [hm, if_neg (by omega), if_pos g3, if_neg g4]
  obtain ⟨m, hm6, rfl⟩ : ∃ m, m ≤ 60 ∧ c2 = nI m := ⟨c2.toInt.toNat, by omega, Int32.toInt_inj.mp (by rw [nI_toInt (by omega)]; omega)⟩
  obtain ⟨t, ht, rfl⟩ : ∃ t, t < 3 ∧ b1 = nI t := ⟨b1.toInt.toNat, by omega, Int32.toInt_inj.mp (by rw [nI_toInt (by omega)]; omega)⟩
  have e1 : mxI 0 (mnI (nI m) 60) = nI m := by
    have : ∀ m, m < 61 → mxI 0 (mnI (nI m) 60) = nI m := by decide +kernel
    exact this m (by omega)
  refine Op.mk (fun _ => 1) (fun A => setS A q (nI t, m, fun _ => 0)) (fun σ A wf h => ?_) (fun σ A wf h => ?_)
  · obtain ⟨σ', e, k1, k2, k3, k4⟩ := sh_remake hq (nI t) (nI m) σ
    refine ⟨σ', by rw [hc, if_neg g2, if_pos g3, if_pos g4, e]; rfl, setS_wf wf ⟨hm6, Or.inr ?_⟩, h.shU k4 hq k1 (by rw [k2, e1]) (fun i hi => k3 i (by have : i < m := hi; omega)), fun c j hc => k4 c j (by omega) (by omega)⟩
    rcases (show t = 0 ∨ t = 1 ∨ t = 2 by omega) with rfl | rfl | rfl
    · exact Or.inl rfl
    · exact Or.inr (Or.inl rfl)
    · exact Or.inr (Or.inr rfl)
  · obtain ⟨σ', e, k1, k2, k3, k4, k5, k6⟩ := mo_row hq (nI t) (nI m) σ
    refine ⟨σ', by rw [hm, if_neg (by omega), if_pos g3, if_pos g4, e]; rfl, ?_, fun c j hc => ⟨k5 c j (by omega) (by omega) (by omega), k6 c j⟩⟩
    exact h.row wf k1 k2 (by rw [if_pos (l3'.2 (by omega))]) hm6 k3 k4 k5 k6
