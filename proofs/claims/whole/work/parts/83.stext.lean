/-! text: the tokens -/
def rnN (P : Nat → Bool) : Nat → Nat → Nat
  | 0, p => p
  | k + 1, p => if P p = true then rnN P k (p + 1) else p
theorem rnN_s (P : Nat → Bool) (k p : Nat) : rnN P (k + 1) p = if P p = true then rnN P k (p + 1) else p := rfl
theorem rnN_le (P : Nat → Bool) : ∀ k p, p ≤ rnN P k p ∧ rnN P k p ≤ p + k := by
  intro k
  induction k with
  | zero => intro p; exact ⟨Nat.le_refl _, Nat.le_refl _⟩
  | succ k ih =>
    intro p
    rw [rnN_s]
    split
    · have := ih (p + 1); omega
    · omega
def isL (x : Nat) : Bool := decide (97 ≤ x) && decide (x ≤ 122)
def isD (x : Nat) : Bool := decide (48 ≤ x) && decide (x ≤ 57)
/-- the next token: sort, start, stop -/
def nxT (L : Nat) (b : Nat → Nat) (z : Nat) : Nat × Nat × Nat :=
  let a := rnN (fun i => decide (b i = 32)) (L - z) z
  if a = L then (0, L, L) else if isL (b a) = true then (1, a, rnN (fun i => isL (b i)) (L - (a + 1)) (a + 1)) else if isD (b a) = true then (2, a, rnN (fun i => isD (b i)) (L - (a + 1)) (a + 1)) else if b a = 59 then (3, a, a + 1) else (4, a, a + 1)
def sb (x : Nat) : Int32 := vp_nar .byte (nI x)
theorem sb_L : ∀ x, x < 256 → (if sb x < 97 then false else if (122 : Int32) < sb x then false else true) = isL x := by decide +kernel
theorem sb_D : ∀ x, x < 256 → (if sb x < 48 then false else if (57 : Int32) < sb x then false else true) = isD x := by decide +kernel
theorem sb_32 : ∀ x, x < 256 → (sb x = 32 ↔ x = 32) := by decide +kernel
theorem sb_59 : ∀ x, x < 256 → (sb x = 59 ↔ x = 59) := by decide +kernel
theorem tp_isLetter {x : Nat} (hx : x < 256) (σ : Sto) : f_Tape_isLetter (sb x) σ = some (isL x, σ) := by
  rw [← sb_L x hx]
  unfold f_Tape_isLetter B_Tape_isLetter_0
  by_cases h1 : sb x < 97
  · rw [if_pos h1, if_pos h1]
  · rw [if_neg h1, if_neg h1]
    by_cases h2 : (122 : Int32) < sb x
    · rw [if_pos h2, if_pos h2]
    · rw [if_neg h2, if_neg h2]
theorem tp_isDigit {x : Nat} (hx : x < 256) (σ : Sto) : f_Tape_isDigit (sb x) σ = some (isD x, σ) := by
  rw [← sb_D x hx]
  unfold f_Tape_isDigit B_Tape_isDigit_0
  by_cases h1 : sb x < 48
  · rw [if_pos h1, if_pos h1]
  · rw [if_neg h1, if_neg h1]
    by_cases h2 : (57 : Int32) < sb x
    · rw [if_pos h2, if_pos h2]
    · rw [if_neg h2, if_neg h2]
def TxC (σ : Sto) (L : Nat) (b : Nat → Nat) : Prop := gI σ 31 0 = nI L ∧ ∀ i, i < L → gI σ 32 i = sb (b i)
def WfT (L : Nat) (b : Nat → Nat) : Prop := L ≤ 160 ∧ ∀ i, i < L → b i < 256
def TkC (σ : Sto) (k : Nat × Nat × Nat) : Prop := gI σ 31 2 = nI k.1 ∧ gI σ 31 3 = nI k.2.1 ∧ gI σ 31 4 = nI k.2.2
/-- nothing but the token changed -/
def FrK (σ σ' : Sto) : Prop := (∀ c j, ¬ (c = 31 ∧ 2 ≤ j ∧ j ≤ 4) → gI σ' c j = gI σ c j) ∧ ∀ c j, gL σ' c j = gL σ c j
theorem FrK.rf {σ : Sto} : FrK σ σ := ⟨fun _ _ _ => rfl, fun _ _ => rfl⟩
theorem FrK.tr {a b c : Sto} (h1 : FrK a b) (h2 : FrK b c) : FrK a c := ⟨fun x y h => (h2.1 x y h).trans (h1.1 x y h), fun x y => (h2.2 x y).trans (h1.2 x y)⟩
theorem FrK.sI {σ : Sto} {j : Nat} {v : Int32} (h : 2 ≤ j ∧ j ≤ 4) : FrK σ (sI σ 31 j v) := ⟨fun c i hc => g_sI_ne (by omega), fun _ _ => rfl⟩
theorem TxC.frK {σ σ' : Sto} {L : Nat} {b : Nat → Nat} (h : TxC σ L b) (hf : FrK σ σ') : TxC σ' L b := ⟨by rw [hf.1 31 0 (by omega)]; exact h.1, fun i hi => by rw [hf.1 32 i (by omega)]; exact h.2 i hi⟩
theorem tp_byteAt {σ : Sto} {L : Nat} {b : Nat → Nat} (wt : WfT L b) (h : TxC σ L b) {p : Nat} (hp : p < L) : f_Tape_byteAt (nI p) σ = some (sb (b p), σ) := by
  have hL := wt.1
  unfold f_Tape_byteAt B_Tape_byteAt_0
  rw [if_neg (nI_pos (by omega)), h.1, if_neg (nI_ge hp (by omega)), if_neg (show ¬ ((160 : Int32) ≤ nI p) from nI_ge (b := 160) (by omega) (by decide)), if_pos (inb_ok (show p < 160 by omega) (by decide)), nI_clamp (by omega), h.2 p hp]
theorem tp_byteEnd {σ : Sto} {L : Nat} {b : Nat → Nat} (wt : WfT L b) (h : TxC σ L b) : f_Tape_byteAt (nI L) σ = some (-1, σ) := by
  have hL := wt.1
  unfold f_Tape_byteAt B_Tape_byteAt_0
  rw [if_neg (nI_pos (by omega)), h.1, if_pos (nI_le (Nat.le_refl _) (by omega))]
theorem tp_letters {L : Nat} {b : Nat → Nat} (wt : WfT L b) : ∀ (k fu p : Nat) (σ : Sto), p + k = L → k < fu → TxC σ L b → gI σ 31 4 = nI p → ∃ σ', L_Tape_advance_103 fu σ = some ((), σ') ∧ gI σ' 31 4 = nI (rnN (fun i => isL (b i)) k p) ∧ gI σ' 31 2 = gI σ 31 2 ∧ gI σ' 31 3 = gI σ 31 3 ∧ FrK σ σ' := by
  have hL := wt.1
  intro k
  induction k with
  | zero =>
    intro fu p σ hp hf h h4
    obtain ⟨fu, rfl⟩ : ∃ z, fu = z + 1 := ⟨fu - 1, by omega⟩
    refine ⟨σ, ?_, h4, rfl, rfl, FrK.rf⟩
    show B_Tape_advance_103 (L_Tape_advance_103 fu) _ = _
    unfold B_Tape_advance_103
    rw [h.1, h4, if_pos (nI_le (by omega) (by omega))]
  | succ k ih =>
    intro fu p σ hp hf h h4
    obtain ⟨fu, rfl⟩ : ∃ z, fu = z + 1 := ⟨fu - 1, by omega⟩
    have e0 : L_Tape_advance_103 (fu + 1) σ = if isL (b p) = true then L_Tape_advance_103 fu (sI σ 31 4 (nI (p + 1))) else some ((), σ) := by
      show B_Tape_advance_103 (L_Tape_advance_103 fu) _ = _
      unfold B_Tape_advance_103
      rw [h.1, h4, if_neg (nI_ge (by omega) (by omega)), tp_byteAt wt h (by omega), Option.bind_some]
      simp only []
      rw [tp_isLetter (wt.2 p (by omega)), Option.bind_some]
      cases isL (b p) with
      | false => rw [ite_bf, if_neg (by decide)]
      | true => rw [ite_bt, if_pos rfl, h4, nI_1]
    rw [e0, rnN_s]
    by_cases hb : isL (b p) = true
    · rw [if_pos hb, if_pos hb]
      obtain ⟨σ', a1, a2, a3, a4, a5⟩ := ih fu (p + 1) (sI σ 31 4 (nI (p + 1))) (by omega) (by omega) (h.frK (FrK.sI (by omega))) (g_sI_eq _ _ _ _)
      exact ⟨σ', a1, a2, by rw [a3, g_sI_ne (by omega)], by rw [a4, g_sI_ne (by omega)], (FrK.sI (by omega)).tr a5⟩
    · rw [if_neg hb, if_neg hb]
      exact ⟨σ, rfl, h4, rfl, rfl, FrK.rf⟩
theorem tp_digits {L : Nat} {b : Nat → Nat} (wt : WfT L b) : ∀ (k fu p : Nat) (σ : Sto), p + k = L → k < fu → TxC σ L b → gI σ 31 4 = nI p → ∃ σ', L_Tape_advance_153 fu σ = some ((), σ') ∧ gI σ' 31 4 = nI (rnN (fun i => isD (b i)) k p) ∧ gI σ' 31 2 = gI σ 31 2 ∧ gI σ' 31 3 = gI σ 31 3 ∧ FrK σ σ' := by
  have hL := wt.1
  intro k
  induction k with
  | zero =>
    intro fu p σ hp hf h h4
    obtain ⟨fu, rfl⟩ : ∃ z, fu = z + 1 := ⟨fu - 1, by omega⟩
    refine ⟨σ, ?_, h4, rfl, rfl, FrK.rf⟩
    show B_Tape_advance_153 (L_Tape_advance_153 fu) _ = _
    unfold B_Tape_advance_153
    rw [h.1, h4, if_pos (nI_le (by omega) (by omega))]
  | succ k ih =>
    intro fu p σ hp hf h h4
    obtain ⟨fu, rfl⟩ : ∃ z, fu = z + 1 := ⟨fu - 1, by omega⟩
    have e0 : L_Tape_advance_153 (fu + 1) σ = if isD (b p) = true then L_Tape_advance_153 fu (sI σ 31 4 (nI (p + 1))) else some ((), σ) := by
      show B_Tape_advance_153 (L_Tape_advance_153 fu) _ = _
      unfold B_Tape_advance_153
      rw [h.1, h4, if_neg (nI_ge (by omega) (by omega)), tp_byteAt wt h (by omega), Option.bind_some]
      simp only []
      rw [tp_isDigit (wt.2 p (by omega)), Option.bind_some]
      cases isD (b p) with
      | false => rw [ite_bf, if_neg (by decide)]
      | true => rw [ite_bt, if_pos rfl, h4, nI_1]
    rw [e0, rnN_s]
    by_cases hb : isD (b p) = true
    · rw [if_pos hb, if_pos hb]
      obtain ⟨σ', a1, a2, a3, a4, a5⟩ := ih fu (p + 1) (sI σ 31 4 (nI (p + 1))) (by omega) (by omega) (h.frK (FrK.sI (by omega))) (g_sI_eq _ _ _ _)
      exact ⟨σ', a1, a2, by rw [a3, g_sI_ne (by omega)], by rw [a4, g_sI_ne (by omega)], (FrK.sI (by omega)).tr a5⟩
    · rw [if_neg hb, if_neg hb]
      exact ⟨σ, rfl, h4, rfl, rfl, FrK.rf⟩
theorem tp_skip {L : Nat} {b : Nat → Nat} (wt : WfT L b) : ∀ (k fu p : Nat) (σ : Sto), p + k = L → k < fu → TxC σ L b → gI σ 31 3 = nI p → ∃ σ', L_Tape_advance_8 fu σ = B_Tape_advance_45 σ' ∧ gI σ' 31 3 = nI (rnN (fun i => decide (b i = 32)) k p) ∧ FrK σ σ' := by
  have hL := wt.1
  intro k
  induction k with
  | zero =>
    intro fu p σ hp hf h h3
    obtain ⟨fu, rfl⟩ : ∃ z, fu = z + 1 := ⟨fu - 1, by omega⟩
    refine ⟨σ, ?_, h3, FrK.rf⟩
    show B_Tape_advance_8 (L_Tape_advance_8 fu) _ = _
    unfold B_Tape_advance_8
    rw [h.1, h3, if_pos (nI_le (by omega) (by omega))]
  | succ k ih =>
    intro fu p σ hp hf h h3
    obtain ⟨fu, rfl⟩ : ∃ z, fu = z + 1 := ⟨fu - 1, by omega⟩
    have e0 : L_Tape_advance_8 (fu + 1) σ = if b p = 32 then L_Tape_advance_8 fu (sI σ 31 3 (nI (p + 1))) else B_Tape_advance_45 σ := by
      show B_Tape_advance_8 (L_Tape_advance_8 fu) _ = _
      unfold B_Tape_advance_8
      rw [h.1, h3, if_neg (nI_ge (by omega) (by omega)), tp_byteAt wt h (by omega), Option.bind_some]
      simp only [sb_32 (b p) (wt.2 p (by omega)), h3, nI_1]
    rw [e0, rnN_s]
    by_cases hb : b p = 32
    · rw [if_pos hb, if_pos (decide_eq_true hb)]
      obtain ⟨σ', a1, a2, a5⟩ := ih fu (p + 1) (sI σ 31 3 (nI (p + 1))) (by omega) (by omega) (h.frK (FrK.sI (by omega))) (g_sI_eq _ _ _ _)
      exact ⟨σ', a1, a2, (FrK.sI (by omega)).tr a5⟩
    · rw [if_neg hb, if_neg (by rw [decide_eq_false hb]; decide)]
      exact ⟨σ, rfl, h3, FrK.rf⟩
theorem tp_advance {L z : Nat} {b : Nat → Nat} (wt : WfT L b) (hz : z ≤ L) {σ : Sto} (h : TxC σ L b) (h4 : gI σ 31 4 = nI z) : ∃ σ', f_Tape_advance σ = some ((), σ') ∧ TkC σ' (nxT L b z) ∧ FrK σ σ' := by
  have hL := wt.1
  obtain ⟨σ1, e1, g3, f1⟩ := tp_skip wt (L - z) LF z (sI σ 31 3 (nI z)) (by omega) (by rw [LF_big]; omega) (h.frK (FrK.sI (by omega))) (g_sI_eq _ _ _ _)
  have f0 : FrK σ σ1 := (FrK.sI (by omega)).tr f1
  have e0 : f_Tape_advance σ = B_Tape_advance_45 σ1 := by
    unfold f_Tape_advance B_Tape_advance_0
    rw [h4]; exact e1
  rw [e0]
  unfold nxT
  obtain ⟨a, ha⟩ : ∃ a, a = rnN (fun i => decide (b i = 32)) (L - z) z := ⟨_, rfl⟩
  have hle := rnN_le (fun i => decide (b i = 32)) (L - z) z
  rw [← ha] at g3 hle
  simp only [← ha]
  have f2 : FrK σ (sI σ1 31 4 (nI (a + 1))) := f0.tr (FrK.sI (by omega))
  have t2 := h.frK f2
  have g32 : gI (sI σ1 31 4 (nI (a + 1))) 31 3 = nI a := by rw [g_sI_ne (by omega)]; exact g3
  unfold B_Tape_advance_45
  rw [g3, nI_1, g32]
  by_cases hend : a = L
  · rw [hend] at g32 f2 t2
    rw [if_pos hend, hend, tp_byteEnd wt t2, Option.bind_some]
    simp only [g32, t2.1]
    rw [if_neg (fun q => by have := (nI_ltN (by omega) (by omega)).1 q; omega), lt1_eq]
    refine ⟨_, rfl, ⟨by rw [g_sI_ne (by omega), g_sI_eq]; rfl, by rw [g_sI_ne (by omega), g_sI_ne (by omega)]; exact g32, by rw [g_sI_eq, g_sI_ne (by omega)]; exact g32⟩, (f2.tr (FrK.sI (by omega))).tr (FrK.sI (by omega))⟩
  rw [if_neg hend, tp_byteAt wt t2 (by omega), Option.bind_some]
  simp only [g32, t2.1]
  rw [if_pos ((nI_ltN (by omega) (by omega)).2 (by omega)), tp_isLetter (wt.2 a (by omega)), Option.bind_some]
  simp only []
  cases hl : isL (b a) with
  | true =>
    rw [ite_bt, if_pos rfl]
    obtain ⟨σ', x1, x2, x3, x4, x5⟩ := tp_letters wt (L - (a + 1)) LF (a + 1) (sI (sI σ1 31 4 (nI (a + 1))) 31 2 1) (by omega) (by rw [LF_big]; omega) (t2.frK (FrK.sI (by omega))) (by rw [g_sI_ne (by omega), g_sI_eq])
    exact ⟨σ', x1, ⟨by rw [x3, g_sI_eq]; rfl, by rw [x4, g_sI_ne (by omega)]; exact g32, x2⟩, (f2.tr (FrK.sI (by omega))).tr x5⟩
  | false =>
    rw [ite_bf, if_neg (show ¬ (false = true) by decide), tp_isDigit (wt.2 a (by omega)), Option.bind_some]
    simp only []
    cases hd : isD (b a) with
    | true =>
      rw [ite_bt, if_pos rfl]
      obtain ⟨σ', x1, x2, x3, x4, x5⟩ := tp_digits wt (L - (a + 1)) LF (a + 1) (sI (sI σ1 31 4 (nI (a + 1))) 31 2 2) (by omega) (by rw [LF_big]; omega) (t2.frK (FrK.sI (by omega))) (by rw [g_sI_ne (by omega), g_sI_eq])
      exact ⟨σ', x1, ⟨by rw [x3, g_sI_eq]; rfl, by rw [x4, g_sI_ne (by omega)]; exact g32, x2⟩, (f2.tr (FrK.sI (by omega))).tr x5⟩
    | false =>
      rw [ite_bf, if_neg (show ¬ (false = true) by decide)]
      simp only [sb_59 (b a) (wt.2 a (by omega))]
      by_cases hs : b a = 59
      · rw [if_pos hs, if_pos hs]
        exact ⟨_, rfl, ⟨by rw [g_sI_eq]; rfl, by rw [g_sI_ne (by omega)]; exact g32, by rw [g_sI_ne (by omega), g_sI_eq]⟩, f2.tr (FrK.sI (by omega))⟩
      · rw [if_neg hs, if_neg hs]
        exact ⟨_, rfl, ⟨by rw [g_sI_eq]; rfl, by rw [g_sI_ne (by omega)]; exact g32, by rw [g_sI_ne (by omega), g_sI_eq]⟩, f2.tr (FrK.sI (by omega))⟩
