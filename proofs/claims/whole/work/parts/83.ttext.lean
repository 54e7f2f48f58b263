/-! text: the reference's tokens -/
def TxM (σ : Sto) (L : Nat) (b : Nat → Nat) : Prop := gI σ 48 24 = nI L ∧ ∀ i, i < L → gI σ 62 i = nI (b i)
/-- the value of the digits from a up to p, as the reference holds it -/
def vpT (b : Nat → Nat) (a p : Nat) : Nat := if p = a then 0 else if p = a + 1 then b a - 48 else if p = a + 2 then 10 * (b a - 48) + (b (a + 1) - 48) else 999
def vlT (b : Nat → Nat) (k : Nat × Nat × Nat) : Nat := if k.1 = 2 then vpT b k.2.1 k.2.2 else 0
def TkM (σ : Sto) (b : Nat → Nat) (k : Nat × Nat × Nat) : Prop := gI σ 48 25 = nI k.1 ∧ gI σ 48 26 = nI k.2.1 ∧ gI σ 48 27 = nI k.2.2 ∧ gI σ 48 28 = nI (vlT b k)
def FrL (σ σ' : Sto) : Prop := (∀ c j, ¬ (c = 48 ∧ 25 ≤ j ∧ j ≤ 28) → gI σ' c j = gI σ c j) ∧ ∀ c j, gL σ' c j = gL σ c j
theorem FrL.rf {σ : Sto} : FrL σ σ := ⟨fun _ _ _ => rfl, fun _ _ => rfl⟩
theorem FrL.tr {a b c : Sto} (h1 : FrL a b) (h2 : FrL b c) : FrL a c := ⟨fun x y h => (h2.1 x y h).trans (h1.1 x y h), fun x y => (h2.2 x y).trans (h1.2 x y)⟩
theorem FrL.sI {σ : Sto} {j : Nat} {v : Int32} (h : 25 ≤ j ∧ j ≤ 28) : FrL σ (sI σ 48 j v) := ⟨fun c i hc => g_sI_ne (by omega), fun _ _ => rfl⟩
theorem TxM.frL {σ σ' : Sto} {L : Nat} {b : Nat → Nat} (h : TxM σ L b) (hf : FrL σ σ') : TxM σ' L b := ⟨by rw [hf.1 48 24 (by omega)]; exact h.1, fun i hi => by rw [hf.1 62 i (by omega)]; exact h.2 i hi⟩
theorem mo_isAt {σ : Sto} {L : Nat} {b : Nat → Nat} (wt : WfT L b) (h : TxM σ L b) {p lo hi : Nat} (hp : p < L) (h1 : lo < 2 ^ 31) (h2 : hi < 2 ^ 31) : f_Mo_isAt (nI p) (nI lo) (nI hi) σ = some (decide (lo ≤ b p) && decide (b p ≤ hi), σ) := by
  have hL := wt.1
  have hb := wt.2 p hp
  unfold f_Mo_isAt B_Mo_isAt_0
  rw [h.1, if_neg (nI_ge hp (by omega)), if_pos (inb_ok (show p < 160 by omega) (by decide)), nI_clamp (by omega), h.2 p hp, mo_inI, Option.bind_some]
  rw [Int32.toInt_toInt64, Int32.toInt_toInt64, nI_toInt h1, nI_toInt h2, nI_toInt (show b p < 2 ^ 31 by omega)]
  have e : (decide ((lo : Int) ≤ (b p : Int)) && decide ((b p : Int) ≤ (hi : Int))) = (decide (lo ≤ b p) && decide (b p ≤ hi)) := by
    congr 1
    · exact decide_eq_decide.2 Int.ofNat_le
    · exact decide_eq_decide.2 Int.ofNat_le
  rw [e]
  cases (decide (lo ≤ b p) && decide (b p ≤ hi)) with
  | false => rw [ite_bf]
  | true => rw [ite_bt]
theorem mo_isAtEnd {σ : Sto} {L : Nat} {b : Nat → Nat} (wt : WfT L b) (h : TxM σ L b) (x y : Int32) : f_Mo_isAt (nI L) x y σ = some (false, σ) := by
  have hL := wt.1
  unfold f_Mo_isAt B_Mo_isAt_0
  rw [h.1, if_pos (nI_le (Nat.le_refl _) (by omega))]
theorem mo_n_digits {L a : Nat} {b : Nat → Nat} (wt : WfT L b) : ∀ (k fu p : Nat) (σ : Sto), p + k = L → k < fu → a ≤ p → (∀ i, a ≤ i → i < p → isD (b i) = true) → TxM σ L b → gI σ 48 25 = nI 2 → gI σ 48 26 = nI a → gI σ 48 27 = nI p → gI σ 48 28 = nI (vpT b a p) → ∃ σ', L_Mo_next_180 fu σ = some ((), σ') ∧ TkM σ' b (2, a, rnN (fun i => isD (b i)) k p) ∧ FrL σ σ' := by
  have hL := wt.1
  intro k
  induction k with
  | zero =>
    intro fu p σ hp hf hap hdg h h5 h6 h7 h8
    obtain ⟨fu, rfl⟩ : ∃ z, fu = z + 1 := ⟨fu - 1, by omega⟩
    have ep : p = L := by omega
    subst ep
    refine ⟨σ, ?_, ⟨h5, h6, h7, h8⟩, FrL.rf⟩
    show B_Mo_next_180 (L_Mo_next_180 fu) _ = _
    unfold B_Mo_next_180
    rw [h5, if_pos (show nI 2 = (2 : Int32) from rfl), h7, mo_isAtEnd wt h, Option.bind_some, ite_bf]
  | succ k ih =>
    intro fu p σ hp hf hap hdg h h5 h6 h7 h8
    obtain ⟨fu, rfl⟩ : ∃ z, fu = z + 1 := ⟨fu - 1, by omega⟩
    have hpL : p < L := by omega
    have hb := wt.2 p hpL
    have e0 : L_Mo_next_180 (fu + 1) σ = if isD (b p) = true then (if 2 ≤ p - a then L_Mo_next_180 fu (sI (sI σ 48 28 999) 48 27 (nI (p + 1))) else L_Mo_next_180 fu (sI (sI σ 48 28 (nI (10 * vpT b a p + b p) - 48)) 48 27 (nI (p + 1)))) else some ((), σ) := by
      show B_Mo_next_180 (L_Mo_next_180 fu) _ = _
      unfold B_Mo_next_180
      rw [h5, if_pos (show nI 2 = (2 : Int32) from rfl), h7, show f_Mo_isAt (nI p) 48 57 σ = some (isD (b p), σ) from mo_isAt wt h hpL (lo := 48) (hi := 57) (by decide) (by decide), Option.bind_some]
      cases isD (b p) with
      | false => rw [ite_bf, if_neg (show ¬ (false = true) by decide)]
      | true =>
        rw [ite_bt, if_pos rfl]
        simp only [h7, h6, nI_sub hap, show ((2 : Int32) ≤ nI (p - a)) ↔ 2 ≤ p - a from nI_leI (a := 2) (by decide) (show p - a < 2 ^ 31 by omega), inb_ok (show p < 160 by omega) (show 160 < 2 ^ 31 by decide), if_true, lt1_eq, nI_clamp (show p < 2 ^ 31 by omega), h.2 p hpL, h8, show (10 : Int32) = nI 10 from rfl, nI_mul, nI_add]
        by_cases hc : 2 ≤ p - a
        · rw [if_pos hc, if_pos hc, g_sI_ne (by omega), h7, nI_1]
        · rw [if_neg hc, if_neg hc, g_sI_ne (by omega), h7, nI_1]
    rw [e0, rnN_s]
    by_cases hd : isD (b p) = true
    · rw [if_pos hd, if_pos hd]
      have hd' := hd
      simp only [isD, Bool.and_eq_true, decide_eq_true_eq] at hd'
      have hdg' : ∀ i, a ≤ i → i < p + 1 → isD (b i) = true := fun i h1 h2 => by
        by_cases e : i = p
        · rw [e]; exact hd
        · exact hdg i h1 (by omega)
      have step : ∀ x : Int32, x = nI (vpT b a (p + 1)) → ∃ σ', L_Mo_next_180 fu (sI (sI σ 48 28 x) 48 27 (nI (p + 1))) = some ((), σ') ∧ TkM σ' b (2, a, rnN (fun i => isD (b i)) k (p + 1)) ∧ FrL σ σ' := fun x hx => by
        have fr : FrL σ (sI (sI σ 48 28 x) 48 27 (nI (p + 1))) := (FrL.sI (by omega)).tr (FrL.sI (by omega))
        obtain ⟨σ', a1, a2, a3⟩ := ih fu (p + 1) (sI (sI σ 48 28 x) 48 27 (nI (p + 1))) (by omega) (by omega) (by omega) hdg' (h.frL fr) (by rw [g_sI_ne (by omega), g_sI_ne (by omega)]; exact h5) (by rw [g_sI_ne (by omega), g_sI_ne (by omega)]; exact h6) (g_sI_eq _ _ _ _) (by rw [g_sI_ne (by omega), g_sI_eq]; exact hx)
        exact ⟨σ', a1, a2, fr.tr a3⟩
      by_cases hc : 2 ≤ p - a
      · rw [if_pos hc]
        exact step _ (by
          unfold vpT
          rw [if_neg (by omega), if_neg (by omega), if_neg (by omega)]; rfl)
      · rw [if_neg hc]
        refine step _ ?_
        rw [show (48 : Int32) = nI 48 from rfl, nI_sub (by omega)]
        congr 1
        rcases (show p = a ∨ p = a + 1 by omega) with e | e
        · subst e
          unfold vpT
          rw [if_pos rfl, if_neg (by omega), if_pos rfl]; omega
        · subst e
          unfold vpT
          rw [if_neg (by omega), if_pos rfl, if_neg (by omega), if_neg (by omega), if_pos (by omega)]; omega
    · rw [if_neg hd, if_neg hd]
      exact ⟨σ, rfl, ⟨h5, h6, h7, h8⟩, FrL.rf⟩
theorem mo_n_letters {L a : Nat} {b : Nat → Nat} (wt : WfT L b) : ∀ (k fu p : Nat) (σ : Sto), p + k = L → k < fu → TxM σ L b → gI σ 48 25 = nI 1 → gI σ 48 26 = nI a → gI σ 48 27 = nI p → gI σ 48 28 = nI 0 → ∃ σ', L_Mo_next_144 fu σ = some ((), σ') ∧ TkM σ' b (1, a, rnN (fun i => isL (b i)) k p) ∧ FrL σ σ' := by
  have hL := wt.1
  have fin : ∀ (p : Nat) (σ : Sto), gI σ 48 25 = nI 1 → gI σ 48 26 = nI a → gI σ 48 27 = nI p → gI σ 48 28 = nI 0 → L_Mo_next_180 LF σ = some ((), σ) := fun p σ h5 h6 h7 h8 => by
    obtain ⟨F, hF⟩ : ∃ F, LF = F + 1 := ⟨999999, rfl⟩
    rw [hF]
    show B_Mo_next_180 (L_Mo_next_180 F) _ = _
    unfold B_Mo_next_180
    rw [h5, if_neg (show ¬ (nI 1 = (2 : Int32)) by decide +kernel)]
  intro k
  induction k with
  | zero =>
    intro fu p σ hp hf h h5 h6 h7 h8
    obtain ⟨fu, rfl⟩ : ∃ z, fu = z + 1 := ⟨fu - 1, by omega⟩
    have ep : p = L := by omega
    subst ep
    refine ⟨σ, ?_, ⟨h5, h6, h7, h8⟩, FrL.rf⟩
    show B_Mo_next_144 (L_Mo_next_144 fu) _ = _
    unfold B_Mo_next_144
    rw [h5, if_pos (show nI 1 = (1 : Int32) from rfl), h7, mo_isAtEnd wt h, Option.bind_some, ite_bf]
    exact fin _ σ h5 h6 h7 h8
  | succ k ih =>
    intro fu p σ hp hf h h5 h6 h7 h8
    obtain ⟨fu, rfl⟩ : ∃ z, fu = z + 1 := ⟨fu - 1, by omega⟩
    have hpL : p < L := by omega
    have e0 : L_Mo_next_144 (fu + 1) σ = if isL (b p) = true then L_Mo_next_144 fu (sI σ 48 27 (nI (p + 1))) else L_Mo_next_180 LF σ := by
      show B_Mo_next_144 (L_Mo_next_144 fu) _ = _
      unfold B_Mo_next_144
      rw [h5, if_pos (show nI 1 = (1 : Int32) from rfl), h7, show f_Mo_isAt (nI p) 97 122 σ = some (isL (b p), σ) from mo_isAt wt h hpL (lo := 97) (hi := 122) (by decide) (by decide), Option.bind_some]
      cases isL (b p) with
      | false => rw [ite_bf, if_neg (show ¬ (false = true) by decide)]
      | true => rw [ite_bt, if_pos rfl, h7, nI_1]
    rw [e0, rnN_s]
    by_cases hd : isL (b p) = true
    · rw [if_pos hd, if_pos hd]
      have fr : FrL σ (sI σ 48 27 (nI (p + 1))) := FrL.sI (by omega)
      obtain ⟨σ', a1, a2, a3⟩ := ih fu (p + 1) (sI σ 48 27 (nI (p + 1))) (by omega) (by omega) (h.frL fr) (by rw [g_sI_ne (by omega)]; exact h5) (by rw [g_sI_ne (by omega)]; exact h6) (g_sI_eq _ _ _ _) (by rw [g_sI_ne (by omega)]; exact h8)
      exact ⟨σ', a1, a2, fr.tr a3⟩
    · rw [if_neg hd, if_neg hd]
      exact ⟨σ, fin p σ h5 h6 h7 h8, ⟨h5, h6, h7, h8⟩, FrL.rf⟩
