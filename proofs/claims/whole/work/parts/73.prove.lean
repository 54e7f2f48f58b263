/-! the proof, changed -/
def setP (A : Ast) (P : Ot) : Ast := (A.1, A.2.1, P, A.2.2.2)
theorem setP_wf {A : Ast} (wf : WfA A) {P : Ot} (h : P.1 ≤ 200 ∧ OkO P) : WfA (setP A P) := ⟨wf.1, wf.2.1, h, wf.2.2.2⟩
theorem CSt.pfU {σ σ' : Sto} {A : Ast} {P : Ot} (h : CSt σ A) (hf : ∀ c j, kC c j = true → ¬ (c = 21 ∧ j = 1) → c ≠ 22 → gI σ' c j = gI σ c j ∧ gL σ' c j = gL σ c j) (h1 : gI σ' 21 1 = nI P.1) (h2 : ∀ i, i < P.1 → gI σ' 22 i = P.2 i) : CSt σ' (setP A P) := by
  -- a store that is σ' but for the proof
  have hA : CSt σ (setP A P) → True := fun _ => trivial
  obtain ⟨a1, a2, _, ⟨a4, a4b⟩, a5, a6⟩ := h
  have k0 : ∀ c j, c < 11 → kC c j = true := fun c j hc => by simp [kC, hc]
  have k3 : ∀ c j, 34 ≤ c → kC c j = true := fun c j hc => by simp [kC, hc]
  refine ⟨a1.scr (fun c j _ b => (hf c j (k0 c j (by omega)) (by omega) (by omega)).1) (fun j => (hf 4 j (k0 4 j (by omega)) (by omega) (by omega)).2), ?_, ⟨h1, h2⟩, ⟨?_, ?_⟩, ?_, ?_⟩
  · show (match s_K A with | none => gI σ' 0 3 = 0 | some N => gI σ' 0 3 = 1 ∧ NetAt σ' 6 N)
    cases hK : s_K A with
    | none => rw [hK] at a2; exact ((hf 0 3 (k0 _ _ (by omega)) (by omega) (by omega)).1).trans a2
    | some N => rw [hK] at a2; exact ⟨((hf 0 3 (k0 _ _ (by omega)) (by omega) (by omega)).1).trans a2.1, a2.2.scr (fun c j _ b => (hf c j (k0 c j (by omega)) (by omega) (by omega)).1) (fun j => (hf 9 j (k0 9 j (by omega)) (by omega) (by omega)).2)⟩
  · rw [(hf 31 0 (by decide) (by omega) (by omega)).1]; exact a4
  · intro i hi
    rw [(hf 32 i (by simp [kC]) (by omega) (by omega)).1]; exact a4b i hi
  · intro q hq
    obtain ⟨x1, x2, x3⟩ := a5 q hq
    exact ⟨by rw [(hf _ _ (k3 _ _ (by omega)) (by omega) (by omega)).1]; exact x1, by rw [(hf _ _ (k3 _ _ (by omega)) (by omega) (by omega)).1]; exact x2, fun i hi => by rw [(hf _ _ (k3 _ _ (by omega)) (by omega) (by omega)).1]; exact x3 i hi⟩
  · intro q hq
    obtain ⟨x1, x2, x3⟩ := a6 q hq
    exact ⟨by rw [(hf _ _ (k3 _ _ (by omega)) (by omega) (by omega)).1]; exact x1, fun z => ⟨by rw [(hf _ _ (k3 _ _ (by omega)) (by omega) (by omega)).1]; exact (x2 z).1, by rw [(hf _ _ (k3 _ _ (by omega)) (by omega) (by omega)).1]; exact (x2 z).2⟩, fun z => by rw [(hf _ _ (k3 _ _ (by omega)) (by omega) (by omega)).2]; exact x3 z⟩
theorem MSt.pfU {σ σ' : Sto} {A : Ast} {P : Ot} (h : MSt σ A) (hf : ∀ c j, kM c j = true → ¬ (c = 48 ∧ j = 19) → c ≠ 60 → gI σ' c j = gI σ c j ∧ gL σ' c j = gL σ c j) (h1 : gI σ' 48 19 = nI P.1) (h2 : ∀ i, i < P.1 → gI σ' 60 i = P.2 i) : MSt σ' (setP A P) := by
  obtain ⟨a1, a2, _, ⟨a4, a4b⟩, a5, a6⟩ := h
  refine ⟨⟨?_, fun p hp => ?_⟩, ?_, ⟨h1, h2⟩, ⟨?_, ?_⟩, ?_, ?_⟩
  · rw [(hf 48 0 (by decide) (by omega) (by omega)).1]; exact a1.1
  · obtain ⟨x1, x2, x3⟩ := a1.2 p hp
    exact ⟨by rw [(hf 49 p (by simp [kM]) (by omega) (by omega)).1]; exact x1, by rw [(hf 50 p (by simp [kM]) (by omega) (by omega)).1]; exact x2, by rw [(hf 51 p (by simp [kM]) (by omega) (by omega)).2]; exact x3⟩
  · show (match s_K A with | none => gI σ' 48 4 = 0 | some N => gI σ' 48 4 = 1 ∧ gI σ' 48 5 = nI (n_n N) ∧ ∀ p, p < n_n N → gI σ' 52 p = nI (n_k N p) ∧ gI σ' 53 p = nI (n_f N p) ∧ gL σ' 54 p = lN (n_j N p))
    cases hK : s_K A with
    | none => rw [hK] at a2; exact ((hf 48 4 (by decide) (by omega) (by omega)).1).trans a2
    | some N =>
      rw [hK] at a2
      refine ⟨((hf 48 4 (by decide) (by omega) (by omega)).1).trans a2.1, ((hf 48 5 (by decide) (by omega) (by omega)).1).trans a2.2.1, fun p hp => ?_⟩
      obtain ⟨x1, x2, x3⟩ := a2.2.2 p hp
      exact ⟨by rw [(hf 52 p (by simp [kM]) (by omega) (by omega)).1]; exact x1, by rw [(hf 53 p (by simp [kM]) (by omega) (by omega)).1]; exact x2, by rw [(hf 54 p (by simp [kM]) (by omega) (by omega)).2]; exact x3⟩
  · rw [(hf 48 24 (by decide) (by omega) (by omega)).1]; exact a4
  · intro i hi
    rw [(hf 62 i (by simp [kM]) (by omega) (by omega)).1]; exact a4b i hi
  · intro q hq
    obtain ⟨x1, x2, x3⟩ := a5 q hq
    exact ⟨by rw [(hf 69 q (by simp [kM]) (by omega) (by omega)).1]; exact x1, by rw [(hf 70 q (by simp [kM]) (by omega) (by omega)).1]; exact x2, fun i hi => by rw [(hf 71 _ (by simp [kM]) (by omega) (by omega)).1]; exact x3 i hi⟩
  · intro q hq
    obtain ⟨x1, x2, x3⟩ := a6 q hq
    exact ⟨by rw [(hf 66 q (by simp [kM]) (by omega) (by omega)).1]; exact x1, fun z => ⟨by rw [(hf 68 q (by simp [kM]) (by omega) (by omega)).1]; exact (x2 z).1, by rw [(hf 67 q (by simp [kM]) (by omega) (by omega)).2]; exact (x2 z).2⟩, fun z => by rw [(hf 67 q (by simp [kM]) (by omega) (by omega)).2]; exact x3 z⟩
theorem mo_prove_loop {P : Nat} {g : Nat → Int32} (hP : P ≤ 200) : ∀ (r fu i : Nat) (σ : Sto), i + r = P → r < fu → gI σ 48 19 = nI P → (∀ j, j < P → gI σ 61 j = g j) → (∀ j, j < i → gI σ 60 j = g j) →
    ∃ σ', L_Mo_prove_55 fu (nI i) σ = some (nI P, σ') ∧ (∀ j, j < P → gI σ' 60 j = g j) ∧ (∀ c j, c ≠ 60 → gI σ' c j = gI σ c j) ∧ (∀ c j, gL σ' c j = gL σ c j) := by
  intro r
  induction r with
  | zero =>
    intro fu i σ hi hf h1 h2 h5
    obtain ⟨fu, rfl⟩ : ∃ f, fu = f + 1 := ⟨fu - 1, by omega⟩
    refine ⟨σ, ?_, fun j hj => h5 j (by omega), fun _ _ _ => rfl, fun _ _ => rfl⟩
    show B_Mo_prove_55 (L_Mo_prove_55 fu) _ _ = _
    unfold B_Mo_prove_55
    rw [h1, if_pos (nI_le (by omega) (by omega))]
  | succ r ih =>
    intro fu i σ hi hf h1 h2 h5
    obtain ⟨fu, rfl⟩ : ∃ f, fu = f + 1 := ⟨fu - 1, by omega⟩
    obtain ⟨σ', e, g1, g3, g4⟩ := ih fu (i + 1) (sI σ 60 i (g i)) (by omega) (by omega) (by rw [g_sI_ne (by omega)]; exact h1) (fun j hj => by rw [g_sI_ne (by omega)]; exact h2 j hj) (fun j hj => by
      by_cases ej : j = i
      · subst ej; rw [g_sI_eq]
      · rw [g_sI_ne (by omega)]; exact h5 j (by omega))
    refine ⟨σ', ?_, g1, fun c j hc => by rw [g3 c j hc, g_sI_ne (by omega)], fun c j => by rw [g4]; rfl⟩
    show B_Mo_prove_55 (L_Mo_prove_55 fu) _ _ = _
    unfold B_Mo_prove_55
    rw [h1, if_neg (nI_ge (by omega) (by omega))]
    simp only [inb_ok (show i < 200 by omega) (show 200 < 2 ^ 31 by decide), if_true, nI_clamp (show i < 2 ^ 31 by omega), lt1_eq, h2 i (by omega), nI_1]
    exact e
