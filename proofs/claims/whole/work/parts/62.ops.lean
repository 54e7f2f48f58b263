/-! the proof written into a row: writes -/
theorem i2s_ok {v : Int32} (h : v = -1 ∨ ∃ p, p < 40 ∧ v = nI p) : i2s v = v := by
  rcases h with rfl | ⟨p, hp, rfl⟩
  · decide +kernel
  · have : ∀ p, p < 40 → i2s (nI p) = nI p := by decide +kernel
    exact this p hp
theorem fr_writes_loop {q P : Nat} {g : Nat → Int32} (hq : q < 4) (hP : P ≤ 60) (hg : ∀ i, i < P → g i = -1 ∨ ∃ p, p < 40 ∧ g i = nI p) : ∀ (r fu i : Nat) (σ : Sto), i + r = P → r < fu → gI σ 21 1 = nI P → (∀ i, i < P → gI σ 22 i = g i) → gI σ (36 + 2 * q) 0 = 1 → gI σ (36 + 2 * q) 1 = nI P → (∀ j, j < i → gI σ (37 + 2 * q) j = g j) →
    ∃ σ', L_FR_writes_59 fu (36 + 2 * q) (nI i) σ = some (nI P, σ') ∧ (∀ j, j < P → gI σ' (37 + 2 * q) j = g j) ∧ (∀ c j, c ≠ 37 + 2 * q → gI σ' c j = gI σ c j) ∧ (∀ c j, gL σ' c j = gL σ c j) := by
  intro r
  induction r with
  | zero =>
    intro fu i σ hi hf h1 h2 h3 h4 h5
    obtain ⟨fu, rfl⟩ : ∃ f, fu = f + 1 := ⟨fu - 1, by omega⟩
    refine ⟨σ, ?_, fun j hj => h5 j (by omega), fun _ _ _ => rfl, fun _ _ => rfl⟩
    show B_FR_writes_59 (L_FR_writes_59 fu) _ _ _ = _
    unfold B_FR_writes_59
    rw [h1, if_pos (nI_le (by omega) (by omega))]
  | succ r ih =>
    intro fu i σ hi hf h1 h2 h3 h4 h5
    obtain ⟨fu, rfl⟩ : ∃ f, fu = f + 1 := ⟨fu - 1, by omega⟩
    obtain ⟨σ', e, g1, g2, g3⟩ := ih fu (i + 1) (sI σ (37 + 2 * q) i (g i)) (by omega) (by omega) (by rw [g_sI_ne (by omega)]; exact h1) (fun j hj => by rw [g_sI_ne (by omega)]; exact h2 j hj) (by rw [g_sI_ne (by omega)]; exact h3) (by rw [g_sI_ne (by omega)]; exact h4) (fun j hj => by
      by_cases ej : j = i
      · subst ej; rw [g_sI_eq]
      · rw [g_sI_ne (by omega)]; exact h5 j (by omega))
    refine ⟨σ', ?_, g1, fun c j hc => by rw [g2 c j hc, g_sI_ne (by omega)], fun c j => by rw [g3]; rfl⟩
    show B_FR_writes_59 (L_FR_writes_59 fu) _ _ _ = _
    unfold B_FR_writes_59 f_Sheet_put B_Sheet_put_0
    rw [h1, if_neg (nI_ge (by omega) (by omega))]
    simp only [inb_ok (show i < 200 by omega) (show 200 < 2 ^ 31 by decide), if_true, nI_clamp (show i < 2 ^ 31 by omega), sh_room h4 hP, roomB_1, ptB_nI (show i < 2 ^ 31 by omega), decide_eq_true (show i < P by omega), Option.bind_some, ite_bt, h3, if_neg (show ¬ ((1 : Int32) = 0) by decide +kernel), inb_ok (show i < 60 by omega) (show 60 < 2 ^ 31 by decide), h2 i (by omega), i2s_ok (hg i (by omega)), nI_1, show 36 + 2 * q + 1 = 37 + 2 * q by omega]
    exact e
theorem mo_writes_loop {q P : Nat} {g : Nat → Int32} (hq : q < 4) (hP : P ≤ 60) : ∀ (r fu i : Nat) (σ : Sto), i + r = P → r < fu → gI σ 48 19 = nI P → (∀ i, i < P → gI σ 60 i = g i) → (∀ j, j < i → gI σ 71 (60 * q + j) = g j) →
    ∃ σ', L_Mo_writes_44 fu (nI q) (nI i) σ = some (nI P, σ') ∧ (∀ j, j < P → gI σ' 71 (60 * q + j) = g j) ∧ (∀ j, ¬ (60 * q ≤ j ∧ j < 60 * q + 60) → gI σ' 71 j = gI σ 71 j) ∧ (∀ c j, c ≠ 71 → gI σ' c j = gI σ c j) ∧ (∀ c j, gL σ' c j = gL σ c j) := by
  intro r
  induction r with
  | zero =>
    intro fu i σ hi hf h1 h2 h5
    obtain ⟨fu, rfl⟩ : ∃ f, fu = f + 1 := ⟨fu - 1, by omega⟩
    refine ⟨σ, ?_, fun j hj => h5 j (by omega), fun _ _ => rfl, fun _ _ _ => rfl, fun _ _ => rfl⟩
    show B_Mo_writes_44 (L_Mo_writes_44 fu) _ _ _ = _
    unfold B_Mo_writes_44
    rw [h1, if_pos (nI_le (by omega) (by omega))]
  | succ r ih =>
    intro fu i σ hi hf h1 h2 h5
    obtain ⟨fu, rfl⟩ : ∃ f, fu = f + 1 := ⟨fu - 1, by omega⟩
    obtain ⟨σ', e, g1, g2, g3, g4⟩ := ih fu (i + 1) (sI σ 71 (60 * q + i) (g i)) (by omega) (by omega) (by rw [g_sI_ne (by omega)]; exact h1) (fun j hj => by rw [g_sI_ne (by omega)]; exact h2 j hj) (fun j hj => by
      by_cases ej : j = i
      · subst ej; rw [g_sI_eq]
      · rw [g_sI_ne (by omega)]; exact h5 j (by omega))
    refine ⟨σ', ?_, g1, fun j hj => by rw [g2 j hj, g_sI_ne (by omega)], fun c j hc => by rw [g3 c j hc, g_sI_ne (by omega)], fun c j => by rw [g4]; rfl⟩
    show B_Mo_writes_44 (L_Mo_writes_44 fu) _ _ _ = _
    unfold B_Mo_writes_44
    rw [h1, if_neg (nI_ge (by omega) (by omega))]
    simp only [inb_ok (show i < 200 by omega) (show 200 < 2 ^ 31 by decide), if_true, nI_clamp (show i < 2 ^ 31 by omega), mo_place hq (show i < 60 by omega), inb_ok (show 60 * q + i < 240 by omega) (show 240 < 2 ^ 31 by decide), nI_clamp (show 60 * q + i < 2 ^ 31 by omega), lt1_eq, h2 i (by omega), nI_1]
    exact e
theorem op_writes (a0 : Int32) : Op (f_FR_writes a0) (f_Mo_writes a0) := by
  cases h1 : ptB a0 4
  · refine Op.ask (fun _ => -2) (fun σ A wf h => ⟨σ, ?_, Scr.rf⟩) (fun σ A wf h => ⟨σ, ?_, Scr.rf⟩)
    · unfold f_FR_writes B_FR_writes_0
      simp [fr_isSheet, h1, ite_bf]
    · unfold f_Mo_writes B_Mo_writes_0
      simp [mo_isSheet, h1, ite_bf]
  obtain ⟨q, hq, rfl⟩ := ptB_of h1
  have z0 : ∀ {t : Nat}, t ≤ 200 → ((nI t = 0) ↔ t = 0) := fun {t} ht => nI_eq (b := 0) (by omega) (by decide)
  have z6 : ∀ {t : Nat}, t ≤ 200 → ((nI t ≤ 60) ↔ t ≤ 60) := fun {t} ht => by
    rw [Int32.le_iff_toInt_le, nI_toInt (by omega), show (60 : Int32).toInt = 60 by decide +kernel]; omega
  refine Op.mk (fun A => if (s_P A).1 = 0 then -3 else if (s_P A).1 ≤ 60 then nI (s_P A).1 else -4) (fun A => if (s_P A).1 = 0 then A else if (s_P A).1 ≤ 60 then setS A q (1, (s_P A).1, (s_P A).2) else A) (fun σ A wf h => ?_) (fun σ A wf h => ?_)
  · obtain ⟨hp, hpb⟩ := wf.2.2.1
    obtain ⟨c1, c2⟩ := h.2.2.1
    unfold f_FR_writes B_FR_writes_0
    simp only [fr_isSheet, h1, ite_bt, Option.bind_some, inb_ok (show q < 4 by omega) (show 4 < 2 ^ 31 by decide), if_true, nI_clamp (show q < 2 ^ 31 by omega), c1, z0 hp, z6 hp]
    by_cases g0 : (s_P A).1 = 0
    · simp only [if_pos g0]
      exact ⟨σ, rfl, wf, h, fun _ _ _ => ⟨rfl, rfl⟩⟩
    by_cases g6 : (s_P A).1 ≤ 60
    · simp only [if_neg g0, if_pos g6]
      obtain ⟨σ1, e, k1, k2, k3, k4⟩ := sh_remake hq 1 (nI (s_P A).1) σ
      have e1 : mxI 0 (mnI (nI (s_P A).1) 60) = nI (s_P A).1 := by
        have : ∀ m, m < 61 → mxI 0 (mnI (nI m) 60) = nI m := by decide +kernel
        exact this _ (by omega)
      obtain ⟨σ2, e2, f1, f2, f3⟩ := fr_writes_loop (g := (s_P A).2) hq g6 hpb (s_P A).1 LF 0 σ1 (by omega) (by rw [LF_big]; omega) (by rw [(k4 21 1 (by omega) (by omega)).1]; exact c1) (fun i hi => by rw [(k4 22 i (by omega) (by omega)).1]; exact c2 i hi) k1 (by rw [k2, e1]) (fun j hj => absurd hj (by omega))
      refine ⟨σ2, by rw [e, Option.bind_some, show (0 : Int32) = nI 0 from rfl]; exact e2, setS_wf wf ⟨g6, Or.inr (Or.inr (Or.inl rfl))⟩, h.shU (fun c j x y => ⟨by rw [f2 c j y]; exact (k4 c j x y).1, by rw [f3]; exact (k4 c j x y).2⟩) hq (by rw [f2 _ _ (by omega)]; exact k1) (by rw [f2 _ _ (by omega), k2, e1]) f1, fun c j hc => ⟨by rw [f2 c j (by omega)]; exact (k4 c j (by omega) (by omega)).1, by rw [f3]; exact (k4 c j (by omega) (by omega)).2⟩⟩
    · simp only [if_neg g0, if_neg g6]
      exact ⟨σ, rfl, wf, h, fun _ _ _ => ⟨rfl, rfl⟩⟩
  · obtain ⟨hp, hpb⟩ := wf.2.2.1
    obtain ⟨c1, c2⟩ := h.2.2.1
    unfold f_Mo_writes B_Mo_writes_0
    simp only [mo_isSheet, h1, ite_bt, Option.bind_some, c1, z0 hp, z6 hp]
    by_cases g0 : (s_P A).1 = 0
    · simp only [if_pos g0]
      exact ⟨σ, rfl, h, fun _ _ _ => ⟨rfl, rfl⟩⟩
    by_cases g6 : (s_P A).1 ≤ 60
    · simp only [if_neg g0, if_pos g6]
      obtain ⟨σ1, e, k1, k2, k3, k4, k5, k6⟩ := mo_row hq 1 (nI (s_P A).1) σ
      obtain ⟨σ2, e2, f1, f2, f3, f4⟩ := mo_writes_loop (g := (s_P A).2) hq g6 (s_P A).1 LF 0 σ1 (by omega) (by rw [LF_big]; omega) (by rw [k5 48 19 (by omega) (by omega) (by omega)]; exact c1) (fun i hi => by rw [k5 60 i (by omega) (by omega) (by omega)]; exact c2 i hi) (fun j hj => absurd hj (by omega))
      refine ⟨σ2, by rw [e, Option.bind_some, show (0 : Int32) = nI 0 from rfl]; exact e2, h.shU (fun c j x y z => by rw [f3 c j z]; exact k5 c j z (by omega) (by omega)) (fun c j => by rw [f4]; exact k6 c j) (fun j hj => by rw [f3 _ _ (by omega)]; exact k5 69 j (by omega) (by omega) (by omega)) (fun j hj => by rw [f3 _ _ (by omega)]; exact k5 70 j (by omega) (by omega) (by omega)) (fun j hj => by rw [f2 j hj]; exact k4 j hj) wf (by rw [f3 _ _ (by omega)]; exact k1) (by rw [f3 _ _ (by omega), k2]; rfl) f1, fun c j hc => ⟨by rw [f3 c j (by omega)]; exact k5 c j (by omega) (by omega) (by omega), by rw [f4]; exact k6 c j⟩⟩
    · simp only [if_neg g0, if_neg g6]
      exact ⟨σ, rfl, h, fun _ _ _ => ⟨rfl, rfl⟩⟩
