/-! the kept net: image, back -/
theorem gI_cpI (σ : Sto) (a b n c j : Nat) : gI (cpI σ a 0 b 0 n) c j = if c = b ∧ j < n then gI σ a j else gI σ c j := by
  show (if c = b then va_cpy (σ.1 a) (σ.1 b) 0 0 n else σ.1 c) j = _
  by_cases h : c = b
  · rw [if_pos h]
    show (if 0 ≤ j ∧ j < 0 + n then σ.1 a (0 + (j - 0)) else σ.1 b j) = _
    by_cases h2 : j < n
    · rw [if_pos (by omega), if_pos ⟨h, h2⟩, show 0 + (j - 0) = j by omega]; rfl
    · rw [if_neg (by omega), if_neg (by omega), h]; rfl
  · rw [if_neg h, if_neg (by omega)]; rfl
theorem gL_cpL (σ : Sto) (a b n c j : Nat) : gL (cpL σ a 0 b 0 n) c j = if c = b ∧ j < n then gL σ a j else gL σ c j := by
  show (if c = b then va_cpy (σ.2.1 a) (σ.2.1 b) 0 0 n else σ.2.1 c) j = _
  by_cases h : c = b
  · rw [if_pos h]
    show (if 0 ≤ j ∧ j < 0 + n then σ.2.1 a (0 + (j - 0)) else σ.2.1 b j) = _
    by_cases h2 : j < n
    · rw [if_pos (by omega), if_pos ⟨h, h2⟩, show 0 + (j - 0) = j by omega]; rfl
    · rw [if_neg (by omega), if_neg (by omega), h]; rfl
  · rw [if_neg h, if_neg (by omega)]; rfl
theorem gL_cpI (σ : Sto) (a sp b dp n c j : Nat) : gL (cpI σ a sp b dp n) c j = gL σ c j := rfl
theorem gI_cpL (σ : Sto) (a sp b dp n c j : Nat) : gI (cpL σ a sp b dp n) c j = gI σ c j := rfl
theorem nt_become {σ : Sto} {o a : Nat} {N : Nt} (h : NetAt σ a N) (wf : WfN N) (hd : o + 5 ≤ a ∨ a + 5 ≤ o) : ∃ σ', f_Net_become o a σ = some ((), σ') ∧ NetAt σ' o N ∧ FrN o σ σ' := by
  refine ⟨cpI (cpL (cpI (cpI (sI σ o 0 (gI σ a 0)) (a + 1) 0 (o + 1) 0 40) (a + 2) 0 (o + 2) 0 40) (a + 3) 0 (o + 3) 0 40) (a + 4) 0 (o + 4) 0 40, ?_, ⟨?_, fun p hp => ?_⟩, ⟨fun c hc => ⟨fun j => ?_, fun j => ?_⟩, rfl⟩⟩
  · unfold f_Net_become B_Net_become_0
    rw [show cpk 0 40 0 40 40 = true by decide +kernel, show (0 : Int32).toNatClampNeg = 0 by decide +kernel, show (40 : Int32).toNatClampNeg = 40 by decide +kernel]
    simp only [if_true, lt1_eq]
  · rw [gI_cpI, if_neg (by omega), gI_cpL, gI_cpI, if_neg (by omega), gI_cpI, if_neg (by omega), g_sI_eq]; exact h.1
  · have hn := wf.1
    obtain ⟨p1, p2, p3, p4⟩ := h.2 p hp
    refine ⟨?_, ?_, ?_, ?_⟩
    · rw [gI_cpI, if_neg (by omega), gI_cpL, gI_cpI, if_neg (by omega), gI_cpI, if_pos (by omega), g_sI_ne (by omega)]; exact p1
    · rw [gI_cpI, if_neg (by omega), gI_cpL, gI_cpI, if_pos (by omega), gI_cpI, if_neg (by omega), g_sI_ne (by omega)]; exact p2
    · rw [gL_cpI, gL_cpL, if_pos (by omega)]; exact p3
    · rw [gI_cpI, if_pos (by omega), gI_cpL, gI_cpI, if_neg (by omega), gI_cpI, if_neg (by omega), g_sI_ne (by omega)]; exact p4
  · rw [gI_cpI, if_neg (by omega), gI_cpL, gI_cpI, if_neg (by omega), gI_cpI, if_neg (by omega), g_sI_ne (by omega)]
  · rw [gL_cpI, gL_cpL, if_neg (by omega)]; rfl
theorem CSt.kpU {σ σ' : Sto} {A : Ast} {N : Nt} (h : CSt σ A) (hf : ∀ c j, ¬ (c = 0 ∧ j = 3) → (c < 6 ∨ 11 ≤ c) → gI σ' c j = gI σ c j ∧ gL σ' c j = gL σ c j) (h0 : gI σ' 0 3 = 1) (hN : NetAt σ' 6 N) : CSt σ' (A.1, some N, A.2.2) := by
  obtain ⟨h1, h2, ⟨h3, h3b⟩, ⟨h4, h4b⟩, h5, h6⟩ := h
  refine ⟨h1.scr (fun c j a b => (hf c j (by omega) (by omega)).1) (fun j => (hf 4 j (by omega) (by omega)).2), ⟨h0, hN⟩, ⟨?_, ?_⟩, ⟨?_, ?_⟩, ?_, ?_⟩
  · rw [(hf 21 1 (by omega) (by omega)).1]; exact h3
  · intro i hi
    rw [(hf 22 i (by omega) (by omega)).1]; exact h3b i hi
  · rw [(hf 31 0 (by omega) (by omega)).1]; exact h4
  · intro i hi
    rw [(hf 32 i (by omega) (by omega)).1]; exact h4b i hi
  · intro j hj
    obtain ⟨a1, a2, a3⟩ := h5 j hj
    exact ⟨by rw [(hf _ _ (by omega) (by omega)).1]; exact a1, by rw [(hf _ _ (by omega) (by omega)).1]; exact a2, fun i hi => by rw [(hf _ _ (by omega) (by omega)).1]; exact a3 i hi⟩
  · intro j hj
    obtain ⟨a1, a2, a3⟩ := h6 j hj
    exact ⟨by rw [(hf _ _ (by omega) (by omega)).1]; exact a1, fun z => ⟨by rw [(hf _ _ (by omega) (by omega)).1]; exact (a2 z).1, by rw [(hf _ _ (by omega) (by omega)).1]; exact (a2 z).2⟩, fun z => by rw [(hf _ _ (by omega) (by omega)).2]; exact a3 z⟩
theorem MSt.kpU {σ σ' : Sto} {A : Ast} {N : Nt} (h : MSt σ A) (hf : ∀ c j, ¬ (c = 48 ∧ (j = 4 ∨ j = 5)) → c ≠ 52 → c ≠ 53 → gI σ' c j = gI σ c j) (hl : ∀ c j, c ≠ 54 → gL σ' c j = gL σ c j) (h0 : gI σ' 48 4 = 1 ∧ gI σ' 48 5 = nI (n_n N) ∧ ∀ p, p < n_n N → gI σ' 52 p = nI (n_k N p) ∧ gI σ' 53 p = nI (n_f N p) ∧ gL σ' 54 p = lN (n_j N p)) : MSt σ' (A.1, some N, A.2.2) := by
  obtain ⟨h1, h2, ⟨h3, h3b⟩, ⟨h4, h4b⟩, h5, h6⟩ := h
  refine ⟨⟨?_, fun p hp => ?_⟩, h0, ⟨?_, ?_⟩, ⟨?_, ?_⟩, ?_, ?_⟩
  · rw [hf 48 0 (by omega) (by omega) (by omega)]; exact h1.1
  · obtain ⟨a1, a2, a3⟩ := h1.2 p hp
    exact ⟨by rw [hf 49 p (by omega) (by omega) (by omega)]; exact a1, by rw [hf 50 p (by omega) (by omega) (by omega)]; exact a2, by rw [hl 51 p (by omega)]; exact a3⟩
  · rw [hf 48 19 (by omega) (by omega) (by omega)]; exact h3
  · intro i hi
    rw [hf 60 i (by omega) (by omega) (by omega)]; exact h3b i hi
  · rw [hf 48 24 (by omega) (by omega) (by omega)]; exact h4
  · intro i hi
    rw [hf 62 i (by omega) (by omega) (by omega)]; exact h4b i hi
  · intro j hj
    obtain ⟨a1, a2, a3⟩ := h5 j hj
    exact ⟨by rw [hf 69 j (by omega) (by omega) (by omega)]; exact a1, by rw [hf 70 j (by omega) (by omega) (by omega)]; exact a2, fun i hi => by rw [hf 71 _ (by omega) (by omega) (by omega)]; exact a3 i hi⟩
  · intro j hj
    obtain ⟨a1, a2, a3⟩ := h6 j hj
    exact ⟨by rw [hf 66 j (by omega) (by omega) (by omega)]; exact a1, fun z => ⟨by rw [hf 68 j (by omega) (by omega) (by omega)]; exact (a2 z).1, by rw [hl 67 j (by omega)]; exact (a2 z).2⟩, fun z => by rw [hl 67 j (by omega)]; exact a3 z⟩
theorem mo_copies_loop {a0 a1 a2 a3 a4 a5 : Nat} (l0 : ln a0 = 40) (l1 : ln a1 = 40) (l2 : ln a2 = 40) (l3 : ln a3 = 40) (l4 : ln a4 = 40) (l5 : ln a5 = 40) (d1 : a1 ≠ a0) (d2 : a1 ≠ a2) (d3 : a1 ≠ a3) (d4 : a3 ≠ a0) (d5 : a3 ≠ a2) (d6 : a5 ≠ a4) : ∀ (k fu p : Nat) (σ : Sto), p + k = 40 → k < fu → ∃ σ', L_Mo_copies_3 fu a0 a1 a2 a3 a4 a5 (nI p) σ = some ((), σ') ∧ (∀ i, p ≤ i → i < 40 → gI σ' a1 i = gI σ a0 i ∧ gI σ' a3 i = gI σ a2 i ∧ gL σ' a5 i = gL σ a4 i) ∧ (∀ i, i < p → gI σ' a1 i = gI σ a1 i ∧ gI σ' a3 i = gI σ a3 i ∧ gL σ' a5 i = gL σ a5 i) ∧ (∀ c j, c ≠ a1 → c ≠ a3 → gI σ' c j = gI σ c j) ∧ (∀ c j, c ≠ a5 → gL σ' c j = gL σ c j) := by
  intro k
  induction k with
  | zero =>
    intro fu p σ hp hf
    obtain ⟨fu, rfl⟩ : ∃ f, fu = f + 1 := ⟨fu - 1, by omega⟩
    refine ⟨σ, ?_, fun i h1 h2 => absurd h2 (by omega), fun _ _ => ⟨rfl, rfl, rfl⟩, fun _ _ _ _ => rfl, fun _ _ _ => rfl⟩
    show B_Mo_copies_3 (L_Mo_copies_3 fu) _ _ _ _ _ _ _ _ = _
    unfold B_Mo_copies_3
    rw [if_pos (show (40 : Int32) ≤ nI p from nI_le (a := 40) (by omega) (by omega))]
  | succ k ih =>
    intro fu p σ hp hf
    obtain ⟨fu, rfl⟩ : ∃ f, fu = f + 1 := ⟨fu - 1, by omega⟩
    obtain ⟨σ', e, f1, f2, f3, f4⟩ := ih fu (p + 1) (sL (sI (sI σ a1 p (gI σ a0 p)) a3 p (gI σ a2 p)) a5 p (gL σ a4 p)) (by omega) (by omega)
    refine ⟨σ', ?_, fun i h1 h2 => ?_, fun i hi => ?_, fun c j h1 h2 => by rw [f3 c j h1 h2, gI_sL, g_sI_ne (by omega), g_sI_ne (by omega)], fun c j h1 => by rw [f4 c j h1, g_sL_ne (by omega)]; rfl⟩
    · show B_Mo_copies_3 (L_Mo_copies_3 fu) _ _ _ _ _ _ _ _ = _
      unfold B_Mo_copies_3
      rw [if_neg (show ¬ ((40 : Int32) ≤ nI p) from nI_ge (b := 40) (by omega) (by decide)), l0, l1, l2, l3, l4, l5]
      simp only [inb_ok (show p < 40 by omega) (show 40 < 2 ^ 31 by decide), if_true, nI_clamp (show p < 2 ^ 31 by omega), lt1_eq, nI_1, gL_sI]
      rw [g_sI_ne (show ¬ (a2 = a1 ∧ p = p) from fun z => d2 z.1.symm)]
      exact e
    · by_cases e2 : i = p
      · subst e2
        obtain ⟨g1, g2, g3⟩ := f2 i (by omega)
        exact ⟨by rw [g1, gI_sL, g_sI_ne (by omega), g_sI_eq], by rw [g2, gI_sL, g_sI_eq], by rw [g3, g_sL_eq]⟩
      · obtain ⟨g1, g2, g3⟩ := f1 i (by omega) h2
        exact ⟨by rw [g1, gI_sL, g_sI_ne (by omega), g_sI_ne (by omega)], by rw [g2, gI_sL, g_sI_ne (by omega), g_sI_ne (by omega)], by rw [g3, g_sL_ne (by omega)]; rfl⟩
    · obtain ⟨g1, g2, g3⟩ := f2 i (by omega)
      exact ⟨by rw [g1, gI_sL, g_sI_ne (by omega), g_sI_ne (by omega)], by rw [g2, gI_sL, g_sI_ne (by omega), g_sI_ne (by omega)], by rw [g3, g_sL_ne (by omega)]; rfl⟩
theorem op_image : Op f_FR_image f_Mo_image := by
  refine Op.mk (fun A => nI (n_n (s_N A))) (fun A => (A.1, some A.1, A.2.2)) (fun σ A wf h => ?_) (fun σ A wf h => ?_)
  · obtain ⟨σ', e, hN, hF⟩ := nt_become (o := 6) h.net wf.1 (by omega)
    refine ⟨sI σ' 0 3 1, ?_, ⟨wf.1, fun N hN => by cases hN; exact wf.1, wf.2.2⟩, h.kpU (fun c j h1 h2 => ⟨by rw [g_sI_ne (by omega), (hF.1 c (by omega)).1], by rw [gL_sI, (hF.1 c (by omega)).2]⟩) (g_sI_eq _ _ _ _) (hN.scr (fun c j a b => g_sI_ne (by omega)) (fun j => rfl)), fun c j hc => ⟨by rw [g_sI_ne (by omega), (hF.1 c (by omega)).1], by rw [gL_sI, (hF.1 c (by omega)).2]⟩⟩
    unfold f_FR_image B_FR_image_0
    rw [e, Option.bind_some, g_sI_ne (by omega), (hF.1 1 (by omega)).1, h.net.1]
  · obtain ⟨σ', e, f1, f2, f3, f4⟩ := mo_copies_loop (a0 := 49) (a1 := 52) (a2 := 50) (a3 := 53) (a4 := 51) (a5 := 54) rfl rfl rfl rfl rfl rfl (by decide) (by decide) (by decide) (by decide) (by decide) (by decide) 40 LF 0 (sI (sI σ 48 4 1) 48 5 (gI (sI σ 48 4 1) 48 0)) (by omega) (by rw [LF_big]; omega)
    have hn := wf.1.1
    have h48 : gI (sI σ 48 4 1) 48 0 = nI (n_n (s_N A)) := by rw [g_sI_ne (by omega)]; exact h.net.1
    refine ⟨σ', ?_, h.kpU (fun c j h1 h2 h3 => by rw [f3 c j (by omega) (by omega), g_sI_ne (by omega), g_sI_ne (by omega)]) (fun c j h1 => by rw [f4 c j h1]; rfl) ⟨by rw [f3 _ _ (by omega) (by omega), g_sI_ne (by omega), g_sI_eq], by rw [f3 _ _ (by omega) (by omega), g_sI_eq, h48], fun p hp => ?_⟩, fun c j hc => ⟨by rw [f3 c j (by omega) (by omega), g_sI_ne (by omega), g_sI_ne (by omega)], by rw [f4 c j (by omega)]; rfl⟩⟩
    · unfold f_Mo_image B_Mo_image_0 f_Mo_copies B_Mo_copies_0
      rw [lt1_eq, show (0 : Int32) = nI 0 from rfl, e, Option.bind_some, f3 _ _ (by omega) (by omega), g_sI_ne (by omega), h48]
    · have hp' : p < n_n (s_N A) := hp
      obtain ⟨g1, g2, g3⟩ := f1 p (by omega) (by omega)
      obtain ⟨p1, p2, p3⟩ := h.net.2 p hp
      exact ⟨by rw [g1, g_sI_ne (by omega), g_sI_ne (by omega)]; exact p1, by rw [g2, g_sI_ne (by omega), g_sI_ne (by omega)]; exact p2, by rw [g3]; exact p3⟩
theorem op_back : Op f_FR_back f_Mo_back := by
  refine Op.mk (fun A => match s_K A with | none => -3 | some N => nI (n_n N)) (fun A => match s_K A with | none => A | some N => (N, A.2)) (fun σ A wf h => ?_) (fun σ A wf h => ?_)
  · have h2 := h.2.1
    cases hK : s_K A with
    | none =>
      rw [hK] at h2
      refine ⟨σ, ?_, wf, h, fun _ _ _ => ⟨rfl, rfl⟩⟩
      unfold f_FR_back B_FR_back_0
      rw [h2, if_pos rfl]
    | some N =>
      rw [hK] at h2
      obtain ⟨σ', e, hN, hF⟩ := nt_become (o := 1) h2.2 (wf.2.1 N hK) (by omega)
      refine ⟨σ', ?_, wf.netU (wf.2.1 N hK), h.netU hN hF, hF.hi (by omega)⟩
      unfold f_FR_back B_FR_back_0
      rw [h2.1, if_neg (by decide +kernel), e, Option.bind_some, hN.1]
  · have h2 := h.2.1
    cases hK : s_K A with
    | none =>
      rw [hK] at h2
      refine ⟨σ, ?_, h, fun _ _ _ => ⟨rfl, rfl⟩⟩
      unfold f_Mo_back B_Mo_back_0
      rw [h2, if_pos rfl]
    | some N =>
      rw [hK] at h2
      have hn := (wf.2.1 N hK).1
      obtain ⟨σ', e, f1, f2, f3, f4⟩ := mo_copies_loop (a0 := 52) (a1 := 49) (a2 := 53) (a3 := 50) (a4 := 54) (a5 := 51) rfl rfl rfl rfl rfl rfl (by decide) (by decide) (by decide) (by decide) (by decide) (by decide) 40 LF 0 (sI σ 48 0 (gI σ 48 5)) (by omega) (by rw [LF_big]; omega)
      have hfr : FrMN σ σ' := fun c j h1 h2 h3 h4 => ⟨by rw [f3 c j (by omega) (by omega), g_sI_ne (by omega)], by rw [f4 c j (by omega)]; rfl⟩
      have h48 : gI σ' 48 0 = nI (n_n N) := by rw [f3 _ _ (by omega) (by omega), g_sI_eq]; exact h2.2.1
      refine ⟨σ', ?_, h.netU ⟨h48, fun p hp => ?_⟩ hfr, hfr.lo⟩
      · unfold f_Mo_back B_Mo_back_0 f_Mo_copies B_Mo_copies_0
        rw [h2.1, if_neg (by decide +kernel), show (0 : Int32) = nI 0 from rfl, e, Option.bind_some, h48]
      · obtain ⟨g1, g2, g3⟩ := f1 p (by omega) (by omega)
        obtain ⟨p1, p2, p3⟩ := h2.2.2 p hp
        exact ⟨by rw [g1, g_sI_ne (by omega)]; exact p1, by rw [g2, g_sI_ne (by omega)]; exact p2, by rw [g3]; exact p3⟩
