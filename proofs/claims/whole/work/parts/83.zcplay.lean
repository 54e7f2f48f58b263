/-! text: the whole text, on both sides -/
def plF (L : Nat) (b : Nat → Nat) : Nat → Nat → Nt → Nat × Nat × Nat → Bool × Nat × Nt
  | 0, _, N, k => (false, k.2.1, N)
  | f + 1, c, N, k => if (stF L b N k).1 = true then (if (stF L b N k).2.2.1 = 0 then (true, c, (stF L b N k).2.1) else if (stF L b N k).2.2.1 = 3 then plF L b f (c + 1) (stF L b N k).2.1 (nxT L b (stF L b N k).2.2.2.2) else (false, (stF L b N k).2.2.2.1, (stF L b N k).2.1)) else (false, (stF L b N k).2.2.2.1, (stF L b N k).2.1)
theorem plF_s (L : Nat) (b : Nat → Nat) (f c : Nat) (N : Nt) (k : Nat × Nat × Nat) : plF L b (f + 1) c N k = if (stF L b N k).1 = true then (if (stF L b N k).2.2.1 = 0 then (true, c, (stF L b N k).2.1) else if (stF L b N k).2.2.1 = 3 then plF L b f (c + 1) (stF L b N k).2.1 (nxT L b (stF L b N k).2.2.2.2) else (false, (stF L b N k).2.2.2.1, (stF L b N k).2.1)) else (false, (stF L b N k).2.2.2.1, (stF L b N k).2.1) := rfl
def plI (r : Bool × Nat × Nt) : Int32 := if r.1 = true then nI r.2.1 else -100 - nI r.2.1
theorem plF_ok {L : Nat} {b : Nat → Nat} (hL : L ≤ 160) : ∀ (f c : Nat) (N : Nt) (k : Nat × Nat × Nat), c + f = 161 → WfN N → TkW L b k → WfN (plF L b f c N k).2.2 ∧ (plF L b f c N k).2.1 ≤ 160 := by
  intro f
  induction f with
  | zero =>
    intro c N k hc wf hk
    exact ⟨wf, by show k.2.1 ≤ 160; have := hk.2.1; have := hk.2.2.1; omega⟩
  | succ f ih =>
    intro c N k hc wf hk
    rw [plF_s]
    obtain ⟨s1, s2, s3⟩ := stF_ok (L := L) (b := b) wf hk
    have l1 := s2.2.1
    have l2 := s2.2.2.1
    generalize stF L b N k = r at s1 s2 s3 l1 l2 ⊢
    by_cases g0 : r.1 = true
    rotate_left
    · rw [if_neg g0]; exact ⟨s1, by show r.2.2.2.1 ≤ 160; omega⟩
    rw [if_pos g0]
    by_cases g1 : r.2.2.1 = 0
    · rw [if_pos g1]; exact ⟨s1, by show c ≤ 160; omega⟩
    rw [if_neg g1]
    by_cases g2 : r.2.2.1 = 3
    · rw [if_pos g2]; exact ih (c + 1) _ _ (by omega) s1 (nxT_ok s2.2.2.1).1
    · rw [if_neg g2]; exact ⟨s1, by show r.2.2.2.1 ≤ 160; omega⟩
theorem tp_play {L : Nat} {b : Nat → Nat} (wt : WfT L b) : ∀ (f fu c : Nat) (N : Nt) (k : Nat × Nat × Nat) (σ : Sto), c + f = 161 → f < fu → WfN N → CT σ L b N k → TkW L b k → ∃ σ', L_Tape_play_11 fu 11 (nI c) σ = some (plI (plF L b f c N k), σ') ∧ NetAt σ' 11 (plF L b f c N k).2.2 ∧ FrP σ σ' := by
  intro f
  induction f with
  | zero =>
    intro fu c N k σ hc hf wf h hk
    obtain ⟨fu, rfl⟩ : ∃ z, fu = z + 1 := ⟨fu - 1, by omega⟩
    refine ⟨σ, ?_, h.1, FrP.rf⟩
    show B_Tape_play_11 (L_Tape_play_11 fu) _ _ _ = _
    unfold B_Tape_play_11
    rw [if_pos (show (160 : Int32) < nI c from (nI_ltN (a := 160) (by decide) (by omega)).2 (by omega)), h.2.2.2.1]
    rfl
  | succ f ih =>
    intro fu c N k σ hc hf wf h hk
    obtain ⟨fu, rfl⟩ : ∃ z, fu = z + 1 := ⟨fu - 1, by omega⟩
    obtain ⟨σ1, e1, c1, f1⟩ := tp_stmt wt wf h hk
    obtain ⟨s1, s2, s3⟩ := stF_ok (L := L) (b := b) wf hk
    rw [plF_s]
    show ∃ σ', B_Tape_play_11 (L_Tape_play_11 fu) _ _ _ = _ ∧ _
    unfold B_Tape_play_11
    rw [if_neg (show ¬ ((160 : Int32) < nI c) from fun z => by have := (nI_ltN (a := 160) (by decide) (by omega)).1 z; omega), e1, Option.bind_some]
    simp only []
    generalize stF L b N k = r at c1 s1 s2 s3 ⊢
    have hr4 := s2.1
    cases g0 : r.1 with
    | false =>
      rw [ite_bf, if_neg (show ¬ (false = true) by decide), c1.2.2.2.1]
      exact ⟨σ1, rfl, c1.1, f1⟩
    | true =>
      rw [ite_bt, if_pos rfl, c1.2.2.1]
      by_cases g1 : r.2.2.1 = 0
      · rw [if_pos g1, if_pos (show nI r.2.2.1 = (0 : Int32) by rw [g1]; rfl)]
        exact ⟨σ1, rfl, c1.1, f1⟩
      rw [if_neg g1, if_neg (show ¬ (nI r.2.2.1 = (0 : Int32)) by rw [show (0 : Int32) = nI 0 from rfl, nI_eq (by omega) (by decide)]; exact g1)]
      by_cases g2 : r.2.2.1 = 3
      · rw [if_pos g2, if_pos (show nI r.2.2.1 = (3 : Int32) by rw [g2]; rfl)]
        obtain ⟨σ2, e2, c2, f2⟩ := tp_adv wt c1 s2
        obtain ⟨σ3, e3, c3, f3⟩ := ih fu (c + 1) _ _ σ2 (by omega) (by omega) s1 c2 (nxT_ok s2.2.2.1).1
        refine ⟨σ3, ?_, c3, (f1.tr f2).tr f3⟩
        rw [e2, Option.bind_some, nI_1]
        exact e3
      · rw [if_neg g2, if_neg (show ¬ (nI r.2.2.1 = (3 : Int32)) by rw [show (3 : Int32) = nI 3 from rfl, nI_eq (by omega) (by decide)]; exact g2), c1.2.2.2.1]
        exact ⟨σ1, rfl, c1.1, f1⟩
theorem wdB_0 {b : Nat → Nat} {k : Nat × Nat × Nat} (h : k.1 = 0) (i : Nat) : wdB b k i = false := by
  unfold wdB
  rw [decide_eq_false (by omega), Bool.false_and]
theorem stF_0 {L : Nat} {b : Nat → Nat} {N : Nt} {k : Nat × Nat × Nat} (h : k.1 = 0) : stF L b N k = (false, N, k) := by
  unfold stF
  rw [if_neg (fun z => by have := kdF_0.1 z; rw [wdB_0 h] at this; cases this), if_neg ?_]
  unfold vbF
  rw [fsN_no _ 5 0 (fun j _ _ => wdB_0 h _)]
  decide
theorem mo_all_no {L : Nat} {b : Nat → Nat} {N : Nt} {k : Nat × Nat × Nat} {σ : Sto} (h : MT σ L b N k) (fu : Nat) (v : Int32) : L_Mo_readsAll_16 (fu + 1) v (b2i false) σ = some (-100 - nI k.2.1, σ) := by
  show B_Mo_readsAll_16 (L_Mo_readsAll_16 fu) _ _ _ = _
  unfold B_Mo_readsAll_16
  rw [ite_bf, ite_bf, h.2.2.2.1]
theorem mo_play {L : Nat} {b : Nat → Nat} (wt : WfT L b) : ∀ (f fu c : Nat) (N : Nt) (k : Nat × Nat × Nat) (σ : Sto), c + f = 161 → f < fu → WfN N → MT σ L b N k → TkW L b k → c ≤ k.2.1 + 1 → ∃ σ', ((f_Mo_readsStatement σ).bind fun q => L_Mo_readsAll_16 fu (nI c) (b2i q.1) q.2) = some (plI (plF L b f c N k), σ') ∧ ModAt σ' (plF L b f c N k).2.2 ∧ FrQ σ σ' := by
  have hL := wt.1
  intro f
  induction f with
  | zero =>
    intro fu c N k σ hc hf wf h hk hck
    obtain ⟨fu, rfl⟩ : ∃ z, fu = z + 1 := ⟨fu - 1, by omega⟩
    have hk0 : k.1 = 0 := by
      by_cases e : k.1 = 0
      · exact e
      · have := hk.2.2.2.2.1 e; omega
    obtain ⟨σ1, e1, c1, f1⟩ := mo_stmt wt wf h hk
    rw [stF_0 hk0] at e1 c1
    refine ⟨σ1, ?_, c1.1, f1⟩
    rw [e1, Option.bind_some]
    exact mo_all_no c1 fu _
  | succ f ih =>
    intro fu c N k σ hc hf wf h hk hck
    obtain ⟨fu, rfl⟩ : ∃ z, fu = z + 1 := ⟨fu - 1, by omega⟩
    obtain ⟨σ1, e1, c1, f1⟩ := mo_stmt wt wf h hk
    obtain ⟨s1, s2, s3⟩ := stF_ok (L := L) (b := b) wf hk
    rw [plF_s, e1, Option.bind_some]
    simp only []
    generalize stF L b N k = r at c1 s1 s2 s3 ⊢
    have hr4 := s2.1
    cases g0 : r.1 with
    | false =>
      rw [if_neg (show ¬ (false = true) by decide)]
      exact ⟨σ1, mo_all_no c1 fu _, c1.1, f1⟩
    | true =>
      rw [if_pos rfl]
      show ∃ σ', B_Mo_readsAll_16 (L_Mo_readsAll_16 fu) _ _ _ = _ ∧ _
      unfold B_Mo_readsAll_16
      rw [ite_bt, ite_bt, c1.2.2.1]
      by_cases g1 : r.2.2.1 = 0
      · rw [if_pos g1, if_neg (show ¬ (nI r.2.2.1 = (3 : Int32)) by rw [g1]; decide +kernel), if_pos (show nI r.2.2.1 = (0 : Int32) by rw [g1]; rfl)]
        exact ⟨σ1, rfl, c1.1, f1⟩
      rw [if_neg g1]
      by_cases g2 : r.2.2.1 = 3
      · rw [if_pos g2, if_pos (show nI r.2.2.1 = (3 : Int32) by rw [g2]; rfl)]
        obtain ⟨σ2, e2, c2, f2⟩ := mo_nxt wt c1 s2
        obtain ⟨w2, l2⟩ := nxT_ok (b := b) s2.2.2.1
        have l3 := s2.2.2.2.2.2 g2
        obtain ⟨σ3, e3, c3, f3⟩ := ih fu (c + 1) _ _ σ2 (by omega) (by omega) s1 c2 w2 (by omega)
        refine ⟨σ3, ?_, c3, (f1.tr f2).tr f3⟩
        rw [e2, Option.bind_some, nI_1]
        exact e3
      · rw [if_neg g2, if_neg (show ¬ (nI r.2.2.1 = (3 : Int32)) by rw [show (3 : Int32) = nI 3 from rfl, nI_eq (by omega) (by decide)]; exact g2), if_neg (show ¬ (nI r.2.2.1 = (0 : Int32)) by rw [show (0 : Int32) = nI 0 from rfl, nI_eq (by omega) (by decide)]; exact g1), c1.2.2.2.1]
        exact ⟨σ1, rfl, c1.1, f1⟩
theorem MSt.text {σ σf : Sto} {A : Ast} {Nf : Nt} (h : MSt σ A) (hN : ModAt σf Nf) (h24 : gI σf 48 24 = 0) (hI : ∀ c j, kM c j = true → (52 ≤ c ∨ (c = 48 ∧ j ≠ 0 ∧ j ≠ 24)) → gI σf c j = gI σ c j) (hL : ∀ c j, kM c j = true → (52 ≤ c ∨ (c = 48 ∧ j ≠ 0)) → gL σf c j = gL σ c j) : MSt σf (setT (Nf, A.2) (0, fun _ => 0)) := by
  have h1 : MSt (sI σ 48 24 0) (setT A (0, fun _ => 0)) := h.tpU (fun c j k1 _ => g_sI_ne k1) (fun _ _ => rfl) ⟨g_sI_eq _ _ _ _, fun i hi => absurd hi (Nat.not_lt_zero i)⟩
  exact h1.netU3 hN (fun c j k1 k2 => by
    refine ⟨?_, by rw [gL_sI]; exact hL c j k1 k2⟩
    by_cases e : c = 48 ∧ j = 24
    · obtain ⟨rfl, rfl⟩ := e
      rw [h24, g_sI_eq]
    · rw [g_sI_ne e]; exact hI c j k1 (by omega))
theorem CSt.text {σ σf : Sto} {A : Ast} (h : CSt σ A) (hf : FrP σ σf) : CSt (sI σf 31 0 0) (setT A (0, fun _ => 0)) := by
  have h1 : CSt σf A := h.scrC (fun c j hc => by
    have : (c < 11 ∨ 16 ≤ c) ∧ ¬ (c = 31 ∧ 2 ≤ j ∧ j ≤ 4) := by
      revert hc
      unfold kC
      simp only [Bool.or_eq_true, Bool.and_eq_true, decide_eq_true_eq]
      omega
    exact hf c j this.1 this.2)
  exact h1.tpU (fun c j k1 _ => g_sI_ne k1) (fun _ _ => rfl) ⟨g_sI_eq _ _ _ _, fun i hi => absurd hi (Nat.not_lt_zero i)⟩
theorem fault_neg : ∀ a, a < 161 → ((-100 : Int32) - nI a) < 0 ∧ ¬ ((0 : Int32) ≤ (-100 : Int32) - nI a) := by decide +kernel
