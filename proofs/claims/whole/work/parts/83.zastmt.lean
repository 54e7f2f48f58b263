/-! text: a statement, on both sides -/
def ptF (L : Nat) (b : Nat → Nat) (N : Nt) (k : Nat × Nat × Nat) : Bool × Nt × (Nat × Nat × Nat) :=
  if n_n N < 40 then (if kdF b (nxT L b k.2.2) < 6 then (if nmF b (nxT L b (nxT L b k.2.2).2.2) < 100 then (true, addN N (kdF b (nxT L b k.2.2)) (nmF b (nxT L b (nxT L b k.2.2).2.2)), nxT L b (nxT L b (nxT L b k.2.2).2.2).2.2) else (false, N, nxT L b (nxT L b k.2.2).2.2)) else (false, N, nxT L b k.2.2)) else (false, N, k)
def ddF (L : Nat) (b : Nat → Nat) (N : Nt) (k : Nat × Nat × Nat) (v : Nat) : Bool × Nt × (Nat × Nat × Nat) :=
  if nmF b (nxT L b k.2.2) < n_n N then (if nmF b (nxT L b (nxT L b k.2.2).2.2) < n_n N ∧ nmF b (nxT L b (nxT L b k.2.2).2.2) ≠ nmF b (nxT L b k.2.2) ∧ (v < 2 ∨ nmF b (nxT L b k.2.2) ≤ nmF b (nxT L b (nxT L b k.2.2).2.2)) then (true, deN v (nmF b (nxT L b k.2.2)) (nmF b (nxT L b (nxT L b k.2.2).2.2)) N, nxT L b (nxT L b (nxT L b k.2.2).2.2).2.2) else (false, N, nxT L b (nxT L b k.2.2).2.2)) else (false, N, nxT L b k.2.2)
def stF (L : Nat) (b : Nat → Nat) (N : Nt) (k : Nat × Nat × Nat) : Bool × Nt × (Nat × Nat × Nat) := if kdF b k = 0 then ptF L b N k else if vbF b k < 5 then ddF L b N k (vbF b k) else (false, N, k)
theorem orM_lt {x n : Nat} (h : x < n) : orM x n = nI x := by unfold orM; rw [if_pos h]
theorem orM_ge {x n : Nat} (h : ¬ (x < n)) : orM x n = -1 := by unfold orM; rw [if_neg h]
theorem m1_no0 : ¬ ((0 : Int32) ≤ -1) := by decide +kernel
theorem nmF_lt {L : Nat} {b : Nat → Nat} {k : Nat × Nat × Nat} (hk : TkW L b k) : nmF b k < 1000 := by
  by_cases e : k.1 = 2
  · obtain ⟨n1, n2⟩ := nmF_2 hk e
    by_cases e2 : k.2.2 - k.2.1 ≤ 2
    · have := n1 e2; omega
    · have := n2 e2; omega
  · unfold nmF; rw [if_neg e]; decide
theorem fsN_ge (P : Nat → Bool) : ∀ k i, i ≤ fsN P k i := by
  intro k
  induction k with
  | zero => intro i; exact Nat.le_refl _
  | succ k ih =>
    intro i
    rw [fsN_s]
    split
    · exact Nat.le_refl _
    · have := ih (i + 1); omega
theorem kdF_0 {b : Nat → Nat} {k : Nat × Nat × Nat} : kdF b k = 0 ↔ wdB b k 0 = true := by
  unfold kdF
  rw [fsN_s]
  constructor
  · intro h
    by_cases e : wdB b k 0 = true
    · exact e
    · rw [if_neg e] at h
      have := fsN_ge (wdB b k) 5 (0 + 1)
      omega
  · intro h; rw [if_pos h]
theorem wdB_len {b : Nat → Nat} {k : Nat × Nat × Nat} {i : Nat} (h : wdB b k i = true) : k.2.2 - k.2.1 = wL i := by
  unfold wdB at h
  simp only [Bool.and_eq_true, decide_eq_true_eq] at h
  exact h.2.1
theorem wL_vb : ∀ i, i < 5 → wL (6 + i) ≠ 5 := by decide +kernel
theorem fsN_no (P : Nat → Bool) : ∀ k i, (∀ j, i ≤ j → j < i + k → P j = false) → fsN P k i = i + k := by
  intro k
  induction k with
  | zero => intro i _; rfl
  | succ k ih =>
    intro i h
    rw [fsN_s, h i (by omega) (by omega), if_neg (by decide), ih (i + 1) (fun j h1 h2 => h j (by omega) (by omega))]; omega
theorem kd_vb {b : Nat → Nat} {k : Nat × Nat × Nat} (h : kdF b k = 0) : vbF b k = 5 := by
  have h1 := wdB_len (kdF_0.1 h)
  unfold vbF
  rw [fsN_no _ 5 0 (fun j _ h2 => ?_)]
  by_cases e : wdB b k (6 + j) = true
  · have h3 := wdB_len e
    have h4 := wL_vb j (by omega)
    rw [show wL 0 = 5 from rfl] at h1
    omega
  · exact Bool.eq_false_iff.2 e
theorem ptF_ok {L : Nat} {b : Nat → Nat} {N : Nt} {k : Nat × Nat × Nat} (wf : WfN N) (hk : TkW L b k) : WfN (ptF L b N k).2.1 ∧ TkW L b (ptF L b N k).2.2 ∧ k.2.1 ≤ (ptF L b N k).2.2.2.1 := by
  unfold ptF
  have hk2 := hk.2.1
  obtain ⟨w1, l1⟩ := nxT_ok (b := b) hk.2.2.1
  generalize nxT L b k.2.2 = k1 at w1 l1 ⊢
  have hk1 := w1.2.1
  obtain ⟨w2, l2⟩ := nxT_ok (b := b) w1.2.2.1
  generalize nxT L b k1.2.2 = k2 at w2 l2 ⊢
  have hk22 := w2.2.1
  obtain ⟨w3, l3⟩ := nxT_ok (b := b) w2.2.2.1
  generalize nxT L b k2.2.2 = k3 at w3 l3 ⊢
  by_cases g0 : n_n N < 40
  rotate_left
  · rw [if_neg g0]; exact ⟨wf, hk, Nat.le_refl _⟩
  rw [if_pos g0]
  by_cases g1 : kdF b k1 < 6
  rotate_left
  · rw [if_neg g1]; exact ⟨wf, w1, by show k.2.1 ≤ k1.2.1; omega⟩
  rw [if_pos g1]
  by_cases g2 : nmF b k2 < 100
  · rw [if_pos g2]; exact ⟨addN_wf wf g0 g1 g2, w3, by show k.2.1 ≤ k3.2.1; omega⟩
  · rw [if_neg g2]; exact ⟨wf, w2, by show k.2.1 ≤ k2.2.1; omega⟩
theorem ddF_ok {L v : Nat} {b : Nat → Nat} {N : Nt} {k : Nat × Nat × Nat} (wf : WfN N) (hk : TkW L b k) : WfN (ddF L b N k v).2.1 ∧ TkW L b (ddF L b N k v).2.2 ∧ k.2.1 ≤ (ddF L b N k v).2.2.2.1 := by
  unfold ddF
  have hk2 := hk.2.1
  obtain ⟨w1, l1⟩ := nxT_ok (b := b) hk.2.2.1
  generalize nxT L b k.2.2 = k1 at w1 l1 ⊢
  have hk1 := w1.2.1
  obtain ⟨w2, l2⟩ := nxT_ok (b := b) w1.2.2.1
  generalize nxT L b k1.2.2 = k2 at w2 l2 ⊢
  have hk22 := w2.2.1
  obtain ⟨w3, l3⟩ := nxT_ok (b := b) w2.2.2.1
  generalize nxT L b k2.2.2 = k3 at w3 l3 ⊢
  by_cases g1 : nmF b k1 < n_n N
  rotate_left
  · rw [if_neg g1]; exact ⟨wf, w1, by show k.2.1 ≤ k1.2.1; omega⟩
  rw [if_pos g1]
  by_cases g2 : nmF b k2 < n_n N ∧ nmF b k2 ≠ nmF b k1 ∧ (v < 2 ∨ nmF b k1 ≤ nmF b k2)
  · rw [if_pos g2]; exact ⟨(deN_ok wf g1 g2.1 (fun z => g2.2.1 z.symm) (fun z => by have := g2.2.2; omega)).1, w3, by show k.2.1 ≤ k3.2.1; omega⟩
  · rw [if_neg g2]; exact ⟨wf, w2, by show k.2.1 ≤ k2.2.1; omega⟩
theorem stF_ok {L : Nat} {b : Nat → Nat} {N : Nt} {k : Nat × Nat × Nat} (wf : WfN N) (hk : TkW L b k) : WfN (stF L b N k).2.1 ∧ TkW L b (stF L b N k).2.2 ∧ k.2.1 ≤ (stF L b N k).2.2.2.1 := by
  unfold stF
  by_cases g0 : kdF b k = 0
  · rw [if_pos g0]; exact ptF_ok wf hk
  · rw [if_neg g0]
    by_cases g1 : vbF b k < 5
    · rw [if_pos g1]; exact ddF_ok wf hk
    · rw [if_neg g1]; exact ⟨wf, hk, Nat.le_refl _⟩
/-- the class -/
def FrP (σ σ' : Sto) : Prop := ∀ c j, (c < 11 ∨ 16 ≤ c) → ¬ (c = 31 ∧ 2 ≤ j ∧ j ≤ 4) → gI σ' c j = gI σ c j ∧ gL σ' c j = gL σ c j
theorem FrP.rf {σ : Sto} : FrP σ σ := fun _ _ _ _ => ⟨rfl, rfl⟩
theorem FrP.tr {a b c : Sto} (h1 : FrP a b) (h2 : FrP b c) : FrP a c := fun x y p q => ⟨(h2 x y p q).1.trans (h1 x y p q).1, (h2 x y p q).2.trans (h1 x y p q).2⟩
theorem FrK.frP {σ σ' : Sto} (h : FrK σ σ') : FrP σ σ' := fun c j _ q => ⟨h.1 c j q, h.2 c j⟩
theorem FrN.frP {σ σ' : Sto} (h : FrN 11 σ σ') : FrP σ σ' := fun c j p _ => ⟨(h.1 c (by omega)).1 j, (h.1 c (by omega)).2 j⟩
def CT (σ : Sto) (L : Nat) (b : Nat → Nat) (N : Nt) (k : Nat × Nat × Nat) : Prop := NetAt σ 11 N ∧ TxC σ L b ∧ TkC σ k
theorem CT.net {σ σ' : Sto} {L : Nat} {b : Nat → Nat} {N N' : Nt} {k : Nat × Nat × Nat} (h : CT σ L b N k) (hN : NetAt σ' 11 N') (hf : FrN 11 σ σ') : CT σ' L b N' k := by
  have e : ∀ c j, 16 ≤ c → gI σ' c j = gI σ c j := fun c j hc => (hf.1 c (by omega)).1 j
  exact ⟨hN, ⟨by rw [e 31 0 (by omega)]; exact h.2.1.1, fun i hi => by rw [e 32 i (by omega)]; exact h.2.1.2 i hi⟩, by rw [e 31 2 (by omega)]; exact h.2.2.1, by rw [e 31 3 (by omega)]; exact h.2.2.2.1, by rw [e 31 4 (by omega)]; exact h.2.2.2.2⟩
theorem tp_adv {σ : Sto} {L : Nat} {b : Nat → Nat} {N : Nt} {k : Nat × Nat × Nat} (wt : WfT L b) (h : CT σ L b N k) (hk : TkW L b k) : ∃ σ', f_Tape_advance σ = some ((), σ') ∧ CT σ' L b N (nxT L b k.2.2) ∧ FrP σ σ' := by
  obtain ⟨σ', e, t, f⟩ := tp_advance wt hk.2.2.1 h.2.1 h.2.2.2.2
  exact ⟨σ', e, ⟨h.1.scr (fun c j x y => f.1 c j (by omega)) (fun j => f.2 14 j), h.2.1.frK f, t⟩, f.frP⟩
theorem tp_point {σ : Sto} {L : Nat} {b : Nat → Nat} {N : Nt} {k : Nat × Nat × Nat} (wt : WfT L b) (wf : WfN N) (h : CT σ L b N k) (hk : TkW L b k) : ∃ σ', f_Tape_playPoint 11 σ = some ((ptF L b N k).1, σ') ∧ CT σ' L b (ptF L b N k).2.1 (ptF L b N k).2.2 ∧ FrP σ σ' := by
  have hn := wf.1
  have hL := wt.1
  unfold f_Tape_playPoint B_Tape_playPoint_0 ptF
  rw [h.1.1]
  by_cases g0 : n_n N < 40
  rotate_left
  · rw [if_neg (show ¬ (nI (n_n N) < (40 : Int32)) from fun z => g0 ((nI_ltN (b := 40) (by omega) (by decide)).1 z)), if_neg g0]
    exact ⟨σ, rfl, h, FrP.rf⟩
  rw [if_pos (show nI (n_n N) < (40 : Int32) from (nI_ltN (b := 40) (by omega) (by decide)).2 g0), if_pos g0]
  obtain ⟨σ1, e1, c1, f1⟩ := tp_adv wt h hk
  obtain ⟨w1, _⟩ := nxT_ok (b := b) hk.2.2.1
  rw [e1, Option.bind_some]
  generalize nxT L b k.2.2 = k1 at c1 w1 ⊢
  simp only []
  rw [tp_kindHere wt c1.2.1 c1.2.2 w1, Option.bind_some]
  simp only []
  by_cases g1 : kdF b k1 < 6
  rotate_left
  · rw [if_neg g1, orM_ge g1, if_neg m1_no0]
    exact ⟨σ1, rfl, c1, f1⟩
  rw [if_pos g1, orM_lt g1, if_pos (nI_pos' (by omega))]
  obtain ⟨σ2, e2, c2, f2⟩ := tp_adv wt c1 w1
  obtain ⟨w2, _⟩ := nxT_ok (b := b) w1.2.2.1
  rw [e2, Option.bind_some]
  generalize nxT L b k1.2.2 = k2 at c2 w2 ⊢
  simp only []
  rw [tp_number wt c2.2.1 c2.2.2 w2, Option.bind_some]
  simp only []
  by_cases g2 : nmF b k2 < 100
  rotate_left
  · rw [if_neg g2, orM_ge g2, if_neg m1_no0]
    exact ⟨σ2, rfl, c2, f1.tr f2⟩
  rw [if_pos g2, orM_lt g2, if_pos (nI_pos' (by omega))]
  obtain ⟨σ3, e3, n3, f3⟩ := nt_add c2.1 wf g0 g1 g2
  rw [e3, Option.bind_some]
  simp only []
  have c3 := c2.net n3 f3
  obtain ⟨σ4, e4, c4, f4⟩ := tp_adv wt c3 w2
  rw [e4, Option.bind_some]
  exact ⟨σ4, rfl, c4, ((f1.tr f2).tr f3.frP).tr f4⟩
theorem ptB_orM {x n : Nat} (hn : n ≤ 40) : ptB (orM x 100) n = decide (x < n) := by
  by_cases h : x < 100
  · rw [orM_lt h, ptB_nI (by omega)]
  · rw [orM_ge h, ptB_neg, decide_eq_false (by omega)]
theorem tp_deed {σ : Sto} {L v : Nat} {b : Nat → Nat} {N : Nt} {k : Nat × Nat × Nat} (wt : WfT L b) (wf : WfN N) (h : CT σ L b N k) (hk : TkW L b k) (hv : v < 5) : ∃ σ', ((f_Tape_advance σ).bind fun q4 => ((f_Tape_numberHere q4.2).bind fun q5 => ((f_Net_has 11 (Int32.toInt64 q5.1) q5.2).bind fun q6 => (if (b2i q6.1) = 0 then some (false, q6.2) else ((f_Tape_advance q6.2).bind fun q7 => ((f_Tape_numberHere q7.2).bind fun q8 => (if nI v = 0 then B_Tape_playStatement_72 11 (nI v) q5.1 q8.1 (1) q8.2 else (if nI v = (1) then B_Tape_playStatement_72 11 (nI v) q5.1 q8.1 (1) q8.2 else B_Tape_playStatement_72 11 (nI v) q5.1 q8.1 (0) q8.2)))))))) = some ((ddF L b N k v).1, σ') ∧ CT σ' L b (ddF L b N k v).2.1 (ddF L b N k v).2.2 ∧ FrP σ σ' := by
  have hn := wf.1
  have hL := wt.1
  unfold ddF
  obtain ⟨σ1, e1, c1, f1⟩ := tp_adv wt h hk
  obtain ⟨w1, _⟩ := nxT_ok (b := b) hk.2.2.1
  rw [e1, Option.bind_some]
  generalize nxT L b k.2.2 = k1 at c1 w1 ⊢
  simp only []
  rw [tp_number wt c1.2.1 c1.2.2 w1, Option.bind_some]
  simp only []
  rw [nt_has c1.1 wf, Option.bind_some, ptB_orM hn]
  simp only []
  by_cases g1 : nmF b k1 < n_n N
  rotate_left
  · rw [if_neg g1, decide_eq_false g1, ite_bf]
    exact ⟨σ1, rfl, c1, f1⟩
  rw [if_pos g1, decide_eq_true g1, ite_bt, orM_lt (show nmF b k1 < 100 by omega)]
  obtain ⟨σ2, e2, c2, f2⟩ := tp_adv wt c1 w1
  obtain ⟨w2, _⟩ := nxT_ok (b := b) w1.2.2.1
  rw [e2, Option.bind_some]
  generalize nxT L b k1.2.2 = k2 at c2 w2 ⊢
  simp only []
  rw [tp_number wt c2.2.1 c2.2.2 w2, Option.bind_some]
  simp only []
  have key : ∀ s0 : Nat, s0 = (if v < 2 then 1 else 0) → ∃ σ', B_Tape_playStatement_72 11 (nI v) (nI (nmF b k1)) (orM (nmF b k2) 100) (nI s0) σ2 = some ((if nmF b k2 < n_n N ∧ nmF b k2 ≠ nmF b k1 ∧ (v < 2 ∨ nmF b k1 ≤ nmF b k2) then (true, deN v (nmF b k1) (nmF b k2) N, nxT L b k2.2.2) else (false, N, k2) : Bool × Nt × (Nat × Nat × Nat)).1, σ') ∧ CT σ' L b (if nmF b k2 < n_n N ∧ nmF b k2 ≠ nmF b k1 ∧ (v < 2 ∨ nmF b k1 ≤ nmF b k2) then (true, deN v (nmF b k1) (nmF b k2) N, nxT L b k2.2.2) else (false, N, k2) : Bool × Nt × (Nat × Nat × Nat)).2.1 (if nmF b k2 < n_n N ∧ nmF b k2 ≠ nmF b k1 ∧ (v < 2 ∨ nmF b k1 ≤ nmF b k2) then (true, deN v (nmF b k1) (nmF b k2) N, nxT L b k2.2.2) else (false, N, k2) : Bool × Nt × (Nat × Nat × Nat)).2.2 ∧ FrP σ σ' := by
    intro s0 hs0
    unfold B_Tape_playStatement_72
    rw [nt_has c2.1 wf, Option.bind_some, ptB_orM hn]
    simp only []
    by_cases g2 : nmF b k2 < n_n N
    rotate_left
    · rw [if_neg (show ¬ (nmF b k2 < n_n N ∧ nmF b k2 ≠ nmF b k1 ∧ (v < 2 ∨ nmF b k1 ≤ nmF b k2)) from fun z => g2 z.1), decide_eq_false g2, ite_bf]
      exact ⟨σ2, rfl, c2, f1.tr f2⟩
    rw [decide_eq_true g2, ite_bt, orM_lt (show nmF b k2 < 100 by omega)]
    by_cases g3 : nmF b k2 = nmF b k1
    · rw [if_neg (show ¬ (nmF b k2 < n_n N ∧ nmF b k2 ≠ nmF b k1 ∧ (v < 2 ∨ nmF b k1 ≤ nmF b k2)) from fun z => z.2.1 g3), if_pos (by rw [g3])]
      exact ⟨σ2, rfl, c2, f1.tr f2⟩
    rw [if_neg (show ¬ (nI (nmF b k2) = nI (nmF b k1)) by rw [nI_eq (by omega) (by omega)]; exact g3)]
    have go : (v < 2 ∨ nmF b k1 ≤ nmF b k2) → ∃ σ', ((f_Tape_carryOut 11 (nI v) (nI (nmF b k1)) (nI (nmF b k2)) σ2).bind fun q11 => ((f_Tape_advance q11.2).bind fun q12 => some (true, q12.2))) = some (true, σ') ∧ CT σ' L b (deN v (nmF b k1) (nmF b k2) N) (nxT L b k2.2.2) ∧ FrP σ σ' := fun hle => by
      obtain ⟨σ3, e3, n3, f3⟩ := tp_carryOut c2.1 wf hv g1 g2 (fun z => g3 z.symm) (fun z => by omega)
      have c3 := c2.net n3 f3
      obtain ⟨σ4, e4, c4, f4⟩ := tp_adv wt c3 w2
      refine ⟨σ4, ?_, c4, ((f1.tr f2).tr f3.frP).tr f4⟩
      rw [e3, Option.bind_some]
      simp only []
      rw [e4, Option.bind_some]
    by_cases g4 : nmF b k1 ≤ nmF b k2
    · rw [if_pos (nI_le g4 (by omega)), if_pos (show (nmF b k2 < n_n N ∧ nmF b k2 ≠ nmF b k1 ∧ (v < 2 ∨ nmF b k1 ≤ nmF b k2)) from ⟨g2, g3, Or.inr g4⟩)]
      exact go (Or.inr g4)
    · rw [if_neg (nI_ge (by omega) (by omega))]
      by_cases g5 : v < 2
      · rw [if_pos g5] at hs0
        rw [hs0, if_neg (show ¬ (nI 1 = (0 : Int32)) by decide +kernel), if_pos (show (nmF b k2 < n_n N ∧ nmF b k2 ≠ nmF b k1 ∧ (v < 2 ∨ nmF b k1 ≤ nmF b k2)) from ⟨g2, g3, Or.inl g5⟩)]
        exact go (Or.inl g5)
      · rw [if_neg g5] at hs0
        rw [hs0, if_pos (show nI 0 = (0 : Int32) from rfl), if_neg (show ¬ (nmF b k2 < n_n N ∧ nmF b k2 ≠ nmF b k1 ∧ (v < 2 ∨ nmF b k1 ≤ nmF b k2)) from fun z => by have := z.2.2; omega)]
        exact ⟨σ2, rfl, c2, f1.tr f2⟩
  by_cases v0 : v = 0
  · rw [if_pos (by rw [v0]; rfl)]
    exact key 1 (by rw [if_pos (by omega)])
  · rw [if_neg (show ¬ (nI v = (0 : Int32)) by rw [show (0 : Int32) = nI 0 from rfl, nI_eq (by omega) (by decide)]; exact v0)]
    by_cases v1 : v = 1
    · rw [if_pos (by rw [v1]; rfl)]
      exact key 1 (by rw [if_pos (by omega)])
    · rw [if_neg (show ¬ (nI v = (1 : Int32)) by rw [show (1 : Int32) = nI 1 from rfl, nI_eq (by omega) (by decide)]; exact v1)]
      exact key 0 (by rw [if_neg (by omega)])
theorem tp_stmt {σ : Sto} {L : Nat} {b : Nat → Nat} {N : Nt} {k : Nat × Nat × Nat} (wt : WfT L b) (wf : WfN N) (h : CT σ L b N k) (hk : TkW L b k) : ∃ σ', f_Tape_playStatement 11 σ = some ((stF L b N k).1, σ') ∧ CT σ' L b (stF L b N k).2.1 (stF L b N k).2.2 ∧ FrP σ σ' := by
  unfold f_Tape_playStatement B_Tape_playStatement_0 stF
  rw [show f_Tape_pointName 0 σ = some (1000, σ) from tp_pointName (i := 0) (by omega) σ, Option.bind_some]
  simp only []
  rw [show f_Tape_isWord 1000 σ = some (wdB b k 0, σ) from tp_isWord (i := 0) wt h.2.1 h.2.2 hk (by omega), Option.bind_some]
  simp only [kdF_0]
  cases hw : wdB b k 0 with
  | true =>
    rw [ite_bt, if_pos rfl]
    obtain ⟨σ', e, c, f⟩ := tp_point wt wf h hk
    exact ⟨σ', by rw [e, Option.bind_some], c, f⟩
  | false =>
    rw [ite_bf, if_neg (show ¬ (false = true) by decide), tp_verbHere wt h.2.1 h.2.2 hk, Option.bind_some]
    simp only []
    by_cases g : vbF b k < 5
    · rw [if_pos g, orM_lt g, if_pos (nI_pos' (by omega))]
      exact tp_deed wt wf h hk g
    · rw [if_neg g, orM_ge g, if_neg m1_no0]
      exact ⟨σ, rfl, h, FrP.rf⟩
