/-! text: a statement, the reference -/
def FrQ (σ σ' : Sto) : Prop := ∀ c j, ¬ (c = 48 ∧ (j = 0 ∨ (25 ≤ j ∧ j ≤ 28))) → c ≠ 49 → c ≠ 50 → c ≠ 51 → gI σ' c j = gI σ c j ∧ gL σ' c j = gL σ c j
theorem FrQ.rf {σ : Sto} : FrQ σ σ := fun _ _ _ _ _ _ => ⟨rfl, rfl⟩
theorem FrQ.tr {a b c : Sto} (h1 : FrQ a b) (h2 : FrQ b c) : FrQ a c := fun x y p q r s => ⟨(h2 x y p q r s).1.trans (h1 x y p q r s).1, (h2 x y p q r s).2.trans (h1 x y p q r s).2⟩
theorem FrL.frQ {σ σ' : Sto} (h : FrL σ σ') : FrQ σ σ' := fun c j p _ _ _ => ⟨h.1 c j (fun z => p ⟨z.1, Or.inr z.2⟩), h.2 c j⟩
theorem FrMN.frQ {σ σ' : Sto} (h : FrMN σ σ') : FrQ σ σ' := fun c j p q r s => h c j (fun z => p ⟨z.1, Or.inl z.2⟩) q r s
def MT (σ : Sto) (L : Nat) (b : Nat → Nat) (N : Nt) (k : Nat × Nat × Nat) : Prop := ModAt σ N ∧ TxM σ L b ∧ TkM σ b k
theorem MT.net {σ σ' : Sto} {L : Nat} {b : Nat → Nat} {N N' : Nt} {k : Nat × Nat × Nat} (h : MT σ L b N k) (hN : ModAt σ' N') (hf : FrMN σ σ') : MT σ' L b N' k := by
  have e : ∀ j, j ≠ 0 → gI σ' 48 j = gI σ 48 j := fun j hj => (hf 48 j (by omega) (by omega) (by omega) (by omega)).1
  exact ⟨hN, ⟨by rw [e 24 (by omega)]; exact h.2.1.1, fun i hi => by rw [(hf 62 i (by omega) (by omega) (by omega) (by omega)).1]; exact h.2.1.2 i hi⟩, by rw [e 25 (by omega)]; exact h.2.2.1, by rw [e 26 (by omega)]; exact h.2.2.2.1, by rw [e 27 (by omega)]; exact h.2.2.2.2.1, by rw [e 28 (by omega)]; exact h.2.2.2.2.2⟩
theorem mo_nxt {σ : Sto} {L : Nat} {b : Nat → Nat} {N : Nt} {k : Nat × Nat × Nat} (wt : WfT L b) (h : MT σ L b N k) (hk : TkW L b k) : ∃ σ', f_Mo_next σ = some ((), σ') ∧ MT σ' L b N (nxT L b k.2.2) ∧ FrQ σ σ' := by
  obtain ⟨σ', e, t, f⟩ := mo_next wt hk.2.2.1 h.2.1 h.2.2.2.2.1
  refine ⟨σ', e, ⟨⟨by rw [f.1 48 0 (by omega)]; exact h.1.1, fun p hp => ?_⟩, h.2.1.frL f, t⟩, f.frQ⟩
  obtain ⟨a1, a2, a3⟩ := h.1.2 p hp
  exact ⟨by rw [f.1 49 p (by omega)]; exact a1, by rw [f.1 50 p (by omega)]; exact a2, by rw [f.2 51 p]; exact a3⟩
theorem vl_nm {b : Nat → Nat} {k : Nat × Nat × Nat} (h : k.1 = 2) : vlT b k = nmF b k := by unfold vlT nmF; rw [if_pos h, if_pos h]
theorem nm_no {b : Nat → Nat} {k : Nat × Nat × Nat} (h : ¬ k.1 = 2) : nmF b k = 999 := by unfold nmF; rw [if_neg h]
theorem orM_0 {x n : Nat} (hn : n ≤ 100) : orM x n = 0 ↔ (x = 0 ∧ 0 < n) := by
  by_cases h : x < n
  · rw [orM_lt h, show (0 : Int32) = nI 0 from rfl, nI_eq (by omega) (by decide)]
    constructor
    · intro e; exact ⟨e, by omega⟩
    · intro e; exact e.1
  · rw [orM_ge h]
    constructor
    · intro e; exact absurd e (by decide +kernel)
    · intro e; omega
theorem mo_point {σ : Sto} {L : Nat} {b : Nat → Nat} {N : Nt} {k : Nat × Nat × Nat} (wt : WfT L b) (wf : WfN N) (h : MT σ L b N k) (hk : TkW L b k) (hkd : kdF b k = 0) : ∃ σ', f_Mo_readsPoint σ = some ((ptF L b N k).1, σ') ∧ MT σ' L b (ptF L b N k).2.1 (ptF L b N k).2.2 ∧ FrQ σ σ' := by
  have hn := wf.1
  have hL := wt.1
  unfold f_Mo_readsPoint B_Mo_readsPoint_0 ptF
  rw [mo_kindHere wt h.2.1 h.2.2 hk, Option.bind_some]
  simp only []
  rw [if_pos ((orM_0 (by omega)).2 ⟨hkd, by omega⟩), h.1.1]
  by_cases g0 : n_n N < 40
  rotate_left
  · rw [if_neg g0, if_pos (show nI (n_n N) = (40 : Int32) by rw [show n_n N = 40 by omega]; rfl)]
    exact ⟨σ, rfl, h, FrQ.rf⟩
  rw [if_pos g0, if_neg (show ¬ (nI (n_n N) = (40 : Int32)) by rw [show (40 : Int32) = nI 40 from rfl, nI_eq (by omega) (by decide)]; omega)]
  obtain ⟨σ1, e1, c1, f1⟩ := mo_nxt wt h hk
  obtain ⟨w1, _⟩ := nxT_ok (b := b) hk.2.2.1
  rw [e1, Option.bind_some]
  generalize nxT L b k.2.2 = k1 at c1 w1 ⊢
  simp only []
  rw [mo_kindHere wt c1.2.1 c1.2.2 w1, Option.bind_some]
  simp only []
  by_cases g1 : kdF b k1 < 6
  rotate_left
  · rw [if_neg g1, orM_ge g1, if_neg m1_no0]
    exact ⟨σ1, rfl, c1, f1⟩
  rw [if_pos g1, orM_lt g1, if_pos (nI_pos' (by omega))]
  obtain ⟨σ2, e2, c2, f2⟩ := mo_nxt wt c1 w1
  obtain ⟨w2, _⟩ := nxT_ok (b := b) w1.2.2.1
  rw [e2, Option.bind_some]
  generalize nxT L b k1.2.2 = k2 at c2 w2 ⊢
  simp only []
  have hk4 := w2.1
  have hnl := nmF_lt w2
  rw [c2.2.2.1, c2.2.2.2.2.2]
  by_cases g2 : k2.1 = 2
  rotate_left
  · rw [if_neg (show ¬ (nI k2.1 = (2 : Int32)) by rw [show (2 : Int32) = nI 2 from rfl, nI_eq (by omega) (by decide)]; exact g2), if_neg (by rw [nm_no g2]; decide)]
    exact ⟨σ2, rfl, c2, f1.tr f2⟩
  rw [if_pos (show nI k2.1 = (2 : Int32) by rw [g2]; rfl), vl_nm g2]
  by_cases g3 : nmF b k2 < 100
  rotate_left
  · rw [if_neg g3, if_neg (show ¬ (nI (nmF b k2) ≤ (99 : Int32)) from nI_ge (a := 99) (by omega) (by omega))]
    exact ⟨σ2, rfl, c2, f1.tr f2⟩
  rw [if_pos g3, if_pos (show nI (nmF b k2) ≤ (99 : Int32) from nI_le (b := 99) (by omega) (by decide))]
  obtain ⟨σ3, e3, n3, f3⟩ := mo_comes c2.1 wf (k := kdF b k1) (f := nmF b k2) g0
  rw [e3, Option.bind_some]
  simp only []
  have c3 := c2.net n3 f3
  obtain ⟨σ4, e4, c4, f4⟩ := mo_nxt wt c3 w2
  rw [e4, Option.bind_some]
  simp only []
  rw [if_neg (nI_pos (by omega))]
  exact ⟨σ4, rfl, c4, ((f1.tr f2).tr f3.frQ).tr f4⟩
theorem mo_deed {σ : Sto} {L v : Nat} {b : Nat → Nat} {N : Nt} {k : Nat × Nat × Nat} (wt : WfT L b) (wf : WfN N) (h : MT σ L b N k) (hk : TkW L b k) (hv : v < 5) : ∃ σ', f_Mo_readsDeed (nI v) σ = some ((ddF L b N k v).1, σ') ∧ MT σ' L b (ddF L b N k v).2.1 (ddF L b N k v).2.2 ∧ FrQ σ σ' := by
  have hn := wf.1
  have hL := wt.1
  unfold f_Mo_readsDeed B_Mo_readsDeed_0 ddF
  obtain ⟨σ1, e1, c1, f1⟩ := mo_nxt wt h hk
  obtain ⟨w1, _⟩ := nxT_ok (b := b) hk.2.2.1
  rw [e1, Option.bind_some]
  generalize nxT L b k.2.2 = k1 at c1 w1 ⊢
  simp only []
  have hk4 := w1.1
  have hnl := nmF_lt w1
  rw [c1.2.2.1]
  by_cases g0 : k1.1 = 2
  rotate_left
  · rw [if_neg (show ¬ (nI k1.1 = (2 : Int32)) by rw [show (2 : Int32) = nI 2 from rfl, nI_eq (by omega) (by decide)]; exact g0), if_neg (by rw [nm_no g0]; omega)]
    exact ⟨σ1, rfl, c1, f1⟩
  have v1 : gI σ1 48 28 = nI (nmF b k1) := by rw [c1.2.2.2.2.2, vl_nm g0]
  rw [if_pos (show nI k1.1 = (2 : Int32) by rw [g0]; rfl), v1, mo_isPoint c1.1 wf, Option.bind_some, ptB_nI (by omega)]
  simp only []
  by_cases g1 : nmF b k1 < n_n N
  rotate_left
  · rw [if_neg g1, decide_eq_false g1, ite_bf]
    exact ⟨σ1, rfl, c1, f1⟩
  rw [if_pos g1, decide_eq_true g1, ite_bt]
  obtain ⟨σ2, e2, c2, f2⟩ := mo_nxt wt c1 w1
  obtain ⟨w2, _⟩ := nxT_ok (b := b) w1.2.2.1
  rw [e2, Option.bind_some]
  generalize nxT L b k1.2.2 = k2 at c2 w2 ⊢
  simp only []
  have hk5 := w2.1
  have hnl2 := nmF_lt w2
  rw [c2.2.2.1, v1]
  by_cases g2 : k2.1 = 2
  rotate_left
  · rw [if_neg (show ¬ (nI k2.1 = (2 : Int32)) by rw [show (2 : Int32) = nI 2 from rfl, nI_eq (by omega) (by decide)]; exact g2), if_neg (show ¬ (nmF b k2 < n_n N ∧ nmF b k2 ≠ nmF b k1 ∧ (v < 2 ∨ nmF b k1 ≤ nmF b k2)) from fun z => by have := z.1; rw [nm_no g2] at this; omega)]
    exact ⟨σ2, rfl, c2, f1.tr f2⟩
  have v2 : gI σ2 48 28 = nI (nmF b k2) := by rw [c2.2.2.2.2.2, vl_nm g2]
  rw [if_pos (show nI k2.1 = (2 : Int32) by rw [g2]; rfl), v2, mo_isPoint c2.1 wf, Option.bind_some, ptB_nI (by omega)]
  simp only []
  by_cases g3 : nmF b k2 < n_n N
  rotate_left
  · rw [if_neg (show ¬ (nmF b k2 < n_n N ∧ nmF b k2 ≠ nmF b k1 ∧ (v < 2 ∨ nmF b k1 ≤ nmF b k2)) from fun z => g3 z.1), decide_eq_false g3, ite_bf]
    exact ⟨σ2, rfl, c2, f1.tr f2⟩
  rw [decide_eq_true g3, ite_bt, v2]
  by_cases g4 : nmF b k2 = nmF b k1
  · rw [if_neg (show ¬ (nmF b k2 < n_n N ∧ nmF b k2 ≠ nmF b k1 ∧ (v < 2 ∨ nmF b k1 ≤ nmF b k2)) from fun z => z.2.1 g4), if_pos (by rw [g4])]
    exact ⟨σ2, rfl, c2, f1.tr f2⟩
  rw [if_neg (show ¬ (nI (nmF b k2) = nI (nmF b k1)) by rw [nI_eq (by omega) (by omega)]; exact g4)]
  have go : (v < 2 ∨ nmF b k1 ≤ nmF b k2) → ∃ σ', ((f_Mo_does (nI v) (nI (nmF b k1)) (nI (nmF b k2)) σ2).bind fun q5 => ((f_Mo_next q5.2).bind fun q6 => some (true, q6.2))) = some (true, σ') ∧ MT σ' L b (deN v (nmF b k1) (nmF b k2) N) (nxT L b k2.2.2) ∧ FrQ σ σ' := fun hle => by
    obtain ⟨σ3, e3, n3, f3⟩ := mo_does c2.1 wf hv g1 g3 (fun z => g4 z.symm) (fun z => by omega)
    have c3 := c2.net n3 f3.mn
    obtain ⟨σ4, e4, c4, f4⟩ := mo_nxt wt c3 w2
    refine ⟨σ4, ?_, c4, ((f1.tr f2).tr f3.mn.frQ).tr f4⟩
    rw [e3, Option.bind_some]
    simp only []
    rw [e4, Option.bind_some]
  by_cases g5 : v < 2
  · rw [if_pos (show nI v ≤ (1 : Int32) from nI_le (b := 1) (by omega) (by decide)), if_pos (show (nmF b k2 < n_n N ∧ nmF b k2 ≠ nmF b k1 ∧ (v < 2 ∨ nmF b k1 ≤ nmF b k2)) from ⟨g3, g4, Or.inl g5⟩)]
    exact go (Or.inl g5)
  · rw [if_neg (show ¬ (nI v ≤ (1 : Int32)) from nI_ge (a := 1) (by omega) (by omega))]
    by_cases g6 : nmF b k1 ≤ nmF b k2
    · rw [if_pos (nI_le g6 (by omega)), if_pos (show (nmF b k2 < n_n N ∧ nmF b k2 ≠ nmF b k1 ∧ (v < 2 ∨ nmF b k1 ≤ nmF b k2)) from ⟨g3, g4, Or.inr g6⟩)]
      exact go (Or.inr g6)
    · rw [if_neg (nI_ge (by omega) (by omega)), if_neg (show ¬ (nmF b k2 < n_n N ∧ nmF b k2 ≠ nmF b k1 ∧ (v < 2 ∨ nmF b k1 ≤ nmF b k2)) from fun z => by have := z.2.2; omega)]
      exact ⟨σ2, rfl, c2, f1.tr f2⟩
theorem mo_stmt {σ : Sto} {L : Nat} {b : Nat → Nat} {N : Nt} {k : Nat × Nat × Nat} (wt : WfT L b) (wf : WfN N) (h : MT σ L b N k) (hk : TkW L b k) : ∃ σ', f_Mo_readsStatement σ = some ((stF L b N k).1, σ') ∧ MT σ' L b (stF L b N k).2.1 (stF L b N k).2.2 ∧ FrQ σ σ' := by
  unfold f_Mo_readsStatement B_Mo_readsStatement_0 stF
  rw [mo_deedHere wt h.2.1 h.2.2 hk, Option.bind_some]
  simp only []
  by_cases g0 : kdF b k = 0
  · have g1 := kd_vb g0
    rw [if_pos g0, orM_ge (by omega), if_neg m1_no0]
    obtain ⟨σ', e, c, f⟩ := mo_point wt wf h hk g0
    exact ⟨σ', by rw [e, Option.bind_some], c, f⟩
  rw [if_neg g0]
  by_cases g : vbF b k < 5
  · rw [if_pos g, orM_lt g, if_pos (nI_pos' (by omega))]
    obtain ⟨σ', e, c, f⟩ := mo_deed wt wf h hk g
    exact ⟨σ', by rw [e, Option.bind_some], c, f⟩
  · rw [if_neg g, orM_ge g, if_neg m1_no0]
    refine ⟨σ, ?_, h, FrQ.rf⟩
    unfold f_Mo_readsPoint B_Mo_readsPoint_0
    rw [mo_kindHere wt h.2.1 h.2.2 hk, Option.bind_some]
    simp only []
    rw [if_neg (fun z => g0 ((orM_0 (by omega)).1 z).1), Option.bind_some]
