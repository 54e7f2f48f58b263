/-! text: the reference's words; a statement -/
theorem wdN_cg {b : Nat → Nat} {a : Nat} {v w : Nat → Nat} : ∀ k j, (∀ i, j ≤ i → i < j + k → v i = w i) → wdN b a v k j = wdN b a w k j := by
  intro k
  induction k with
  | zero => intro j _; rfl
  | succ k ih =>
    intro j h
    rw [wdN_s, wdN_s, h j (by omega) (by omega), ih (j + 1) (fun i h1 h2 => h i (by omega) (by omega))]
theorem mo_w95 {σ : Sto} {x4 x5 x6 : Int32} : B_Mo_isWord_95 x4 x5 x6 0 σ = some (false, σ) := by
  unfold B_Mo_isWord_95
  rw [if_pos rfl]
theorem mo_w23 {L n c0 c1 c2 c3 c4 : Nat} {b : Nat → Nat} {k : Nat × Nat × Nat} {σ : Sto} (wt : WfT L b) (h : TxM σ L b) (ht : TkM σ b k) (hk : TkW L b k) (hn : 3 ≤ n ∧ n ≤ 5) (h0 : c0 < 128) (h1 : c1 < 128) (h2 : c2 < 128) (h3 : c3 < 128) (h4 : c4 < 128) {w : Nat → Nat} (e0 : w 0 = c0) (e1 : w 1 = c1) (e2 : w 2 = c2) (e3 : 4 ≤ n → w 3 = c3) (e4 : 5 ≤ n → w 4 = c4) : B_Mo_isWord_23 (nI c0) (nI c1) (nI c2) (nI c3) (nI c4) (nI n) σ = some (decide (k.1 = 1) && (decide (k.2.2 - k.2.1 = n) && wdN b k.2.1 w n 0), σ) := by
  have hL := wt.1
  obtain ⟨w1, w2, w3, _⟩ := hk
  obtain ⟨t1, t2, t3, _⟩ := ht
  unfold B_Mo_isWord_23
  by_cases g1 : k.1 = 1
  rotate_left
  · rw [t1, if_neg (by rw [show (1 : Int32) = nI 1 from rfl, nI_eq (by omega) (by decide)]; exact g1), mo_w95, decide_eq_false g1, Bool.false_and]
  rw [t1, if_pos (show nI k.1 = (1 : Int32) by rw [g1]; rfl), t3, t2, nI_sub w2, decide_eq_true g1, Bool.true_and]
  by_cases g2 : k.2.2 - k.2.1 = n
  rotate_left
  · rw [if_neg (by rw [nI_eq (by omega) (by omega)]; exact g2), mo_w95, decide_eq_false g2, Bool.false_and]
  rw [if_pos (by rw [g2]), decide_eq_true g2, Bool.true_and]
  obtain ⟨a, ha⟩ : ∃ a, a = k.2.1 := ⟨_, rfl⟩
  rw [← ha] at t2 g2 w2 ⊢
  have q : ∀ j, j < n → inb (nI (a + j)) 160 = true ∧ gI σ 62 (Int32.toNatClampNeg (nI (a + j))) = nI (b (a + j)) ∧ b (a + j) < 2 ^ 31 := fun j hj => by
    have := wt.2 (a + j) (by omega)
    exact ⟨inb_ok (by omega) (by decide), by rw [nI_clamp (by omega)]; exact h.2 (a + j) (by omega), by omega⟩
  have p1 : nI a + (1 : Int32) = nI (a + 1) := nI_1 a
  have p2 : nI a + (2 : Int32) = nI (a + 2) := nI_add a 2
  have p3 : nI a + (3 : Int32) = nI (a + 3) := nI_add a 3
  have p4 : nI a + (4 : Int32) = nI (a + 4) := nI_add a 4
  obtain ⟨i0, j0, l0⟩ := q 0 (by omega)
  obtain ⟨i1, j1, l1⟩ := q 1 (by omega)
  obtain ⟨i2, j2, l2⟩ := q 2 (by omega)
  rw [Nat.add_zero] at i0 j0 l0
  rw [p1, p2, if_pos i0, if_pos i1, if_pos i2, j0, j1, j2]
  simp only [nI_eq l0 (show c0 < 2 ^ 31 by omega), nI_eq l1 (show c1 < 2 ^ 31 by omega), nI_eq l2 (show c2 < 2 ^ 31 by omega), mo_w95]
  have ew : wdN b a w n 0 = (decide (b a = c0) && (decide (b (a + 1) = c1) && (decide (b (a + 2) = c2) && wdN b a w (n - 3) 3))) := by
    obtain ⟨m, rfl⟩ : ∃ m, n = m + 3 := ⟨n - 3, by omega⟩
    rw [wdN_s, wdN_s, wdN_s, e0, e1, e2]; rfl
  rw [ew]
  by_cases d0 : b a = c0
  rotate_left
  · rw [if_neg d0, decide_eq_false d0, Bool.false_and]
  rw [if_pos d0, decide_eq_true d0, Bool.true_and]
  by_cases d1 : b (a + 1) = c1
  rotate_left
  · rw [if_neg d1, decide_eq_false d1, Bool.false_and]
  rw [if_pos d1, decide_eq_true d1, Bool.true_and]
  by_cases d2 : b (a + 2) = c2
  rotate_left
  · rw [if_neg d2, decide_eq_false d2, Bool.false_and]
  rw [if_pos d2, decide_eq_true d2, Bool.true_and]
  unfold B_Mo_isWord_95
  rw [t2, p3, p4, if_neg (show ¬ ((1 : Int32) = 0) by decide +kernel)]
  rcases (show n = 3 ∨ n = 4 ∨ n = 5 by omega) with e | e | e
  · subst e
    rw [if_pos (show nI 3 < (4 : Int32) by decide +kernel), if_pos (show nI 3 < (5 : Int32) by decide +kernel)]
    rfl
  · subst e
    obtain ⟨i3, j3, l3⟩ := q 3 (by omega)
    rw [if_neg (show ¬ (nI 4 < (4 : Int32)) by decide +kernel), if_pos (show nI 4 < (5 : Int32) by decide +kernel), if_pos i3, j3, show wdN b a w (4 - 3) 3 = (decide (b (a + 3) = w 3) && true) from rfl, e3 (by omega), Bool.and_true]
    simp only [nI_eq l3 (show c3 < 2 ^ 31 by omega)]
    by_cases d3 : b (a + 3) = c3
    · rw [if_pos d3, decide_eq_true d3]
    · rw [if_neg d3, decide_eq_false d3]
  · subst e
    obtain ⟨i3, j3, l3⟩ := q 3 (by omega)
    obtain ⟨i4, j4, l4⟩ := q 4 (by omega)
    rw [if_neg (show ¬ (nI 5 < (4 : Int32)) by decide +kernel), if_neg (show ¬ (nI 5 < (5 : Int32)) by decide +kernel), if_pos i3, if_pos i4, j3, j4, show wdN b a w (5 - 3) 3 = (decide (b (a + 3) = w 3) && (decide (b (a + 4) = w 4) && true)) from rfl, e3 (by omega), e4 (by omega), Bool.and_true]
    simp only [nI_eq l3 (show c3 < 2 ^ 31 by omega), nI_eq l4 (show c4 < 2 ^ 31 by omega)]
    by_cases d3 : b (a + 3) = c3
    · rw [if_pos d3, decide_eq_true d3, Bool.true_and]
      by_cases d4 : b (a + 4) = c4
      · rw [if_pos d4, decide_eq_true d4]
      · rw [if_neg d4, decide_eq_false d4]
    · rw [if_neg d3, decide_eq_false d3, Bool.false_and]
theorem mo_wn : ∀ i, i < 11 → (wL i = 3 → nI (wC i 4) = (32 : Int32) ∧ nI (wC i 3) = (32 : Int32)) ∧ (wL i = 4 → nI (wC i 4) = (32 : Int32) ∧ nI (wC i 3) ≠ (32 : Int32)) ∧ (wL i = 5 → nI (wC i 4) ≠ (32 : Int32)) := by decide +kernel
theorem mo_isWord {L i : Nat} {b : Nat → Nat} {k : Nat × Nat × Nat} {σ : Sto} (wt : WfT L b) (h : TxM σ L b) (ht : TkM σ b k) (hk : TkW L b k) (hi : i < 11) : f_Mo_isWord (nI (wC i 0)) (nI (wC i 1)) (nI (wC i 2)) (nI (wC i 3)) (nI (wC i 4)) σ = some (wdB b k i, σ) := by
  have h5 := wL_ok i hi
  have key : f_Mo_isWord (nI (wC i 0)) (nI (wC i 1)) (nI (wC i 2)) (nI (wC i 3)) (nI (wC i 4)) σ = B_Mo_isWord_23 (nI (wC i 0)) (nI (wC i 1)) (nI (wC i 2)) (nI (wC i 3)) (nI (wC i 4)) (nI (wL i)) σ := by
    unfold f_Mo_isWord B_Mo_isWord_0
    obtain ⟨m3, m4, m5⟩ := mo_wn i hi
    rcases (show wL i = 3 ∨ wL i = 4 ∨ wL i = 5 by omega) with e | e | e
    · rw [if_pos (m3 e).1, if_pos (m3 e).2, e]; rfl
    · rw [if_pos (m4 e).1, if_neg (m4 e).2, e]; rfl
    · rw [if_neg (m5 e), e]; rfl
  rw [key, mo_w23 wt h ht hk h5 (wC_ok i hi 0 (by omega)).1 (wC_ok i hi 1 (by omega)).1 (wC_ok i hi 2 (by omega)).1 (wC_ok i hi 3 (by omega)).1 (wC_ok i hi 4 (by omega)).1 (w := wC i) rfl rfl rfl (fun _ => rfl) (fun _ => rfl)]
  rfl
theorem mo_kindHere {L : Nat} {b : Nat → Nat} {k : Nat × Nat × Nat} {σ : Sto} (wt : WfT L b) (h : TxM σ L b) (ht : TkM σ b k) (hk : TkW L b k) : f_Mo_kindHere σ = some (orM (kdF b k) 6, σ) := by
  have w0 : f_Mo_isWord 112 111 105 110 116 σ = some (wdB b k 0, σ) := mo_isWord (i := 0) wt h ht hk (by omega)
  have w1 : f_Mo_isWord 108 111 117 100 32 σ = some (wdB b k 1, σ) := mo_isWord (i := 1) wt h ht hk (by omega)
  have w2 : f_Mo_isWord 115 104 121 32 32 σ = some (wdB b k 2, σ) := mo_isWord (i := 2) wt h ht hk (by omega)
  have w3 : f_Mo_isWord 112 114 111 117 100 σ = some (wdB b k 3, σ) := mo_isWord (i := 3) wt h ht hk (by omega)
  have w4 : f_Mo_isWord 109 101 101 107 32 σ = some (wdB b k 4, σ) := mo_isWord (i := 4) wt h ht hk (by omega)
  have w5 : f_Mo_isWord 108 111 110 101 32 σ = some (wdB b k 5, σ) := mo_isWord (i := 5) wt h ht hk (by omega)
  unfold f_Mo_kindHere B_Mo_kindHere_0 kdF
  rw [w0, Option.bind_some, fsN_s]
  simp only []
  cases wdB b k 0
  rotate_left
  · rw [ite_bt, if_pos rfl]; rfl
  rw [ite_bf, if_neg (show ¬ (false = true) by decide), w1, Option.bind_some, fsN_s]
  simp only [Nat.zero_add]
  cases wdB b k 1
  rotate_left
  · rw [ite_bt, if_pos rfl]; rfl
  rw [ite_bf, if_neg (show ¬ (false = true) by decide), w2, Option.bind_some, fsN_s]
  simp only [show 1 + 1 = 2 from rfl]
  cases wdB b k 2
  rotate_left
  · rw [ite_bt, if_pos rfl]; rfl
  rw [ite_bf, if_neg (show ¬ (false = true) by decide), w3, Option.bind_some, fsN_s]
  simp only [show 2 + 1 = 3 from rfl]
  cases wdB b k 3
  rotate_left
  · rw [ite_bt, if_pos rfl]; rfl
  rw [ite_bf, if_neg (show ¬ (false = true) by decide), w4, Option.bind_some, fsN_s]
  simp only [show 3 + 1 = 4 from rfl]
  cases wdB b k 4
  rotate_left
  · rw [ite_bt, if_pos rfl]; rfl
  rw [ite_bf, if_neg (show ¬ (false = true) by decide), w5, Option.bind_some, fsN_s]
  simp only [show 4 + 1 = 5 from rfl]
  cases wdB b k 5
  · rw [ite_bf, if_neg (show ¬ (false = true) by decide)]; rfl
  · rw [ite_bt, if_pos rfl]; rfl
theorem mo_deedHere {L : Nat} {b : Nat → Nat} {k : Nat × Nat × Nat} {σ : Sto} (wt : WfT L b) (h : TxM σ L b) (ht : TkM σ b k) (hk : TkW L b k) : f_Mo_deedHere σ = some (orM (vbF b k) 5, σ) := by
  have w0 : f_Mo_isWord 106 111 105 110 32 σ = some (wdB b k 6, σ) := mo_isWord (i := 6) wt h ht hk (by omega)
  have w1 : f_Mo_isWord 99 117 116 32 32 σ = some (wdB b k 7, σ) := mo_isWord (i := 7) wt h ht hk (by omega)
  have w2 : f_Mo_isWord 97 108 108 32 32 σ = some (wdB b k 8, σ) := mo_isWord (i := 8) wt h ht hk (by omega)
  have w3 : f_Mo_isWord 114 105 110 103 32 σ = some (wdB b k 9, σ) := mo_isWord (i := 9) wt h ht hk (by omega)
  have w4 : f_Mo_isWord 102 108 105 112 32 σ = some (wdB b k 10, σ) := mo_isWord (i := 10) wt h ht hk (by omega)
  unfold f_Mo_deedHere B_Mo_deedHere_0 vbF
  rw [w0, Option.bind_some, fsN_s]
  simp only [Nat.add_zero]
  cases wdB b k 6
  rotate_left
  · rw [ite_bt, if_pos rfl]; rfl
  rw [ite_bf, if_neg (show ¬ (false = true) by decide), w1, Option.bind_some, fsN_s]
  simp only [Nat.zero_add, show 6 + 1 = 7 from rfl]
  cases wdB b k 7
  rotate_left
  · rw [ite_bt, if_pos rfl]; rfl
  rw [ite_bf, if_neg (show ¬ (false = true) by decide), w2, Option.bind_some, fsN_s]
  simp only [show 1 + 1 = 2 from rfl, show 6 + 2 = 8 from rfl]
  cases wdB b k 8
  rotate_left
  · rw [ite_bt, if_pos rfl]; rfl
  rw [ite_bf, if_neg (show ¬ (false = true) by decide), w3, Option.bind_some, fsN_s]
  simp only [show 2 + 1 = 3 from rfl, show 6 + 3 = 9 from rfl]
  cases wdB b k 9
  rotate_left
  · rw [ite_bt, if_pos rfl]; rfl
  rw [ite_bf, if_neg (show ¬ (false = true) by decide), w4, Option.bind_some, fsN_s]
  simp only [show 3 + 1 = 4 from rfl, show 6 + 4 = 10 from rfl]
  cases wdB b k 10
  · rw [ite_bf, if_neg (show ¬ (false = true) by decide)]; rfl
  · rw [ite_bt, if_pos rfl]; rfl
