/-! text: words, kinds, verbs, numbers -/
theorem rnN_all (P : Nat → Bool) : ∀ k p i, p ≤ i → i < rnN P k p → P i = true := by
  intro k
  induction k with
  | zero => intro p i h1 h2; exact absurd h2 (by show ¬ (i < p); omega)
  | succ k ih =>
    intro p i h1 h2
    rw [rnN_s] at h2
    by_cases h : P p = true
    · rw [if_pos h] at h2
      by_cases e : i = p
      · rw [e]; exact h
      · exact ih (p + 1) i (by omega) h2
    · rw [if_neg h] at h2; omega
/-- a token of the text -/
def TkW (L : Nat) (b : Nat → Nat) (k : Nat × Nat × Nat) : Prop := k.1 ≤ 4 ∧ k.2.1 ≤ k.2.2 ∧ k.2.2 ≤ L ∧ (k.1 = 2 → k.2.1 < k.2.2 ∧ ∀ i, k.2.1 ≤ i → i < k.2.2 → isD (b i) = true) ∧ (k.1 ≠ 0 → k.2.1 < L) ∧ (k.1 = 3 → k.2.2 = k.2.1 + 1)
theorem tkA_ok {L a : Nat} {b : Nat → Nat} (ha : a ≤ L) : TkW L b (tkA L b a) ∧ a ≤ (tkA L b a).2.1 := by
  unfold tkA
  by_cases e : a = L
  · rw [if_pos e]
    exact ⟨⟨Nat.zero_le _, Nat.le_refl _, Nat.le_refl _, (by intro z; simp at z), fun z => absurd rfl z, (by intro z; simp at z)⟩, ha⟩
  rw [if_neg e]
  cases hl : isL (b a) with
  | true =>
    rw [if_pos rfl]
    have := rnN_le (fun i => isL (b i)) (L - (a + 1)) (a + 1)
    refine ⟨⟨(by decide : 1 ≤ 4), ?_, ?_, (by intro z; simp at z), fun _ => ?_, (by intro z; simp at z)⟩, Nat.le_refl _⟩
    · show a ≤ rnN (fun i => isL (b i)) (L - (a + 1)) (a + 1); omega
    · show rnN (fun i => isL (b i)) (L - (a + 1)) (a + 1) ≤ L; omega
    · show a < L; omega
  | false =>
    rw [if_neg (show ¬ (false = true) by decide)]
    cases hd : isD (b a) with
    | true =>
      rw [if_pos rfl]
      have hr := rnN_le (fun i => isD (b i)) (L - (a + 1)) (a + 1)
      have hA := rnN_all (fun i => isD (b i)) (L - (a + 1)) (a + 1)
      refine ⟨⟨(by decide : 2 ≤ 4), ?_, ?_, fun _ => ⟨?_, fun i h1 h2 => ?_⟩, fun _ => ?_, (by intro z; simp at z)⟩, Nat.le_refl _⟩
      · show a ≤ rnN (fun i => isD (b i)) (L - (a + 1)) (a + 1); omega
      · show rnN (fun i => isD (b i)) (L - (a + 1)) (a + 1) ≤ L; omega
      · show a < rnN (fun i => isD (b i)) (L - (a + 1)) (a + 1); omega
      · by_cases e2 : i = a
        · rw [e2]; exact hd
        · have h1' : a ≤ i := h1
          exact hA i (by omega) h2
      · show a < L; omega
    | false =>
      rw [if_neg (show ¬ (false = true) by decide)]
      by_cases h59 : b a = 59
      · rw [if_pos h59]
        refine ⟨⟨(by decide : 3 ≤ 4), ?_, ?_, (by intro z; simp at z), fun _ => ?_, fun _ => rfl⟩, Nat.le_refl _⟩
        · show a ≤ a + 1; omega
        · show a + 1 ≤ L; omega
        · show a < L; omega
      · rw [if_neg h59]
        refine ⟨⟨(by decide : 4 ≤ 4), ?_, ?_, (by intro z; simp at z), fun _ => ?_, (by intro z; simp at z)⟩, Nat.le_refl _⟩
        · show a ≤ a + 1; omega
        · show a + 1 ≤ L; omega
        · show a < L; omega
theorem nxT_ok {L z : Nat} {b : Nat → Nat} (hz : z ≤ L) : TkW L b (nxT L b z) ∧ z ≤ (nxT L b z).2.1 := by
  rw [nxT_A]
  have hr := rnN_le (fun i => decide (b i = 32)) (L - z) z
  obtain ⟨h1, h2⟩ := tkA_ok (L := L) (b := b) (show rnN (fun i => decide (b i = 32)) (L - z) z ≤ L by omega)
  exact ⟨h1, by omega⟩
/-- the words -/
def wdS : List (List Nat) := [[112, 111, 105, 110, 116], [108, 111, 117, 100], [115, 104, 121], [112, 114, 111, 117, 100], [109, 101, 101, 107], [108, 111, 110, 101], [106, 111, 105, 110], [99, 117, 116], [97, 108, 108], [114, 105, 110, 103], [102, 108, 105, 112]]
def wL (i : Nat) : Nat := lenS.getD i 0
def wC (i j : Nat) : Nat := (wdS.getD i []).getD j 32
def wdN (b : Nat → Nat) (a : Nat) (w : Nat → Nat) : Nat → Nat → Bool
  | 0, _ => true
  | k + 1, j => decide (b (a + j) = w j) && wdN b a w k (j + 1)
theorem wdN_s (b : Nat → Nat) (a : Nat) (w : Nat → Nat) (k j : Nat) : wdN b a w (k + 1) j = (decide (b (a + j) = w j) && wdN b a w k (j + 1)) := rfl
def wdB (b : Nat → Nat) (k : Nat × Nat × Nat) (i : Nat) : Bool := decide (k.1 = 1) && (decide (k.2.2 - k.2.1 = wL i) && wdN b k.2.1 (wC i) (wL i) 0)
theorem sb_lo : ∀ x, x < 128 → sb x = nI x := by decide +kernel
theorem sb_hi : ∀ x, x < 256 → 128 ≤ x → sb x < 0 := by decide +kernel
theorem sb_eq {x y : Nat} (hx : x < 256) (hy : y < 128) : sb x = nI y ↔ x = y := by
  by_cases h : x < 128
  · rw [sb_lo x h, nI_eq (by omega) (by omega)]
  · have h1 := sb_hi x hx (by omega)
    constructor
    · intro e
      rw [e] at h1
      exact absurd h1 (nI_pos (by omega))
    · intro e; omega
theorem wL_ok : ∀ i, i < 11 → 3 ≤ wL i ∧ wL i ≤ 5 := by decide +kernel
theorem wC_ok : ∀ i, i < 11 → ∀ j, j < 5 → wC i j < 128 ∧ (j < wL i → (bytS.getD i []).getD j 0 = nI (wC i j)) := by decide +kernel
theorem st_len {i : Nat} (hi : i < 11) (σ : Sto) : str_len (1000 + i) σ = some (nI (wL i), σ) := by
  unfold str_len
  rw [if_pos ⟨by omega, by omega⟩, show 1000 + i - 1000 = i by omega]; rfl
theorem st_at {i j : Nat} (hi : i < 11) (hj : j < wL i) (σ : Sto) : str_at (1000 + i) (nI j) σ = some (nI (wC i j), σ) := by
  have h5 := wL_ok i hi
  unfold str_at
  rw [show 1000 + i - 1000 = i by omega, if_pos ⟨⟨by omega, by omega⟩, inb_ok (show j < lenS.getD i 0 from hj) (show wL i < 2 ^ 31 by omega)⟩, nI_clamp (by omega), ((wC_ok i hi j (by omega)).2 hj)]
theorem tp_wd_loop {L a i : Nat} {b : Nat → Nat} {σ : Sto} (wt : WfT L b) (h : TxC σ L b) (hi : i < 11) (h3 : gI σ 31 3 = nI a) (han : a + wL i ≤ L) : ∀ k fu j, j + k = wL i → k < fu → L_Tape_isWord_28 fu (1000 + i) (nI j) σ = some (wdN b a (wC i) k j, σ) := by
  have hL := wt.1
  have h5 := wL_ok i hi
  intro k
  induction k with
  | zero =>
    intro fu j hj hf
    obtain ⟨fu, rfl⟩ : ∃ z, fu = z + 1 := ⟨fu - 1, by omega⟩
    show B_Tape_isWord_28 (L_Tape_isWord_28 fu) _ _ _ = _
    unfold B_Tape_isWord_28
    rw [st_len hi, Option.bind_some, if_pos (nI_le (by omega) (by omega))]
    rfl
  | succ k ih =>
    intro fu j hj hf
    obtain ⟨fu, rfl⟩ : ∃ z, fu = z + 1 := ⟨fu - 1, by omega⟩
    show B_Tape_isWord_28 (L_Tape_isWord_28 fu) _ _ _ = _
    unfold B_Tape_isWord_28
    rw [st_len hi, Option.bind_some, if_neg (nI_ge (by omega) (by omega)), h3, nI_add, tp_byteAt wt h (by omega), Option.bind_some]
    simp only []
    rw [st_at hi (by omega), Option.bind_some]
    simp only [sb_eq (wt.2 (a + j) (by omega)) ((wC_ok i hi j (by omega)).1), nI_1]
    rw [wdN_s]
    by_cases e : b (a + j) = wC i j
    · rw [if_pos e, decide_eq_true e, Bool.true_and]
      exact ih fu (j + 1) (by omega) (by omega)
    · rw [if_neg e, decide_eq_false e, Bool.false_and]
theorem tp_isWord {L i : Nat} {b : Nat → Nat} {k : Nat × Nat × Nat} {σ : Sto} (wt : WfT L b) (h : TxC σ L b) (ht : TkC σ k) (hk : TkW L b k) (hi : i < 11) : f_Tape_isWord (1000 + i) σ = some (wdB b k i, σ) := by
  have hL := wt.1
  have h5 := wL_ok i hi
  obtain ⟨w1, w2, w3, _⟩ := hk
  unfold f_Tape_isWord B_Tape_isWord_0 wdB
  rw [ht.1, ht.2.1, ht.2.2, nI_sub w2]
  by_cases e : k.1 = 1
  · rw [if_pos (by rw [e]; rfl), st_len hi, Option.bind_some, decide_eq_true e, Bool.true_and]
    by_cases e2 : k.2.2 - k.2.1 = wL i
    · rw [if_pos (by rw [e2]), decide_eq_true e2, Bool.true_and]
      exact tp_wd_loop wt h hi ht.2.1 (by omega) (wL i) LF 0 (by omega) (by rw [LF_big]; omega)
    · rw [if_neg (by rw [nI_eq (by omega) (by omega)]; exact e2), decide_eq_false e2, Bool.false_and]
  · rw [if_neg (by rw [show (1 : Int32) = nI 1 from rfl, nI_eq (by omega) (by decide)]; exact e), decide_eq_false e, Bool.false_and]
def fsN (P : Nat → Bool) : Nat → Nat → Nat
  | 0, i => i
  | k + 1, i => if P i = true then i else fsN P k (i + 1)
theorem fsN_s (P : Nat → Bool) (k i : Nat) : fsN P (k + 1) i = if P i = true then i else fsN P k (i + 1) := rfl
def kdF (b : Nat → Nat) (k : Nat × Nat × Nat) : Nat := fsN (wdB b k) 6 0
def vbF (b : Nat → Nat) (k : Nat × Nat × Nat) : Nat := fsN (fun i => wdB b k (6 + i)) 5 0
def orM (x n : Nat) : Int32 := if x < n then nI x else -1
theorem tp_pointName {i : Nat} (hi : i < 6) (σ : Sto) : f_Tape_pointName (nI i) σ = some (1000 + i, σ) := by
  unfold f_Tape_pointName B_Tape_pointName_0
  rcases (show i = 0 ∨ i = 1 ∨ i = 2 ∨ i = 3 ∨ i = 4 ∨ i = 5 by omega) with e | e | e | e | e | e <;> subst e <;> rfl
theorem tp_verbName {i : Nat} (hi : i < 5) (σ : Sto) : f_Tape_verbName (nI i) σ = some (1000 + (6 + i), σ) := by
  unfold f_Tape_verbName B_Tape_verbName_0
  rcases (show i = 0 ∨ i = 1 ∨ i = 2 ∨ i = 3 ∨ i = 4 by omega) with e | e | e | e | e <;> subst e <;> rfl
theorem fsN_lt {P : Nat → Bool} {i k : Nat} (h : P i = true) : fsN P (k + 1) i = i := by rw [fsN_s, if_pos h]
theorem tp_kind_loop {L : Nat} {b : Nat → Nat} {k : Nat × Nat × Nat} {σ : Sto} (wt : WfT L b) (h : TxC σ L b) (ht : TkC σ k) (hk : TkW L b k) : ∀ r fu i, i + r = 6 → r < fu → L_Tape_kindHere_2 fu (nI i) σ = some (orM (fsN (wdB b k) r i) 6, σ) := by
  intro r
  induction r with
  | zero =>
    intro fu i hi hf
    obtain ⟨fu, rfl⟩ : ∃ z, fu = z + 1 := ⟨fu - 1, by omega⟩
    show B_Tape_kindHere_2 (L_Tape_kindHere_2 fu) _ _ = _
    unfold B_Tape_kindHere_2 orM
    rw [if_pos (show (6 : Int32) ≤ nI i from nI_le (a := 6) (by omega) (by omega)), if_neg (show ¬ (fsN (wdB b k) 0 i < 6) by show ¬ (i < 6); omega)]
  | succ r ih =>
    intro fu i hi hf
    obtain ⟨fu, rfl⟩ : ∃ z, fu = z + 1 := ⟨fu - 1, by omega⟩
    show B_Tape_kindHere_2 (L_Tape_kindHere_2 fu) _ _ = _
    unfold B_Tape_kindHere_2
    rw [if_neg (show ¬ ((6 : Int32) ≤ nI i) from nI_ge (b := 6) (by omega) (by decide)), tp_pointName (by omega), Option.bind_some]
    simp only []
    rw [tp_isWord wt h ht hk (by omega), Option.bind_some, fsN_s]
    cases wdB b k i with
    | false => rw [ite_bf, if_neg (show ¬ (false = true) by decide), nI_1]; exact ih fu (i + 1) (by omega) (by omega)
    | true => rw [ite_bt, if_pos rfl]; unfold orM; rw [if_pos (by omega)]
theorem tp_verb_loop {L : Nat} {b : Nat → Nat} {k : Nat × Nat × Nat} {σ : Sto} (wt : WfT L b) (h : TxC σ L b) (ht : TkC σ k) (hk : TkW L b k) : ∀ r fu i, i + r = 5 → r < fu → L_Tape_verbHere_2 fu (nI i) σ = some (orM (fsN (fun i => wdB b k (6 + i)) r i) 5, σ) := by
  intro r
  induction r with
  | zero =>
    intro fu i hi hf
    obtain ⟨fu, rfl⟩ : ∃ z, fu = z + 1 := ⟨fu - 1, by omega⟩
    show B_Tape_verbHere_2 (L_Tape_verbHere_2 fu) _ _ = _
    unfold B_Tape_verbHere_2 orM
    rw [if_pos (show (5 : Int32) ≤ nI i from nI_le (a := 5) (by omega) (by omega)), if_neg (show ¬ (fsN (fun i => wdB b k (6 + i)) 0 i < 5) by show ¬ (i < 5); omega)]
  | succ r ih =>
    intro fu i hi hf
    obtain ⟨fu, rfl⟩ : ∃ z, fu = z + 1 := ⟨fu - 1, by omega⟩
    show B_Tape_verbHere_2 (L_Tape_verbHere_2 fu) _ _ = _
    unfold B_Tape_verbHere_2
    rw [if_neg (show ¬ ((5 : Int32) ≤ nI i) from nI_ge (b := 5) (by omega) (by decide)), tp_verbName (by omega), Option.bind_some]
    simp only []
    rw [tp_isWord wt h ht hk (by omega), Option.bind_some, fsN_s]
    cases wdB b k (6 + i) with
    | false => rw [ite_bf, if_neg (show ¬ (false = true) by decide), nI_1]; exact ih fu (i + 1) (by omega) (by omega)
    | true => rw [ite_bt, if_pos rfl]; unfold orM; rw [if_pos (by omega)]
theorem tp_kindHere {L : Nat} {b : Nat → Nat} {k : Nat × Nat × Nat} {σ : Sto} (wt : WfT L b) (h : TxC σ L b) (ht : TkC σ k) (hk : TkW L b k) : f_Tape_kindHere σ = some (orM (kdF b k) 6, σ) := tp_kind_loop wt h ht hk 6 LF 0 (by omega) (by rw [LF_big]; omega)
theorem tp_verbHere {L : Nat} {b : Nat → Nat} {k : Nat × Nat × Nat} {σ : Sto} (wt : WfT L b) (h : TxC σ L b) (ht : TkC σ k) (hk : TkW L b k) : f_Tape_verbHere σ = some (orM (vbF b k) 5, σ) := tp_verb_loop wt h ht hk 5 LF 0 (by omega) (by rw [LF_big]; omega)
/-- numbers -/
def nmF (b : Nat → Nat) (k : Nat × Nat × Nat) : Nat := if k.1 = 2 then vpT b k.2.1 k.2.2 else 999
theorem isD_of {x : Nat} (h : isD x = true) : 48 ≤ x ∧ x ≤ 57 := by
  simp only [isD, Bool.and_eq_true, decide_eq_true_eq] at h
  exact h
theorem tp_num_step {L z p : Nat} {b : Nat → Nat} {σ : Sto} (wt : WfT L b) (h : TxC σ L b) (h4 : gI σ 31 4 = nI z) (hp : p < z) (hz : z ≤ L) (hd : isD (b p) = true) (fu v : Nat) : L_Tape_numberHere_30 (fu + 1) (nI v) (nI p) σ = L_Tape_numberHere_30 fu (nI (10 * v + (b p - 48))) (nI (p + 1)) σ := by
  have hL := wt.1
  have hdd := isD_of hd
  show B_Tape_numberHere_30 (L_Tape_numberHere_30 fu) _ _ _ = _
  unfold B_Tape_numberHere_30
  rw [h4, if_neg (nI_ge hp (by omega)), tp_byteAt wt h (by omega), Option.bind_some]
  simp only []
  rw [lt1_eq, sb_lo (b p) (by omega), show (10 : Int32) = nI 10 from rfl, nI_mul, nI_add, show (48 : Int32) = nI 48 from rfl, nI_sub (by omega), nI_1, show 10 * v + b p - 48 = 10 * v + (b p - 48) by omega]
theorem tp_num_end {L z : Nat} {σ : Sto} (hL : L ≤ 160) (h4 : gI σ 31 4 = nI z) (hz : z ≤ L) (fu : Nat) (v : Int32) : L_Tape_numberHere_30 (fu + 1) v (nI z) σ = some (v, σ) := by
  show B_Tape_numberHere_30 (L_Tape_numberHere_30 fu) _ _ _ = _
  unfold B_Tape_numberHere_30
  rw [h4, if_pos (nI_le (by omega) (by omega))]
theorem nmF_2 {L : Nat} {b : Nat → Nat} {k : Nat × Nat × Nat} (hk : TkW L b k) (h2 : k.1 = 2) : (k.2.2 - k.2.1 ≤ 2 → nmF b k ≤ 99) ∧ (¬ (k.2.2 - k.2.1 ≤ 2) → nmF b k = 999) := by
  obtain ⟨d1, d2⟩ := hk.2.2.2.1 h2
  unfold nmF vpT
  rw [if_pos h2]
  refine ⟨fun h => ?_, fun h => by rw [if_neg (by omega), if_neg (by omega), if_neg (by omega)]⟩
  rw [if_neg (by omega)]
  have a1 := isD_of (d2 k.2.1 (by omega) (by omega))
  by_cases e : k.2.2 = k.2.1 + 1
  · rw [if_pos e]; omega
  · rw [if_neg e, if_pos (by omega)]
    have a2 := isD_of (d2 (k.2.1 + 1) (by omega) (by omega))
    omega
theorem tp_number {L : Nat} {b : Nat → Nat} {k : Nat × Nat × Nat} {σ : Sto} (wt : WfT L b) (h : TxC σ L b) (ht : TkC σ k) (hk : TkW L b k) : f_Tape_numberHere σ = some (orM (nmF b k) 100, σ) := by
  have hL := wt.1
  have w1 := hk.1
  have w2 := hk.2.1
  have w3 := hk.2.2.1
  unfold f_Tape_numberHere B_Tape_numberHere_0
  rw [ht.1, ht.2.1, ht.2.2, nI_sub w2]
  by_cases e : k.1 = 2
  · obtain ⟨d1, d2⟩ := hk.2.2.2.1 e
    obtain ⟨n1, n2⟩ := nmF_2 hk e
    rw [if_pos (by rw [e]; rfl)]
    by_cases e2 : k.2.2 - k.2.1 ≤ 2
    · rw [if_pos (show nI (k.2.2 - k.2.1) ≤ (2 : Int32) from nI_le (b := 2) e2 (by decide))]
      have := n1 e2
      unfold orM
      rw [if_pos (by omega)]
      obtain ⟨F, hF⟩ : ∃ F, LF = F + 3 := ⟨999997, rfl⟩
      rw [hF, show (0 : Int32) = nI 0 from rfl, tp_num_step wt h ht.2.2 d1 w3 (d2 _ (by omega) (by omega))]
      unfold nmF vpT
      rw [if_pos e, if_neg (by omega)]
      by_cases e3 : k.2.2 = k.2.1 + 1
      · rw [if_pos e3, ← e3, tp_num_end hL ht.2.2 w3, Nat.mul_zero, Nat.zero_add]
      · rw [if_neg e3, if_pos (by omega), tp_num_step wt h ht.2.2 (by omega) w3 (d2 _ (by omega) (by omega)), show k.2.1 + 1 + 1 = k.2.2 by omega, tp_num_end hL ht.2.2 w3, Nat.mul_zero, Nat.zero_add]
    · rw [if_neg (show ¬ (nI (k.2.2 - k.2.1) ≤ (2 : Int32)) from nI_ge (a := 2) (b := k.2.2 - k.2.1) (by omega) (by omega))]
      have := n2 e2
      unfold orM
      rw [if_neg (by omega)]
  · rw [if_neg (by rw [show (2 : Int32) = nI 2 from rfl, nI_eq (by omega) (by decide)]; exact e)]
    unfold orM nmF
    rw [if_neg e, if_neg (by decide)]
