/-! the order of a set: pure, then as the class makes it -/
def rl (N : Nt) (s p i : Nat) : Bool := if s = 0 then (n_j N p).testBit i else (!(n_j N p).testBit i && !decide (p = i))
theorem fit_rl {N : Nt} {s p w i : Nat} : (fit N s p w).testBit i = (w.testBit i && rl N s p i) := fit_bit
theorem rl_sym {N : Nt} (wf : WfN N) {s p q : Nat} (hp : p < n_n N) (hq : q < n_n N) : rl N s p q = rl N s q p := by
  unfold rl
  rw [(wf.2 p hp).2.2.2.2 q hq]
  by_cases h : s = 0
  · rw [if_pos h, if_pos h]
  · rw [if_neg h, if_neg h]
    by_cases e : p = q
    · subst e; rfl
    · simp [e, Ne.symm e]
theorem rl_irr {N : Nt} (wf : WfN N) {s p : Nat} (hp : p < n_n N) : rl N s p p = false := by
  unfold rl
  by_cases h : s = 0
  · rw [if_pos h]; exact (wf.2 p hp).2.2.2.1
  · rw [if_neg h]; simp
theorem bx {a b : Nat} (h : ∀ i, a.testBit i = b.testBit i) : a = b := Nat.eq_of_testBit_eq h
theorem nd1_bit (w b i : Nat) : (nd w (2 ^ b)).testBit i = (w.testBit i && !decide (i = b)) := by
  rw [nd_bit, Nat.testBit_two_pow]
  by_cases e : b = i
  · subst e; simp
  · simp [e, Ne.symm e]
theorem or1_bit (w b i : Nat) : (w ||| 2 ^ b).testBit i = (w.testBit i || decide (i = b)) := fb_bit_set w b i
theorem fit_nd {N : Nt} {s p w b : Nat} : fit N s p (nd w (2 ^ b)) = nd (fit N s p w) (2 ^ b) := by
  apply bx
  intro i
  rw [fit_rl, nd1_bit, nd1_bit, fit_rl]
  cases w.testBit i <;> cases rl N s p i <;> simp
theorem pc_nd {w b : Nat} (hb : b < 64) (h : w.testBit b = true) : pc (nd w (2 ^ b)) + 1 = pc w := by
  have e : pc (nd w (2 ^ b)) = fb_ct (fun k => if k = b then false else w.testBit k) 64 := by
    unfold pc pcK
    refine fb_ct_cong (fun k _ => ?_)
    rw [nd1_bit]
    by_cases e : k = b
    · subst e; simp
    · simp [e]
  have u := fb_ct_upd (fun k => w.testBit k) false (i := b) (n := 64) hb
  rw [if_pos h, if_neg (by decide)] at u
  rw [e]
  exact u
theorem pc_or {w b : Nat} (hb : b < 64) (h : w.testBit b = false) : pc (w ||| 2 ^ b) = pc w + 1 := by
  have e : pc (w ||| 2 ^ b) = fb_ct (fun k => if k = b then true else w.testBit k) 64 := by
    unfold pc pcK
    refine fb_ct_cong (fun k _ => ?_)
    rw [or1_bit]
    by_cases e : k = b
    · subst e; simp
    · simp [e]
  have u := fb_ct_upd (fun k => w.testBit k) true (i := b) (n := 64) hb
  rw [if_neg (by rw [h]; decide), if_pos rfl] at u
  rw [e]
  exact u
theorem pc_z {w : Nat} (hw : w < 2 ^ 64) (h : pc w = 0) : w = 0 := by
  apply bx
  intro i
  rw [Nat.zero_testBit]
  by_cases hi : i < 64
  · exact fb_ct_zero.mp h i hi
  · exact tb_out hw (by omega)
theorem pc_zero : pc 0 = 0 := pcK_0 64
/-- best and few after the first k points -/
def brF (N : Nt) (s w : Nat) : Nat → Nat × Nat
  | 0 => (0, 99)
  | k + 1 => if (if w.testBit k then pc (fit N s k w) else 99) < (brF N s w k).2 then (k, if w.testBit k then pc (fit N s k w) else 99) else brF N s w k
theorem brF_s (N : Nt) (s w k : Nat) : brF N s w (k + 1) = if (if w.testBit k then pc (fit N s k w) else 99) < (brF N s w k).2 then (k, if w.testBit k then pc (fit N s k w) else 99) else brF N s w k := rfl
theorem brF_ok (N : Nt) (s w : Nat) : ∀ k, ((brF N s w k).2 = 99 ∧ ∀ i, i < k → w.testBit i = false) ∨ ((brF N s w k).2 ≤ 64 ∧ (brF N s w k).1 < k ∧ w.testBit (brF N s w k).1 = true ∧ (brF N s w k).2 = pc (fit N s (brF N s w k).1 w))
  | 0 => Or.inl ⟨rfl, fun i hi => absurd hi (Nat.not_lt_zero i)⟩
  | k + 1 => by
    have hc := pc_le (fit N s k w)
    rw [brF_s]
    cases hb : w.testBit k with
    | false =>
      rcases brF_ok N s w k with ⟨h1, h2⟩ | ⟨h1, h2, h3, h4⟩
      · rw [if_neg (by rw [h1]; simp)]
        refine Or.inl ⟨h1, fun i hi => ?_⟩
        rcases Nat.lt_or_ge i k with q | q
        · exact h2 i q
        · rw [show i = k by omega]; exact hb
      · rw [if_neg (by simp; omega)]
        exact Or.inr ⟨h1, by omega, h3, h4⟩
    | true =>
      rw [if_pos rfl]
      by_cases hlt : pc (fit N s k w) < (brF N s w k).2
      · rw [if_pos hlt]
        exact Or.inr ⟨hc, by show k < k + 1; omega, hb, rfl⟩
      · rw [if_neg hlt]
        rcases brF_ok N s w k with ⟨h1, h2⟩ | ⟨h1, h2, h3, h4⟩
        · omega
        · exact Or.inr ⟨h1, by omega, h3, h4⟩
theorem brF_le (N : Nt) (s w k : Nat) : (brF N s w k).2 ≤ 99 := by
  rcases brF_ok N s w k with ⟨h1, _⟩ | ⟨h1, _⟩ <;> omega
theorem brF_no {N : Nt} {s w k : Nat} (h : w.testBit k = false) : brF N s w (k + 1) = brF N s w k := by
  have := brF_le N s w k
  rw [brF_s, h, if_neg (by simp; omega)]
theorem brF_yes {N : Nt} {s w k : Nat} (h : w.testBit k = true) : brF N s w (k + 1) = if pc (fit N s k w) < (brF N s w k).2 then (k, pc (fit N s k w)) else brF N s w k := by
  rw [brF_s, h]; rfl
theorem brF_out {N : Nt} {s w n : Nat} (hw : w < 2 ^ n) : ∀ d, brF N s w (n + d) = brF N s w n
  | 0 => rfl
  | d + 1 => by
    show brF N s w (n + d + 1) = _
    rw [brF_no (tb_out hw (by omega)), brF_out hw d]
/-- the barest of a set that isn't empty -/
def brP (N : Nt) (s w : Nat) : Nat := (brF N s w (n_n N)).1
def brQ (N : Nt) (s w : Nat) : Nat := (brF N s w (n_n N)).2
theorem brP_ok {N : Nt} {s w : Nat} (hw : w < 2 ^ n_n N) (h0 : w ≠ 0) : brP N s w < n_n N ∧ w.testBit (brP N s w) = true ∧ brQ N s w = pc (fit N s (brP N s w) w) ∧ brQ N s w ≤ 64 := by
  rcases brF_ok N s w (n_n N) with ⟨h1, h2⟩ | ⟨h1, h2, h3, h4⟩
  · exact absurd (bx (fun i => by
      rw [Nat.zero_testBit]
      rcases Nat.lt_or_ge i (n_n N) with q | q
      · exact h2 i q
      · exact tb_out hw q)) h0
  · exact ⟨h2, h3, h4, h1⟩
def ordL (N : Nt) (s : Nat) : Nat → Nat → List Nat
  | 0, _ => []
  | k + 1, w => if w = 0 then [] else brP N s w :: ordL N s k (nd w (2 ^ brP N s w))
def depL (N : Nt) (s : Nat) : Nat → Nat → Nat
  | 0, _ => 0
  | k + 1, w => if w = 0 then 0 else max (brQ N s w) (depL N s k (nd w (2 ^ brP N s w)))
theorem ordL_0 (N : Nt) (s k : Nat) : ordL N s k 0 = [] := by cases k <;> rfl
theorem depL_0 (N : Nt) (s k : Nat) : depL N s k 0 = 0 := by cases k <;> rfl
theorem ordL_s {N : Nt} {s k w : Nat} (h : w ≠ 0) : ordL N s (k + 1) w = brP N s w :: ordL N s k (nd w (2 ^ brP N s w)) := if_neg h
theorem depL_s {N : Nt} {s k w : Nat} (h : w ≠ 0) : depL N s (k + 1) w = max (brQ N s w) (depL N s k (nd w (2 ^ brP N s w))) := if_neg h
theorem ordL_len (N : Nt) (s : Nat) : ∀ k w, (ordL N s k w).length ≤ k
  | 0, _ => Nat.le_refl _
  | k + 1, w => by
    by_cases h : w = 0
    · rw [h, ordL_0]; exact Nat.zero_le _
    · rw [ordL_s h, List.length_cons]
      have := ordL_len N s k (nd w (2 ^ brP N s w))
      omega
theorem ordL_mem {N : Nt} {s : Nat} : ∀ k w, w < 2 ^ n_n N → ∀ p ∈ ordL N s k w, p < n_n N ∧ w.testBit p = true
  | 0, _, _, p, hp => absurd hp (List.not_mem_nil)
  | k + 1, w, hw, p, hp => by
    by_cases h : w = 0
    · rw [h, ordL_0] at hp; exact absurd hp (List.not_mem_nil)
    · rw [ordL_s h] at hp
      obtain ⟨b1, b2, _⟩ := brP_ok (s := s) hw h
      rcases List.mem_cons.mp hp with e | e
      · rw [e]; exact ⟨b1, b2⟩
      · obtain ⟨c1, c2⟩ := ordL_mem k _ (nd_lt hw) p e
        rw [nd1_bit, Bool.and_eq_true] at c2
        exact ⟨c1, c2.1⟩
theorem depL_le (N : Nt) (s : Nat) : ∀ k w, w < 2 ^ n_n N → depL N s k w ≤ 64
  | 0, _, _ => Nat.zero_le _
  | k + 1, w, hw => by
    by_cases h : w = 0
    · rw [h, depL_0]; exact Nat.zero_le _
    · rw [depL_s h]
      have := depL_le N s k _ (nd_lt hw (b := 2 ^ brP N s w))
      have := (brP_ok (s := s) hw h).2.2.2
      omega
theorem getD_lt {l : List Nat} {n i : Nat} (h : ∀ p ∈ l, p < n) (hi : i < l.length) : l.getD i 0 < n := by
  rw [List.getD_eq_getElem?_getD, List.getElem?_eq_getElem hi]
  exact h _ (List.getElem_mem hi)
/-- how few, when one goes -/
theorem pc_fit_nd {N : Nt} (wf : WfN N) {s p w b : Nat} (hp : p < n_n N) (hb : b < n_n N) (hwb : w.testBit b = true) (hwp : (nd w (2 ^ b)).testBit p = true) :
    pc (fit N s p w) = pc (fit N s p (nd w (2 ^ b))) + (if (fit N s b (nd w (2 ^ b))).testBit p then 1 else 0) := by
  have hn := wf.1
  rw [fit_rl, hwp, Bool.true_and, rl_sym wf hb hp, fit_nd]
  cases h : rl N s p b with
  | true =>
    rw [if_pos rfl, pc_nd (by omega) (by rw [fit_rl, hwb, h]; rfl)]
  | false =>
    rw [if_neg (by decide), nd_no (by rw [fit_rl, h]; simp)]
    rfl
/-! the class's ranking -/
def kR (c _j : Nat) : Bool := !(decide (17 ≤ c) && decide (c ≤ 20))
theorem kR_t {c j : Nat} (h : c < 17 ∨ 20 < c) : kR c j = true := by
  unfold kR
  rcases h with h | h
  · simp [show ¬ (17 ≤ c) by omega]
  · simp [show ¬ (c ≤ 20) by omega]
theorem kR_f {c j : Nat} (h : 17 ≤ c ∧ c ≤ 20) : kR c j = false := by
  unfold kR; simp [h.1, h.2]
theorem NetAt.kR {σ σ' : Sto} {o : Nat} {N : Nt} (h : NetAt σ o N) (ho : o + 5 ≤ 17) (hs : Scr kR σ σ') : NetAt σ' o N :=
  h.scr (fun c j _ b => (hs c j (kR_t (by omega))).1) (fun j => (hs (o + 3) j (kR_t (by omega))).2)
theorem Scr.kRC {σ σ' : Sto} (hs : Scr kR σ σ') : Scr kC σ σ' := fun c j h => hs c j (by
  apply kR_t
  by_cases h1 : c < 17
  · exact Or.inl h1
  · by_cases h2 : 20 < c
    · exact Or.inr h2
    · exfalso
      revert h
      unfold kC
      simp only [Bool.or_eq_true, Bool.and_eq_true, decide_eq_true_eq]
      omega)
def bI (b : Nat × Nat) : Int32 := if b.2 = 99 then -1 else nI b.1
theorem bare_loop {σ : Sto} {N : Nt} {s w : Nat} (hw : w < 2 ^ 40) (hf : ∀ p, p < 40 → w.testBit p = true → gI σ 20 p = nI (pc (fit N s p w))) : ∀ (k fu p : Nat), p + k = 40 → k < fu → L_Ranking_barestOf_5 fu (lN w) (bI (brF N s w p)) (nI p) σ = some (bI (brF N s w 40), σ) := by
  intro k
  have hw64 : w < 2 ^ 64 := Nat.lt_trans hw (by decide)
  induction k with
  | zero =>
    intro fu p hp hf
    obtain ⟨fu, rfl⟩ : ∃ f, fu = f + 1 := ⟨fu - 1, by omega⟩
    show B_Ranking_barestOf_5 (L_Ranking_barestOf_5 fu) _ _ _ _ = _
    unfold B_Ranking_barestOf_5
    rw [show (40 : Int32) = nI 40 from rfl, if_pos (nI_le (by omega) (by omega)), show p = 40 by omega]
  | succ k ih =>
    intro fu p hp hfu
    obtain ⟨fu, rfl⟩ : ∃ f, fu = f + 1 := ⟨fu - 1, by omega⟩
    have e := ih fu (p + 1) (by omega) (by omega)
    show B_Ranking_barestOf_5 (L_Ranking_barestOf_5 fu) _ _ _ _ = _
    unfold B_Ranking_barestOf_5
    rw [show (40 : Int32) = nI 40 from rfl, if_neg (nI_ge (by omega) (by omega)), nt_isOf hw64 (by omega), Option.bind_some]
    simp only [b2i_eq0, nI_1]
    cases hb : w.testBit p with
    | false =>
      rw [if_pos rfl]
      rw [brF_no hb] at e
      exact e
    | true =>
      rw [if_neg (by decide)]
      rw [brF_yes hb] at e
      have hc := pc_le (fit N s p w)
      rcases brF_ok N s w p with ⟨h1, h2⟩ | ⟨h1, h2, h3, h4⟩
      · rw [if_pos (show bI (brF N s w p) < 0 by unfold bI; rw [if_pos h1]; decide +kernel)]
        rw [if_pos (by omega)] at e
        unfold bI at e ⊢
        rw [if_neg (show ¬ (pc (fit N s p w) = 99) by omega)] at e
        exact e
      · have e1 : bI (brF N s w p) = nI (brF N s w p).1 := by unfold bI; rw [if_neg (by omega)]
        rw [e1, if_neg (nI_pos (by omega))]
        simp only [inb_ok (show p < 40 by omega) (show 40 < 2 ^ 31 by decide), inb_ok (show (brF N s w p).1 < 40 by omega) (show 40 < 2 ^ 31 by decide), if_true, nI_clamp (show p < 2 ^ 31 by omega), nI_clamp (show (brF N s w p).1 < 2 ^ 31 by omega), hf p (by omega) hb, hf _ (by omega) h3, ← h4, nI_leI (show (brF N s w p).2 < 2 ^ 31 by omega) (show pc (fit N s p w) < 2 ^ 31 by omega)]
        by_cases hlt : pc (fit N s p w) < (brF N s w p).2
        · rw [if_neg (by omega)]
          rw [if_pos hlt] at e
          have e2 : bI (p, pc (fit N s p w)) = nI p := by unfold bI; rw [if_neg (show ¬ (pc (fit N s p w) = 99) by omega)]
          rw [e2] at e
          exact e
        · rw [if_pos (by omega)]
          rw [if_neg hlt, e1] at e
          exact e
theorem rk_bare {σ : Sto} {N : Nt} (wf : WfN N) {s w : Nat} (hw : w < 2 ^ n_n N) (h0 : w ≠ 0) (hf : ∀ p, p < n_n N → w.testBit p = true → gI σ 20 p = nI (pc (fit N s p w))) : f_Ranking_barestOf (lN w) σ = some (nI (brP N s w), σ) := by
  have hn := wf.1
  have hw40 : w < 2 ^ 40 := Nat.lt_of_lt_of_le hw (two_pow_le hn)
  have := bare_loop (N := N) (s := s) hw40 (fun p hp hb => by
    by_cases hpn : p < n_n N
    · exact hf p hpn hb
    · rw [tb_out hw (by omega)] at hb; cases hb) 40 LF 0 (by omega) (by rw [LF_big]; omega)
  have e40 : brF N s w 40 = brF N s w (n_n N) := by
    have := brF_out (N := N) (s := s) hw (40 - n_n N)
    rwa [show n_n N + (40 - n_n N) = 40 by omega] at this
  unfold f_Ranking_barestOf B_Ranking_barestOf_0
  refine Eq.trans this ?_
  rw [e40]
  have hq := (brP_ok (s := s) hw h0).2.2.2
  unfold bI
  rw [if_neg (show ¬ ((brF N s w (n_n N)).2 = 99) by unfold brQ at hq; omega)]
  rfl
theorem rk_fill {N : Nt} (wf : WfN N) {s w : Nat} (hs : s < 2) (hw : w < 2 ^ 64) : ∀ (k fu p : Nat) (σ : Sto), p + k = n_n N → k < fu → NetAt σ 1 N → (∀ i, i < p → gI σ 20 i = nI (pc (fit N s i w))) →
    ∃ σ', L_Ranking_rank_3 fu 1 (nI s) (lN w) (nI p) σ = L_Ranking_rank_52 LF 1 (nI s) (lN w) 0 (sI (sI σ' 17 1 0) 17 2 0) ∧ (∀ i, i < n_n N → gI σ' 20 i = nI (pc (fit N s i w))) ∧ Scr kR σ σ' := by
  intro k
  have hn := wf.1
  induction k with
  | zero =>
    intro fu p σ hp hf h hi
    obtain ⟨fu, rfl⟩ : ∃ f, fu = f + 1 := ⟨fu - 1, by omega⟩
    refine ⟨σ, ?_, fun i h2 => hi i (by omega), Scr.rf⟩
    show B_Ranking_rank_3 (L_Ranking_rank_3 fu) _ _ _ _ _ = _
    unfold B_Ranking_rank_3
    rw [h.1, if_pos (nI_le (by omega) (by omega))]
  | succ k ih =>
    intro fu p σ hp hf h hi
    obtain ⟨fu, rfl⟩ : ∃ f, fu = f + 1 := ⟨fu - 1, by omega⟩
    have hpn : p < n_n N := by omega
    have hs1 : Scr kR σ (sI σ 20 p (nI (pc (fit N s p w)))) := Scr.sI (kR_f (by omega))
    obtain ⟨σ', e, g1, g2⟩ := ih fu (p + 1) (sI σ 20 p (nI (pc (fit N s p w)))) (by omega) (by omega) (h.kR (by omega) hs1) (fun i hi2 => by
      by_cases ei : i = p
      · subst ei; rw [g_sI_eq]
      · rw [g_sI_ne (by omega)]; exact hi i (by omega))
    refine ⟨σ', ?_, g1, hs1.tr g2⟩
    show B_Ranking_rank_3 (L_Ranking_rank_3 fu) _ _ _ _ _ = _
    unfold B_Ranking_rank_3
    rw [h.1, if_neg (nI_ge hpn (by omega)), nt_fitting h wf hs hpn hw, Option.bind_some]
    simp only []
    rw [bitCount_eq (fit_lt hw), Option.bind_some]
    simp only [inb_ok (show p < 40 by omega) (show 40 < 2 ^ 31 by decide), if_true, nI_clamp (show p < 2 ^ 31 by omega), nI_1]
    exact e
theorem rk_dec {N : Nt} (wf : WfN N) {s w x : Nat} {v7 : Int32} (hx : x < 2 ^ 64) {k52 : Nat → Int32 → Int64 → Int32 → Sto → Option (Unit × Sto)} : ∀ (k fu p : Nat) (σ : Sto), p + k = n_n N → k < fu → NetAt σ 1 N →
    ∃ σ', L_Ranking_rank_149 k52 fu 1 (nI s) (lN w) v7 (lN x) (nI p) σ = k52 1 (nI s) (lN w) (v7 + 1) σ' ∧ (∀ i, p ≤ i → i < n_n N → gI σ' 20 i = if x.testBit i then gI σ 20 i - 1 else gI σ 20 i) ∧ (∀ i, i < p → gI σ' 20 i = gI σ 20 i) ∧ (∀ c j, c ≠ 20 → gI σ' c j = gI σ c j) ∧ (∀ c j, gL σ' c j = gL σ c j) := by
  intro k
  have hn := wf.1
  induction k with
  | zero =>
    intro fu p σ hp hf h
    obtain ⟨fu, rfl⟩ : ∃ f, fu = f + 1 := ⟨fu - 1, by omega⟩
    refine ⟨σ, ?_, fun i h1 h2 => absurd h2 (by omega), fun _ _ => rfl, fun _ _ _ => rfl, fun _ _ => rfl⟩
    show B_Ranking_rank_149 k52 (L_Ranking_rank_149 k52 fu) _ _ _ _ _ _ _ = _
    unfold B_Ranking_rank_149
    rw [h.1, if_pos (nI_le (by omega) (by omega))]
  | succ k ih =>
    intro fu p σ hp hf h
    obtain ⟨fu, rfl⟩ : ∃ f, fu = f + 1 := ⟨fu - 1, by omega⟩
    have hpn : p < n_n N := by omega
    have e0 : L_Ranking_rank_149 k52 (fu + 1) 1 (nI s) (lN w) v7 (lN x) (nI p) σ = if x.testBit p = false then L_Ranking_rank_149 k52 fu 1 (nI s) (lN w) v7 (lN x) (nI (p + 1)) σ else L_Ranking_rank_149 k52 fu 1 (nI s) (lN w) v7 (lN x) (nI (p + 1)) (sI σ 20 p (gI σ 20 p - 1)) := by
      show B_Ranking_rank_149 k52 (L_Ranking_rank_149 k52 fu) _ _ _ _ _ _ _ = _
      unfold B_Ranking_rank_149
      rw [h.1, if_neg (nI_ge hpn (by omega)), nt_isOf hx (by omega), Option.bind_some]
      simp only [b2i_eq0, inb_ok (show p < 40 by omega) (show 40 < 2 ^ 31 by decide), if_true, nI_clamp (show p < 2 ^ 31 by omega), nI_1, lt1_eq]
    rw [e0]
    cases hb : x.testBit p with
    | false =>
      rw [if_pos rfl]
      obtain ⟨σ', e, g1, g2, g3, g4⟩ := ih fu (p + 1) σ (by omega) (by omega) h
      refine ⟨σ', e, fun i h1 h2 => ?_, fun i hi => g2 i (by omega), g3, g4⟩
      by_cases ei : i = p
      · subst ei; rw [hb, g2 i (by omega)]; rfl
      · exact g1 i (by omega) h2
    | true =>
      rw [if_neg (by decide)]
      obtain ⟨σ', e, g1, g2, g3, g4⟩ := ih fu (p + 1) (sI σ 20 p (gI σ 20 p - 1)) (by omega) (by omega) (h.scr (fun c j a b => g_sI_ne (by omega)) (fun j => rfl))
      refine ⟨σ', e, fun i h1 h2 => ?_, fun i hi => by rw [g2 i (by omega), g_sI_ne (by omega)], fun c j hc => by rw [g3 c j hc, g_sI_ne (by omega)], fun c j => by rw [g4]; rfl⟩
      by_cases ei : i = p
      · subst ei; rw [hb, g2 i (by omega), g_sI_eq]; rfl
      · rw [g1 i (by omega) h2, g_sI_ne (by omega)]
theorem rk_loop {N : Nt} (wf : WfN N) {s : Nat} (hs : s < 2) : ∀ (k fu place w dep : Nat) (σ : Sto), pc w ≤ k → k < fu → place + pc w ≤ 40 → w < 2 ^ n_n N → NetAt σ 1 N → (∀ p, p < n_n N → w.testBit p = true → gI σ 20 p = nI (pc (fit N s p w))) → gI σ 17 1 = nI place → gI σ 17 2 = nI dep → dep ≤ 64 →
    ∃ σ', L_Ranking_rank_52 fu 1 (nI s) (lN w) (nI place) σ = some ((), σ') ∧ gI σ' 17 1 = nI (place + (ordL N s k w).length) ∧ gI σ' 17 2 = nI (max dep (depL N s k w)) ∧ (∀ i, i < place → gI σ' 18 i = gI σ 18 i) ∧ (∀ i, i < (ordL N s k w).length → gI σ' 18 (place + i) = nI ((ordL N s k w).getD i 0)) ∧ Scr kR σ σ' := by
  intro k
  have hn := wf.1
  induction k with
  | zero =>
    intro fu place w dep σ hk hf hpl hw h hft h1 h2 hd
    obtain ⟨fu, rfl⟩ : ∃ f, fu = f + 1 := ⟨fu - 1, by omega⟩
    have hw64 : w < 2 ^ 64 := Nat.lt_of_lt_of_le hw (two_pow_le (by omega))
    have w0 : w = 0 := pc_z hw64 (by omega)
    subst w0
    refine ⟨σ, ?_, by rw [h1]; rfl, by rw [h2]; simp [depL], fun _ _ => rfl, fun i hi => absurd hi (Nat.not_lt_zero i), Scr.rf⟩
    show B_Ranking_rank_52 (L_Ranking_rank_52 fu) _ _ _ _ _ = _
    unfold B_Ranking_rank_52
    rw [if_pos (show lN 0 = (0 : Int64) from rfl)]
    split <;> rfl
  | succ k ih =>
    intro fu place w dep σ hk hf hpl hw h hft h1 h2 hd
    obtain ⟨fu, rfl⟩ : ∃ f, fu = f + 1 := ⟨fu - 1, by omega⟩
    have hw64 : w < 2 ^ 64 := Nat.lt_of_lt_of_le hw (two_pow_le (by omega))
    by_cases w0 : w = 0
    · subst w0
      refine ⟨σ, ?_, by rw [h1]; rfl, by rw [h2]; simp [depL], fun _ _ => rfl, fun i hi => absurd hi (Nat.not_lt_zero i), Scr.rf⟩
      show B_Ranking_rank_52 (L_Ranking_rank_52 fu) _ _ _ _ _ = _
      unfold B_Ranking_rank_52
      rw [if_pos (show lN 0 = (0 : Int64) from rfl)]
      split <;> rfl
    · obtain ⟨b1, b2, b3, b4⟩ := brP_ok (s := s) hw w0
      have hpc : pc (nd w (2 ^ brP N s w)) + 1 = pc w := pc_nd (by omega) b2
      rw [ordL_s w0, depL_s w0]
      generalize hb : brP N s w = b at *
      -- the store before the points behind are told
      obtain ⟨τ, hτ⟩ : ∃ τ, τ = sI (sI (sI σ 18 place (nI b)) 17 1 (nI (place + 1))) 17 2 (nI (max dep (brQ N s w))) := ⟨_, rfl⟩
      have hsτ : Scr kR σ τ := by rw [hτ]; exact ((Scr.sI (kR_f (by omega))).tr (Scr.sI (kR_f (by omega)))).tr (Scr.sI (kR_f (by omega)))
      have hNτ : NetAt τ 1 N := h.kR (by omega) hsτ
      obtain ⟨σ1, e1, g1, g2, g3, g4⟩ := rk_dec wf (s := s) (w := nd w (2 ^ b)) (x := fit N s b (nd w (2 ^ b))) (v7 := nI place) (fit_lt (nd_lt hw64)) (k52 := L_Ranking_rank_52 fu) (n_n N) LF 0 τ (by omega) (by rw [LF_big]; omega) hNτ
      have hs1 : Scr kR τ σ1 := fun c j hc => ⟨g3 c j (by rintro rfl; rw [kR_f (by omega)] at hc; cases hc), g4 c j⟩
      obtain ⟨σ', e, a1, a2, a3, a4, a5⟩ := ih fu (place + 1) (nd w (2 ^ b)) (max dep (brQ N s w)) σ1 (by omega) (by omega) (by omega) (nd_lt hw) (hNτ.kR (by omega) hs1) (fun p hp hbp => by
          have e20 : gI τ 20 p = nI (pc (fit N s p w)) := by
            rw [hτ, g_sI_ne (by omega), g_sI_ne (by omega), g_sI_ne (by omega)]
            refine hft p hp ?_
            rw [nd1_bit, Bool.and_eq_true] at hbp
            exact hbp.1
          rw [g1 p (Nat.zero_le _) hp, e20, pc_fit_nd wf hp b1 b2 hbp]
          cases (fit N s b (nd w (2 ^ b))).testBit p with
          | true => rw [if_pos rfl, if_pos rfl]; exact nI_pred _
          | false => rw [if_neg (by decide), if_neg (by decide)]; rfl)
        (by rw [g3 17 1 (by omega), hτ, g_sI_ne (by omega), g_sI_eq]) (by rw [g3 17 2 (by omega), hτ, g_sI_eq]) (by omega)
      refine ⟨σ', ?_, ?_, ?_, ?_, ?_, (hsτ.tr hs1).tr a5⟩
      · show B_Ranking_rank_52 (L_Ranking_rank_52 fu) _ _ _ _ _ = _
        unfold B_Ranking_rank_52
        rw [show (40 : Int32) = nI 40 from rfl, if_neg (nI_ge (by omega) (by omega)), if_neg (fun q => w0 ((lN_eq0 hw64).1 q)), rk_bare wf hw w0 hft, hb, Option.bind_some]
        simp only []
        rw [nt_hasN h wf b1, Option.bind_some]
        simp only [ite_bt, inb_ok (show place < 40 by omega) (show 40 < 2 ^ 31 by decide), inb_ok (show b < 40 by omega) (show 40 < 2 ^ 31 by decide), if_true, nI_clamp (show place < 2 ^ 31 by omega), nI_clamp (show b < 2 ^ 31 by omega), nI_1, lt1_eq]
        have e17 : gI (sI (sI σ 18 place (nI b)) 17 1 (nI (place + 1))) 17 2 = nI dep := by rw [g_sI_ne (by omega), g_sI_ne (by omega)]; exact h2
        have e20 : gI (sI (sI σ 18 place (nI b)) 17 1 (nI (place + 1))) 20 b = nI (brQ N s w) := by rw [g_sI_ne (by omega), g_sI_ne (by omega), hft b b1 b2, b3]
        rw [e17, e20, mxI_N (by omega) (by omega), ← hτ, lsh_1 (by omega), lN_nd hw64, nt_fitting hNτ wf hs b1 (nd_lt hw64), Option.bind_some]
        simp only []
        rw [show (0 : Int32) = nI 0 from rfl, e1, nI_1]
        exact e
      · rw [a1, List.length_cons]; congr 1; omega
      · rw [a2]; congr 1; omega
      · intro i hi
        rw [a3 i (by omega), g3 18 i (by omega), hτ, g_sI_ne (by omega), g_sI_ne (by omega), g_sI_ne (by omega)]
      · intro i hi
        cases i with
        | zero => rw [Nat.add_zero, a3 place (by omega), g3 18 place (by omega), hτ, g_sI_ne (by omega), g_sI_ne (by omega), g_sI_eq]; rfl
        | succ i =>
          rw [List.length_cons] at hi
          have := a4 i (by omega)
          rw [show place + 1 + i = place + (i + 1) by omega] at this
          rw [this]; rfl
/-- an order lies in the class's ranking -/
def RkC (σ : Sto) (l : List Nat) (d : Nat) : Prop := gI σ 17 1 = nI l.length ∧ gI σ 17 2 = nI d ∧ ∀ i, i < l.length → gI σ 18 i = nI (l.getD i 0)
theorem rk_rank {σ : Sto} {N : Nt} (h : NetAt σ 1 N) (wf : WfN N) {s w : Nat} (hs : s < 2) (hw : w < 2 ^ n_n N) : ∃ σ', f_Ranking_rank 1 (nI s) (lN w) σ = some ((), σ') ∧ RkC σ' (ordL N s 40 w) (depL N s 40 w) ∧ Scr kR σ σ' := by
  have hn := wf.1
  have hw64 : w < 2 ^ 64 := Nat.lt_of_lt_of_le hw (two_pow_le (by omega))
  have hpc : pc w ≤ 40 := by rw [pc_lt (Nat.lt_of_lt_of_le hw (two_pow_le hn)) (by decide)]; exact pcK_le 40 w
  obtain ⟨σ1, e1, g1, g2⟩ := rk_fill wf hs hw64 (n_n N) LF 0 σ (by omega) (by rw [LF_big]; omega) h (fun i hi => absurd hi (Nat.not_lt_zero i))
  have hs2 : Scr kR σ1 (sI (sI σ1 17 1 0) 17 2 0) := (Scr.sI (kR_f (by omega))).tr (Scr.sI (kR_f (by omega)))
  obtain ⟨σ', e, a1, a2, a3, a4, a5⟩ := rk_loop wf hs 40 LF 0 w 0 (sI (sI σ1 17 1 0) 17 2 0) hpc (by rw [LF_big]; omega) (by omega) hw (h.kR (by omega) (g2.tr hs2)) (fun p hp _ => by rw [g_sI_ne (by omega), g_sI_ne (by omega)]; exact g1 p hp) (by rw [g_sI_ne (by omega), g_sI_eq]; rfl) (by rw [g_sI_eq]; rfl) (by omega)
  refine ⟨σ', ?_, ⟨by rw [a1, Nat.zero_add], by rw [a2, Nat.zero_max], fun i hi => ?_⟩, (g2.tr hs2).tr a5⟩
  · unfold f_Ranking_rank B_Ranking_rank_0
    rw [show (0 : Int32) = nI 0 from rfl, e1]
    exact e
  · have := a4 i hi
    rwa [Nat.zero_add] at this
