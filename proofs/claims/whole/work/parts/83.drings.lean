/-! rings that can't grow -/
def Clq (N : Nt) (s R : Nat) : Prop := ∀ p q, R.testBit p = true → R.testBit q = true → p ≠ q → rl N s p q = true
/-- T is a ring of open that none of open and shut can come to -/
def GS (N : Nt) (s op sh T : Nat) : Prop := subN T op ∧ Clq N s T ∧ ∀ p, (op.testBit p = true ∨ sh.testBit p = true) → T.testBit p = false → ∃ q, T.testBit q = true ∧ rl N s p q = false
/-- the highest bit below k -/
def hiB (w : Nat) : Nat → Nat
  | 0 => 0
  | k + 1 => if w.testBit k then k else hiB w k
theorem hiB_ok {w : Nat} : ∀ k, (∃ i, i < k ∧ w.testBit i = true) → hiB w k < k ∧ w.testBit (hiB w k) = true ∧ ∀ i, hiB w k < i → i < k → w.testBit i = false
  | 0, ⟨i, hi, _⟩ => absurd hi (Nat.not_lt_zero i)
  | k + 1, ⟨i, hi, hb⟩ => by
    show (if w.testBit k then k else hiB w k) < k + 1 ∧ w.testBit (if w.testBit k then k else hiB w k) = true ∧ ∀ i, (if w.testBit k then k else hiB w k) < i → i < k + 1 → w.testBit i = false
    cases hk : w.testBit k with
    | true =>
      rw [if_pos rfl]
      exact ⟨by omega, hk, fun j h1 h2 => by omega⟩
    | false =>
      rw [if_neg (by decide)]
      have : i ≠ k := fun z => by rw [z, hk] at hb; cases hb
      obtain ⟨h1, h2, h3⟩ := hiB_ok k ⟨i, by omega, hb⟩
      refine ⟨by omega, h2, fun j j1 j2 => ?_⟩
      by_cases e : j = k
      · rw [e]; exact hk
      · exact h3 j j1 (by omega)
def hP (w : Nat) : Nat := hiB w 64
theorem hP_ok {w : Nat} (hw : w < 2 ^ 64) (h0 : w ≠ 0) : w.testBit (hP w) = true ∧ w < 2 ^ (hP w + 1) := by
  obtain ⟨i, hi⟩ := ex_bit h0
  obtain ⟨h1, h2, h3⟩ := hiB_ok (w := w) 64 ⟨i, bit_in hw hi, hi⟩
  refine ⟨h2, bit_lt (fun j hj => ?_)⟩
  rcases Nat.lt_or_ge j 64 with y | y
  · exact h3 j (show hiB w 64 < j from hj) y
  · exact tb_out hw y
theorem nd_hP {w : Nat} (hw : w < 2 ^ 64) (h0 : w ≠ 0) : nd w (2 ^ hP w) < 2 ^ hP w := by
  obtain ⟨h1, h2⟩ := hP_ok hw h0
  refine bit_lt (fun j hj => ?_)
  rw [nd1_bit]
  by_cases e : j = hP w
  · rw [e]; simp
  · rw [tb_out h2 (by omega)]; rfl
def hpB (N : Nt) (s op sh : Nat) : Bool := !allB (fun p => !(sh.testBit p && decide (fit N s p op = op))) (n_n N)
theorem hpB_t {N : Nt} {s op sh : Nat} (h : hpB N s op sh = true) : ∃ p, p < n_n N ∧ sh.testBit p = true ∧ fit N s p op = op := by
  apply Classical.byContradiction
  intro hn
  have : allB (fun p => !(sh.testBit p && decide (fit N s p op = op))) (n_n N) = true := (allB_iff _ _).2 (fun p hp => by
    cases hb : sh.testBit p with
    | false => rfl
    | true =>
      rw [decide_eq_false (fun z => hn ⟨p, hp, hb, z⟩)]; rfl)
  unfold hpB at h
  rw [this] at h
  cases h
def gwL (N : Nt) (s : Nat) : Nat → Nat → Nat → List Nat
  | 0, _, _ => []
  | f + 1, op, sh => if op = 0 then (if sh = 0 then [0] else []) else if hpB N s op sh = true then [] else gwL N s f (nd op (2 ^ hP op)) (sh ||| 2 ^ hP op) ++ (gwL N s f (fit N s (hP op) (nd op (2 ^ hP op))) (fit N s (hP op) sh)).map (fun T => T ||| 2 ^ hP op)
theorem gwL_s (N : Nt) (s f op sh : Nat) : gwL N s (f + 1) op sh = if op = 0 then (if sh = 0 then [0] else []) else if hpB N s op sh = true then [] else gwL N s f (nd op (2 ^ hP op)) (sh ||| 2 ^ hP op) ++ (gwL N s f (fit N s (hP op) (nd op (2 ^ hP op))) (fit N s (hP op) sh)).map (fun T => T ||| 2 ^ hP op) := rfl
theorem sub_0 {T : Nat} (h : subN T 0) : T = 0 := bx (fun i => by
  rw [Nat.zero_testBit]
  cases hb : T.testBit i with
  | false => rfl
  | true => have := h i hb; rw [Nat.zero_testBit] at this; cases this)
theorem gs_0 {N : Nt} {s sh T : Nat} : GS N s 0 sh T ↔ T = 0 ∧ sh = 0 := by
  constructor
  · rintro ⟨h1, h2, h3⟩
    have hT := sub_0 h1
    refine ⟨hT, ?_⟩
    apply bx
    intro i
    rw [Nat.zero_testBit]
    cases hb : sh.testBit i with
    | false => rfl
    | true =>
      obtain ⟨q, hq, _⟩ := h3 i (Or.inr hb) (by rw [hT, Nat.zero_testBit])
      rw [hT, Nat.zero_testBit] at hq; cases hq
  · rintro ⟨rfl, rfl⟩
    refine ⟨fun i hi => hi, fun p q hp => ?_, fun p hp => ?_⟩
    · rw [Nat.zero_testBit] at hp; cases hp
    · rw [Nat.zero_testBit] at hp
      rcases hp with hp | hp <;> cases hp
theorem gs_hp {N : Nt} {s op sh T : Nat} (hd : ∀ i, sh.testBit i = true → op.testBit i = false) (h : hpB N s op sh = true) : ¬ GS N s op sh T := by
  rintro ⟨h1, h2, h3⟩
  obtain ⟨p, hp, hb, hf⟩ := hpB_t h
  have hTp : T.testBit p = false := by
    cases hz : T.testBit p with
    | false => rfl
    | true => have := h1 p hz; rw [hd p hb] at this; cases this
  obtain ⟨q, hq, hr⟩ := h3 p (Or.inr hb) hTp
  have := fit_all.1 hf q (h1 q hq)
  rw [this] at hr; cases hr
/-- without the point, and with it -/
theorem gs_no {N : Nt} {s op sh T b : Nat} (hb : op.testBit b = true) : GS N s (nd op (2 ^ b)) (sh ||| 2 ^ b) T ↔ (GS N s op sh T ∧ T.testBit b = false) := by
  constructor
  · rintro ⟨h1, h2, h3⟩
    have hTb : T.testBit b = false := by
      cases hz : T.testBit b with
      | false => rfl
      | true => have := h1 b hz; rw [nd1_bit] at this; simp at this
    refine ⟨⟨fun i hi => ?_, h2, fun p hp hT => ?_⟩, hTb⟩
    · have := h1 i hi
      rw [nd1_bit, Bool.and_eq_true] at this
      exact this.1
    · refine h3 p ?_ hT
      by_cases e : p = b
      · right; rw [or1_bit, e]; simp
      · rcases hp with hp | hp
        · left; rw [nd1_bit, hp]; simp [e]
        · right; rw [or1_bit, hp]; rfl
  · rintro ⟨⟨h1, h2, h3⟩, hTb⟩
    refine ⟨fun i hi => ?_, h2, fun p hp hT => ?_⟩
    · rw [nd1_bit, h1 i hi]
      by_cases e : i = b
      · rw [e, hTb] at hi; cases hi
      · simp [e]
    · refine h3 p ?_ hT
      rcases hp with hp | hp
      · rw [nd1_bit, Bool.and_eq_true] at hp
        exact Or.inl hp.1
      · rw [or1_bit, Bool.or_eq_true, decide_eq_true_eq] at hp
        rcases hp with hp | hp
        · exact Or.inr hp
        · rw [hp]; exact Or.inl hb
theorem gs_yes {N : Nt} (wf : WfN N) {s op sh T b : Nat} (hop : op < 2 ^ n_n N) (hsh : sh < 2 ^ n_n N) (hb : op.testBit b = true) (hT : T.testBit b = false) : GS N s (fit N s b (nd op (2 ^ b))) (fit N s b sh) T ↔ GS N s op sh (T ||| 2 ^ b) := by
  have hbn := bit_in hop hb
  constructor
  · rintro ⟨h1, h2, h3⟩
    have hTr : ∀ i, T.testBit i = true → op.testBit i = true ∧ rl N s b i = true := fun i hi => by
      have := h1 i hi
      rw [fit_rl, nd1_bit, Bool.and_eq_true, Bool.and_eq_true] at this
      exact ⟨this.1.1, this.2⟩
    refine ⟨fun i hi => ?_, fun p q hp hq hpq => ?_, fun p hp hTp => ?_⟩
    · rw [or1_bit, Bool.or_eq_true, decide_eq_true_eq] at hi
      rcases hi with hi | hi
      · exact (hTr i hi).1
      · rw [hi]; exact hb
    · rw [or1_bit, Bool.or_eq_true, decide_eq_true_eq] at hp hq
      rcases hp with hp | hp
      · rcases hq with hq | hq
        · exact h2 p q hp hq hpq
        · rw [hq, rl_sym wf (bit_in hop (hTr p hp).1) hbn]; exact (hTr p hp).2
      · rcases hq with hq | hq
        · rw [hp]; exact (hTr q hq).2
        · omega
    · rw [or1_bit, Bool.or_eq_false_iff, decide_eq_false_iff_not] at hTp
      have hpn : p < n_n N := by
        rcases hp with hp | hp
        · exact bit_in hop hp
        · exact bit_in hsh hp
      cases hr : rl N s p b with
      | false => exact ⟨b, by rw [or1_bit]; simp, hr⟩
      | true =>
        have hr' : rl N s b p = true := by rw [rl_sym wf hbn hpn]; exact hr
        obtain ⟨q, hq, hz⟩ := h3 p (by
          rcases hp with hp | hp
          · left; rw [fit_rl, nd1_bit, hp, hr']; simp [hTp.2]
          · right; rw [fit_rl, hp, hr']; rfl) hTp.1
        exact ⟨q, by rw [or1_bit, hq]; rfl, hz⟩
  · rintro ⟨h1, h2, h3⟩
    have hbT : (T ||| 2 ^ b).testBit b = true := by rw [or1_bit]; simp
    have hTi : ∀ i, T.testBit i = true → (T ||| 2 ^ b).testBit i = true ∧ i ≠ b := fun i hi => ⟨by rw [or1_bit, hi]; rfl, fun z => by rw [z, hT] at hi; cases hi⟩
    refine ⟨fun i hi => ?_, fun p q hp hq hpq => h2 p q (hTi p hp).1 (hTi q hq).1 hpq, fun p hp hTp => ?_⟩
    · obtain ⟨z1, z2⟩ := hTi i hi
      rw [fit_rl, nd1_bit, h1 i z1, h2 b i hbT z1 (Ne.symm z2)]
      simp [z2]
    · have hpb : p ≠ b ∧ (op.testBit p = true ∨ sh.testBit p = true) ∧ rl N s b p = true := by
        rcases hp with hp | hp
        · rw [fit_rl, nd1_bit, Bool.and_eq_true, Bool.and_eq_true] at hp
          refine ⟨fun z => by rw [z] at hp; simp at hp, Or.inl hp.1.1, hp.2⟩
        · rw [fit_rl, Bool.and_eq_true] at hp
          have hne : p ≠ b := fun z => by
            rw [z, rl_irr wf hbn] at hp
            exact absurd hp.2 (by decide)
          exact ⟨hne, Or.inr hp.1, hp.2⟩
      have hpn : p < n_n N := by
        rcases hpb.2.1 with y | y
        · exact bit_in hop y
        · exact bit_in hsh y
      obtain ⟨q, hq, hz⟩ := h3 p hpb.2.1 (by rw [or1_bit, hTp]; simp [hpb.1])
      rw [or1_bit, Bool.or_eq_true, decide_eq_true_eq] at hq
      rcases hq with hq | hq
      · exact ⟨q, hq, hz⟩
      · rw [hq, rl_sym wf hpn hbn, hpb.2.2] at hz; cases hz
theorem gwL_mem {N : Nt} (wf : WfN N) {s : Nat} : ∀ (f op sh : Nat), pc op < f → op < 2 ^ n_n N → sh < 2 ^ n_n N → (∀ i, sh.testBit i = true → op.testBit i = false) → ∀ T, T ∈ gwL N s f op sh ↔ GS N s op sh T := by
  intro f
  have hn := wf.1
  induction f with
  | zero => intro op sh h; omega
  | succ f ih =>
    intro op sh hf hop hsh hd T
    rw [gwL_s]
    by_cases h0 : op = 0
    · subst h0
      rw [if_pos rfl, gs_0]
      by_cases h1 : sh = 0
      · rw [if_pos h1]; simp [h1]
      · rw [if_neg h1]; simp [h1]
    · rw [if_neg h0]
      by_cases h2 : hpB N s op sh = true
      · rw [if_pos h2]
        simp only [List.not_mem_nil, false_iff]
        exact gs_hp hd h2
      · rw [if_neg h2]
        have hop64 := lt64 wf hop
        obtain ⟨b1, b2⟩ := hP_ok hop64 h0
        have hbn := bit_in hop b1
        generalize hP op = b at *
        have hp1 := pc_nd (w := op) (b := b) (by omega) b1
        have hp2 : pc (fit N s b (nd op (2 ^ b))) ≤ pc (nd op (2 ^ b)) := pc_mono (fun i hi => by
          rw [fit_rl, Bool.and_eq_true] at hi; exact hi.1)
        have i1 := ih (nd op (2 ^ b)) (sh ||| 2 ^ b) (by omega) (nd_lt hop) (or_lt hsh (pow_lt hbn)) (fun i hi => by
          rw [or1_bit, Bool.or_eq_true, decide_eq_true_eq] at hi
          rw [nd1_bit]
          rcases hi with hi | hi
          · rw [hd i hi]; rfl
          · rw [hi]; simp)
        have i2 := ih (fit N s b (nd op (2 ^ b))) (fit N s b sh) (by omega) (fit_lt (nd_lt hop)) (fit_lt hsh) (fun i hi => by
          rw [fit_rl, Bool.and_eq_true] at hi
          rw [fit_rl, nd1_bit, hd i hi.1]; rfl)
        rw [List.mem_append, i1, gs_no b1, List.mem_map]
        constructor
        · rintro (⟨h, _⟩ | ⟨T', hT', rfl⟩)
          · exact h
          · rw [i2] at hT'
            have hTb : T'.testBit b = false := by
              cases hz : T'.testBit b with
              | false => rfl
              | true => have := hT'.1 b hz; rw [fit_rl, nd1_bit] at this; simp at this
            exact (gs_yes wf hop hsh b1 hTb).1 hT'
        · intro h
          cases hTb : T.testBit b with
          | false => exact Or.inl ⟨h, rfl⟩
          | true =>
            right
            have e : nd T (2 ^ b) ||| 2 ^ b = T := bx (fun i => by
              rw [or1_bit, nd1_bit]
              by_cases ei : i = b
              · rw [ei, hTb]; simp
              · simp [ei])
            refine ⟨nd T (2 ^ b), ?_, e⟩
            rw [i2]
            refine (gs_yes wf hop hsh b1 (by rw [nd1_bit]; simp)).2 ?_
            rw [e]; exact h
theorem or_add {a p : Nat} (h : a < 2 ^ p) : a ||| 2 ^ p = a + 2 ^ p := by
  have := Nat.two_pow_add_eq_or_of_lt h 1
  rw [Nat.mul_one] at this
  rw [Nat.or_comm, ← this, Nat.add_comm]
theorem gwL_lt {N : Nt} {s : Nat} : ∀ (f op sh k : Nat), op < 2 ^ k → op < 2 ^ 64 → ∀ T, T ∈ gwL N s f op sh → T < 2 ^ k := by
  intro f
  induction f with
  | zero => intro op sh k _ _ T h; cases h
  | succ f ih =>
    intro op sh k hk h64 T hT
    rw [gwL_s] at hT
    by_cases h0 : op = 0
    · rw [if_pos h0] at hT
      by_cases h1 : sh = 0
      · rw [if_pos h1] at hT
        rw [List.mem_singleton.1 hT]; exact Nat.two_pow_pos _
      · rw [if_neg h1] at hT; cases hT
    · rw [if_neg h0] at hT
      by_cases h2 : hpB N s op sh = true
      · rw [if_pos h2] at hT; cases hT
      · rw [if_neg h2, List.mem_append, List.mem_map] at hT
        have hb := bit_in hk (hP_ok h64 h0).1
        rcases hT with hT | ⟨T', hT', rfl⟩
        · exact ih _ _ k (nd_lt hk) (nd_lt h64) T hT
        · exact or_lt (ih _ _ k (fit_lt (nd_lt hk)) (fit_lt (nd_lt h64)) T' hT') (pow_lt hb)
theorem gwL_sorted {N : Nt} {s : Nat} : ∀ (f op sh : Nat), op < 2 ^ 64 → (gwL N s f op sh).Pairwise (fun a b => a < b) := by
  intro f
  induction f with
  | zero => intro op sh _; exact List.Pairwise.nil
  | succ f ih =>
    intro op sh h64
    rw [gwL_s]
    by_cases h0 : op = 0
    · rw [if_pos h0]
      split
      · exact List.pairwise_singleton _ _
      · exact List.Pairwise.nil
    · rw [if_neg h0]
      split
      · exact List.Pairwise.nil
      · have hlt := nd_hP h64 h0
        refine List.pairwise_append.2 ⟨ih _ _ (nd_lt h64), ?_, fun a ha b hb => ?_⟩
        · rw [List.pairwise_map]
          refine List.Pairwise.imp_of_mem (fun {a b} ha hb hab => ?_) (ih _ _ (fit_lt (nd_lt h64)))
          rw [or_add (gwL_lt f _ _ _ (fit_lt hlt) (fit_lt (nd_lt h64)) a ha), or_add (gwL_lt f _ _ _ (fit_lt hlt) (fit_lt (nd_lt h64)) b hb)]
          omega
        · obtain ⟨T, hT, rfl⟩ := List.mem_map.1 hb
          have h1 := gwL_lt f _ _ _ hlt (nd_lt h64) a ha
          rw [or_add (gwL_lt f _ _ _ (fit_lt hlt) (fit_lt (nd_lt h64)) T hT)]
          omega
