/-! no more than 324 (Moon and Moser) -/
def Mx (N : Nt) (s w R : Nat) : Prop := GS N s w 0 R
def gMl : List Nat := [1, 1, 2, 3, 4, 6, 9, 12, 18, 27, 36, 54, 81, 108, 162, 243, 324]
def gM (m : Nat) : Nat := gMl.getD m 0
theorem gM_mono : ∀ a, a < 17 → ∀ b, b < 17 → a ≤ b → gM a ≤ gM b := by decide +kernel
theorem gM_step : ∀ m, m < 17 → ∀ d, d < m → (d + 1) * gM (m - 1 - d) ≤ gM m := by decide +kernel
theorem gM_le (m : Nat) (h : m < 17) : gM m ≤ 324 := gM_mono m h 16 (by decide) (by omega)
/-- each of a list is counted by one of U at least -/
theorem cnt_cover {U : Nat} (hU : U < 2 ^ 64) : ∀ l : List Nat, (∀ R ∈ l, ∃ u, U.testBit u = true ∧ R.testBit u = true) → l.length ≤ fb_sm (fun u => if U.testBit u then (l.filter (fun R => R.testBit u)).length else 0) 64
  | [], _ => Nat.zero_le _
  | R :: l, h => by
    have ih := cnt_cover hU l (fun x hx => h x (List.mem_cons_of_mem _ hx))
    obtain ⟨u, hu, hR⟩ := h R (List.mem_cons_self)
    have hu64 := bit_in hU hu
    have hle : fb_sm (fun u => if U.testBit u then (l.filter (fun R => R.testBit u)).length else 0) 64 + 1 ≤ fb_sm (fun u => if U.testBit u then ((R :: l).filter (fun R => R.testBit u)).length else 0) 64 := by
      have up := fb_sm_upd (fun u => if U.testBit u then (l.filter (fun R => R.testBit u)).length else 0) ((l.filter (fun R => R.testBit u)).length + 1) (i := u) (n := 64) hu64
      rw [if_pos hu] at up
      have le : fb_sm (fun k => if k = u then (l.filter (fun R => R.testBit u)).length + 1 else if U.testBit k then (l.filter (fun R => R.testBit k)).length else 0) 64 ≤ fb_sm (fun u => if U.testBit u then ((R :: l).filter (fun R => R.testBit u)).length else 0) 64 := fb_sm_le (fun k _ => by
        show (if k = u then (l.filter (fun R => R.testBit u)).length + 1 else if U.testBit k then (l.filter (fun R => R.testBit k)).length else 0) ≤ (if U.testBit k then ((R :: l).filter (fun R => R.testBit k)).length else 0)
        by_cases e : k = u
        · subst e
          rw [if_pos rfl, if_pos hu, List.filter_cons, if_pos hR, List.length_cons]
          omega
        · rw [if_neg e]
          by_cases hk : U.testBit k = true
          · rw [if_pos hk, if_pos hk, List.filter_cons]
            split
            · rw [List.length_cons]; omega
            · omega
          · rw [if_neg hk]; exact Nat.zero_le _)
      have v : fb_sm (fun k => if k = u then (l.filter (fun R => R.testBit u)).length + 1 else if U.testBit k then (l.filter (fun R => R.testBit k)).length else 0) 64 + (l.filter (fun R => R.testBit u)).length = fb_sm (fun u => if U.testBit u then (l.filter (fun R => R.testBit u)).length else 0) 64 + ((l.filter (fun R => R.testBit u)).length + 1) := up
      omega
    rw [List.length_cons]
    omega
theorem sm_pc {U c : Nat} {f : Nat → Nat} (h : ∀ u, U.testBit u = true → f u ≤ c) : fb_sm (fun u => if U.testBit u then f u else 0) 64 ≤ pc U * c := by
  have : ∀ n, fb_sm (fun u => if U.testBit u then f u else 0) n ≤ fb_ct (fun u => U.testBit u) n * c := by
    intro n
    induction n with
    | zero => exact Nat.zero_le _
    | succ n ih =>
      rw [fb_sm_succ, fb_ct_succ, Nat.add_mul]
      cases hb : U.testBit n with
      | false => simpa using ih
      | true =>
        have := h n hb
        simp only [if_true, Nat.one_mul]
        omega
  exact this 64
/-- those of w that don't fit u, u too -/
def noF (N : Nt) (s w u : Nat) : Nat := nd w (fit N s u w)
theorem noF_bit {N : Nt} {s w u i : Nat} : (noF N s w u).testBit i = (w.testBit i && !rl N s u i) := by
  unfold noF
  rw [nd_bit, fit_rl]
  cases w.testBit i <;> cases rl N s u i <;> rfl
theorem pc_split {a b : Nat} (h : subN b a) : pc a = pc b + pc (nd a b) := by
  have e : pc a = fb_ct (fun k => b.testBit k || (nd a b).testBit k) 64 := by
    unfold pc pcK
    refine fb_ct_cong (fun k _ => ?_)
    rw [nd_bit]
    cases hb : b.testBit k with
    | false => simp
    | true => rw [h k hb]; rfl
  rw [e, fb_ct_or (fun k _ => by rw [nd_bit]; intro z; rw [z.1] at z; simp at z)]
  rfl
theorem fit_sub {N : Nt} {s u w : Nat} : subN (fit N s u w) w := fun i hi => by
  rw [fit_rl, Bool.and_eq_true] at hi; exact hi.1
/-- a ring that can't grow, less one of its points -/
theorem mx_less {N : Nt} (wf : WfN N) {s w R u : Nat} (hw : w < 2 ^ n_n N) (h : Mx N s w R) (hu : R.testBit u = true) : Mx N s (fit N s u w) (nd R (2 ^ u)) := by
  have hwu := h.1 u hu
  have e : fit N s u (nd w (2 ^ u)) = fit N s u w := by rw [fit_nd, nd_no (fit_self wf (bit_in hw hwu))]
  have h0 : fit N s u 0 = 0 := bx (fun i => by rw [fit_rl, Nat.zero_testBit]; rfl)
  have e2 : nd R (2 ^ u) ||| 2 ^ u = R := bx (fun i => by
    rw [or1_bit, nd1_bit]
    by_cases ei : i = u
    · rw [ei, hu]; simp
    · simp [ei])
  have := (gs_yes (sh := 0) wf hw (Nat.two_pow_pos _) hwu (show (nd R (2 ^ u)).testBit u = false by rw [nd1_bit]; simp)).2 (by rw [e2]; exact h)
  rw [e, h0] at this
  exact this
theorem nodup_nd {u : Nat} : ∀ l : List Nat, l.Nodup → (∀ R ∈ l, R.testBit u = true) → (l.map (fun R => nd R (2 ^ u))).Nodup := fun l hl hu => by
  refine List.pairwise_map.2 (List.Pairwise.imp_of_mem (fun {a b} ha hb hab z => hab ?_) hl)
  apply bx
  intro i
  have := congrArg (fun x => x.testBit i) z
  simp only [nd1_bit] at this
  by_cases ei : i = u
  · rw [ei, hu a ha, hu b hb]
  · simpa [ei] using this
/-- the least number of those that don't fit -/
theorem min_pt {f : Nat → Nat} {w : Nat} (h0 : w ≠ 0) : ∃ v, w.testBit v = true ∧ ∀ u, w.testBit u = true → f v ≤ f u := by
  obtain ⟨i, hi⟩ := ex_bit h0
  have : ∀ n, ∀ v, w.testBit v = true → f v ≤ n → ∃ v, w.testBit v = true ∧ ∀ u, w.testBit u = true → f v ≤ f u := by
    intro n
    induction n with
    | zero => intro v hv hn; exact ⟨v, hv, fun u _ => by omega⟩
    | succ n ih =>
      intro v hv hn
      by_cases hc : ∃ u, w.testBit u = true ∧ f u < f v
      · obtain ⟨u, hu, hlt⟩ := hc
        exact ih u hu (by omega)
      · exact ⟨v, hv, fun u hu => by
          rcases Nat.lt_or_ge (f u) (f v) with y | y
          · exact absurd ⟨u, hu, y⟩ hc
          · exact y⟩
  exact this (f i) i hi (Nat.le_refl _)
theorem moon {N : Nt} (wf : WfN N) {s : Nat} : ∀ (m w : Nat) (l : List Nat), pc w ≤ m → m < 17 → w < 2 ^ n_n N → l.Nodup → (∀ R ∈ l, Mx N s w R) → l.length ≤ gM m := by
  intro m
  induction m using Nat.strongRecOn with
  | ind m ih =>
    intro w l hm h17 hw hl hR
    by_cases w0 : w = 0
    · subst w0
      have hl1 : l.length ≤ 1 := by
        match l, hl, hR with
        | [], _, _ => exact Nat.zero_le _
        | [a], _, _ => exact Nat.le_refl _
        | a :: b :: l, hl, hR =>
          have ha := sub_0 ((hR a (List.mem_cons_self)).1)
          have hb := sub_0 ((hR b (List.mem_cons_of_mem _ (List.mem_cons_self))).1)
          rw [ha, hb] at hl
          exact absurd (List.mem_cons_self) (List.nodup_cons.1 hl).1
      have := gM_mono 0 (by decide) m h17 (Nat.zero_le _)
      have h1 : gM 0 = 1 := rfl
      omega
    · obtain ⟨v, hv, hmin⟩ := min_pt (f := fun u => pc (noF N s w u)) w0
      have hvn := bit_in hw hv
      have hw64 := lt64 wf hw
      have hU64 : noF N s w v < 2 ^ 64 := nd_lt hw64
      have hcov := cnt_cover hU64 l (fun R hRl => by
        have hM := hR R hRl
        cases hRv : R.testBit v with
        | true => exact ⟨v, by rw [noF_bit, hv, rl_irr wf hvn]; rfl, hRv⟩
        | false =>
          obtain ⟨q, hq, hz⟩ := hM.2.2 v (Or.inl hv) hRv
          exact ⟨q, by rw [noF_bit, hM.1 q hq, hz]; rfl, hq⟩)
      -- v itself doesn't fit v
      have hpos : 1 ≤ pc (noF N s w v) := by
        rcases Nat.eq_zero_or_pos (pc (noF N s w v)) with y | y
        · have := pc_z hU64 y
          have z : (noF N s w v).testBit v = true := by rw [noF_bit, hv, rl_irr wf hvn]; rfl
          rw [this, Nat.zero_testBit] at z; cases z
        · exact y
      have hsp := pc_split (fit_sub (N := N) (s := s) (u := v) (w := w))
      have hsp' : pc w = pc (fit N s v w) + pc (noF N s w v) := hsp
      have hbound : ∀ u, (noF N s w v).testBit u = true → (l.filter (fun R => R.testBit u)).length ≤ gM (m - pc (noF N s w v)) := fun u hu => by
        have hwu : w.testBit u = true := by rw [noF_bit, Bool.and_eq_true] at hu; exact hu.1
        have hspu : pc w = pc (fit N s u w) + pc (noF N s w u) := pc_split (fit_sub (N := N) (s := s) (u := u) (w := w))
        have hmu := hmin u hwu
        have := ih (m - pc (noF N s w v)) (by omega) (fit N s u w) ((l.filter (fun R => R.testBit u)).map (fun R => nd R (2 ^ u))) (by omega) (by omega) (fit_lt hw) (nodup_nd _ (List.Pairwise.filter _ hl) (fun R hx => (List.mem_filter.1 hx).2)) (fun R hx => by
          obtain ⟨R', hR', rfl⟩ := List.mem_map.1 hx
          obtain ⟨y1, y2⟩ := List.mem_filter.1 hR'
          exact mx_less wf hw (hR R' y1) y2)
        rwa [List.length_map] at this
      have hsm := sm_pc (U := noF N s w v) (f := fun u => (l.filter (fun R => R.testBit u)).length) hbound
      have hst := gM_step m h17 (pc (noF N s w v) - 1) (by omega)
      rw [show pc (noF N s w v) - 1 + 1 = pc (noF N s w v) by omega, show m - 1 - (pc (noF N s w v) - 1) = m - pc (noF N s w v) by omega] at hst
      exact Nat.le_trans hcov (Nat.le_trans hsm hst)
