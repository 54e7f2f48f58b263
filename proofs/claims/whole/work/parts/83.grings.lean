/-! rings listed by bringing in one point after another -/
theorem mx_ext {N : Nt} (wf : WfN N) {s T : Nat} (hT : T < 2 ^ n_n N) : ∀ (k R : Nat), pc T ≤ pc R + k → subN R T → Clq N s R → ∃ M, Mx N s T M ∧ subN R M := by
  intro k
  have hn := wf.1
  have grow1 : ∀ R, subN R T → Clq N s R → (Mx N s T R) ∨ ∃ p, p < n_n N ∧ subN (R ||| 2 ^ p) T ∧ Clq N s (R ||| 2 ^ p) ∧ pc (R ||| 2 ^ p) = pc R + 1 ∧ subN R (R ||| 2 ^ p) := fun R hR hC => by
    by_cases hx : ∃ p, T.testBit p = true ∧ R.testBit p = false ∧ ∀ q, R.testBit q = true → rl N s p q = true
    · obtain ⟨p, hp, hRp, hq⟩ := hx
      have hpn := bit_in hT hp
      right
      refine ⟨p, hpn, fun i hi => ?_, fun a b ha hb hab => ?_, pc_or (by omega) hRp, fun i hi => by rw [or1_bit, hi]; rfl⟩
      · rw [or1_bit, Bool.or_eq_true, decide_eq_true_eq] at hi
        rcases hi with hi | hi
        · exact hR i hi
        · rw [hi]; exact hp
      · rw [or1_bit, Bool.or_eq_true, decide_eq_true_eq] at ha hb
        rcases ha with ha | ha
        · rcases hb with hb | hb
          · exact hC a b ha hb hab
          · rw [hb, rl_sym wf (bit_in hT (hR a ha)) hpn]; exact hq a ha
        · rcases hb with hb | hb
          · rw [ha]; exact hq b hb
          · omega
    · left
      refine ⟨hR, hC, fun p hp hRp => ?_⟩
      rw [Nat.zero_testBit] at hp
      rcases hp with hp | hp
      · apply Classical.byContradiction
        intro hno
        exact hx ⟨p, hp, hRp, fun q hq => by
          cases hr : rl N s p q with
          | true => rfl
          | false => exact absurd ⟨q, hq, hr⟩ hno⟩
      · cases hp
  induction k with
  | zero =>
    intro R hk hR hC
    rcases grow1 R hR hC with h | ⟨p, _, h1, h2, h3, h4⟩
    · exact ⟨R, h, fun _ h => h⟩
    · have := pc_mono h1; omega
  | succ k ih =>
    intro R hk hR hC
    rcases grow1 R hR hC with h | ⟨p, _, h1, h2, h3, h4⟩
    · exact ⟨R, h, fun _ h => h⟩
    · obtain ⟨M, hM, hs⟩ := ih (R ||| 2 ^ p) (by omega) h1 h2
      exact ⟨M, hM, fun i hi => hs i (h4 i hi)⟩
theorem mx_blk {N : Nt} {s w R : Nat} (h : Mx N s w R) {p : Nat} (hp : w.testBit p = true) (hR : R.testBit p = false) : ∃ q, R.testBit q = true ∧ rl N s p q = false := h.2.2 p (Or.inl hp) hR
theorem mx_of {N : Nt} {s w R : Nat} (h1 : subN R w) (h2 : Clq N s R) (h3 : ∀ p, w.testBit p = true → R.testBit p = false → ∃ q, R.testBit q = true ∧ rl N s p q = false) : Mx N s w R := ⟨h1, h2, fun p hp hR => by
  rw [Nat.zero_testBit] at hp
  rcases hp with hp | hp
  · exact h3 p hp hR
  · cases hp⟩
/-- one with all that fit it of a ring -/
theorem clq_fit {N : Nt} (wf : WfN N) {s M p w : Nat} (hw : w < 2 ^ n_n N) (hM : subN M w) (hC : Clq N s M) (hp : p < n_n N) : Clq N s (fit N s p M ||| 2 ^ p) := fun a b ha hb hab => by
  rw [or1_bit, fit_rl, Bool.or_eq_true, Bool.and_eq_true, decide_eq_true_eq] at ha hb
  rcases ha with ha | ha
  · rcases hb with hb | hb
    · exact hC a b ha.1 hb.1 hab
    · rw [hb, rl_sym wf (bit_in hw (hM a ha.1)) hp]; exact ha.2
  · rcases hb with hb | hb
    · rw [ha]; exact hb.2
    · omega
theorem st_1 {N : Nt} (wf : WfN N) {s th M p : Nat} (hth : th < 2 ^ n_n N) (hp : p < n_n N) (h : Mx N s th M) (hf : fit N s p M = M) : Mx N s (th ||| 2 ^ p) (M ||| 2 ^ p) := by
  have hc := clq_fit wf hth h.1 h.2.1 hp
  rw [hf] at hc
  refine mx_of (fun i hi => ?_) hc (fun q hq hM => ?_)
  · rw [or1_bit, Bool.or_eq_true] at hi ⊢
    rcases hi with hi | hi
    · exact Or.inl (h.1 i hi)
    · exact Or.inr hi
  · rw [or1_bit, Bool.or_eq_false_iff, decide_eq_false_iff_not] at hM
    rw [or1_bit, Bool.or_eq_true, decide_eq_true_eq] at hq
    rcases hq with hq | hq
    · obtain ⟨x, hx, hz⟩ := mx_blk h hq hM.1
      exact ⟨x, by rw [or1_bit, hx]; rfl, hz⟩
    · exact absurd hq hM.2
theorem st_2 {N : Nt} {s th M p : Nat} (h : Mx N s th M) (hf : ¬ fit N s p M = M) : Mx N s (th ||| 2 ^ p) M := by
  refine mx_of (fun i hi => by rw [or1_bit, h.1 i hi]; rfl) h.2.1 (fun q hq hM => ?_)
  rw [or1_bit, Bool.or_eq_true, decide_eq_true_eq] at hq
  rcases hq with hq | hq
  · exact mx_blk h hq hM
  · rw [hq]
    apply Classical.byContradiction
    intro hno
    exact hf (fit_all.2 (fun x hx => by
      cases hr : rl N s p x with
      | true => rfl
      | false => exact absurd ⟨x, hx, hr⟩ hno))
theorem com_0 {N : Nt} (wf : WfN N) {s c w : Nat} (hc : c < 2 ^ n_n N) (hw : w < 2 ^ n_n N) : fitAll N s c (nd w c) (n_n N) = 0 ↔ ∀ p, w.testBit p = true → c.testBit p = false → ∃ q, c.testBit q = true ∧ rl N s p q = false := by
  constructor
  · intro h p hp hcp
    have hpn := bit_in hw hp
    have := fitAll_in wf (s := s) (w := nd w c) hc hpn
    rw [h, Nat.zero_testBit, nd_bit, hp, hcp] at this
    have hnf : ¬ fit N s p c = c := fun z => by rw [decide_eq_true z] at this; cases this
    apply Classical.byContradiction
    intro hno
    exact hnf (fit_all.2 (fun x hx => by
      cases hr : rl N s p x with
      | true => rfl
      | false => exact absurd ⟨x, hx, hr⟩ hno))
  · intro h
    apply bx
    intro i
    rw [Nat.zero_testBit]
    rcases Nat.lt_or_ge i (n_n N) with hi | hi
    · rw [fitAll_in wf hc hi]
      cases hb : (nd w c).testBit i with
      | false => rfl
      | true =>
        rw [nd_bit, Bool.and_eq_true, Bool.not_eq_true'] at hb
        obtain ⟨q, hq, hz⟩ := h i hb.1 hb.2
        rw [Bool.true_and]
        exact decide_eq_false (fun z => by rw [fit_all.1 z q hq] at hz; cases hz)
    · exact tb_out (fitAll_lt (nd_lt hw) _) hi
theorem st_3 {N : Nt} (wf : WfN N) {s th M p : Nat} (hth : th < 2 ^ n_n N) (hp : p < n_n N) (h : Mx N s th M) (h0 : fitAll N s (fit N s p M ||| 2 ^ p) (nd (th ||| 2 ^ p) (fit N s p M ||| 2 ^ p)) (n_n N) = 0) : Mx N s (th ||| 2 ^ p) (fit N s p M ||| 2 ^ p) := by
  have hM : M < 2 ^ n_n N := bit_lt (fun i hi => by
    cases hb : M.testBit i with
    | false => rfl
    | true => have := h.1 i hb; rw [tb_out hth hi] at this; cases this)
  refine mx_of (fun i hi => ?_) (clq_fit wf hth h.1 h.2.1 hp) ((com_0 wf (or_lt (fit_lt hM) (pow_lt hp)) (or_lt hth (pow_lt hp))).1 h0)
  rw [or1_bit, Bool.or_eq_true] at hi ⊢
  rcases hi with hi | hi
  · exact Or.inl (h.1 i (fit_sub i hi))
  · exact Or.inr hi
theorem st_4 {N : Nt} {s th R p : Nat} (hpt : th.testBit p = false) (h : Mx N s (th ||| 2 ^ p) R) (hRp : R.testBit p = false) : Mx N s th R ∧ ¬ fit N s p R = R := by
  constructor
  · refine mx_of (fun i hi => ?_) h.2.1 (fun q hq hR => mx_blk h (by rw [or1_bit, hq]; rfl) hR)
    have := h.1 i hi
    rw [or1_bit, Bool.or_eq_true, decide_eq_true_eq] at this
    rcases this with y | y
    · exact y
    · rw [y, hRp] at hi; cases hi
  · intro z
    obtain ⟨q, hq, hz⟩ := mx_blk h (show (th ||| 2 ^ p).testBit p = true by rw [or1_bit]; simp) hRp
    rw [fit_all.1 z q hq] at hz; cases hz
theorem st_5 {N : Nt} (wf : WfN N) {s th R p : Nat} (hth : th < 2 ^ n_n N) (hp : p < n_n N) (hpt : th.testBit p = false) (h : Mx N s (th ||| 2 ^ p) R) (hRp : R.testBit p = true) : ∃ M, Mx N s th M ∧ R = fit N s p M ||| 2 ^ p := by
  have hsub : subN (nd R (2 ^ p)) th := fun i hi => by
    rw [nd1_bit, Bool.and_eq_true] at hi
    have := h.1 i hi.1
    rw [or1_bit, Bool.or_eq_true, decide_eq_true_eq] at this
    rcases this with y | y
    · exact y
    · rw [y] at hi; simp at hi
  obtain ⟨M, hM, hs⟩ := mx_ext wf hth (pc th) (nd R (2 ^ p)) (by omega) hsub (fun a b ha hb hab => by
    rw [nd1_bit, Bool.and_eq_true] at ha hb
    exact h.2.1 a b ha.1 hb.1 hab)
  refine ⟨M, hM, ?_⟩
  have hpM : M.testBit p = false := by
    cases hz : M.testBit p with
    | false => rfl
    | true => rw [hM.1 p hz] at hpt; cases hpt
  have hcl := clq_fit wf (p := p) hth hM.1 hM.2.1 hp
  have hin : ∀ i, R.testBit i = true → (fit N s p M ||| 2 ^ p).testBit i = true := fun i hi => by
    rw [or1_bit, fit_rl]
    by_cases e : i = p
    · simp [e]
    · have := hs i (by rw [nd1_bit, hi]; simp [e])
      rw [this, h.2.1 p i hRp hi (Ne.symm e)]; rfl
  apply bx
  intro i
  cases hb : R.testBit i with
  | true => rw [hin i hb]
  | false =>
    cases hz : (fit N s p M ||| 2 ^ p).testBit i with
    | false => rfl
    | true =>
      have hit : (th ||| 2 ^ p).testBit i = true := by
        rw [or1_bit, fit_rl, Bool.or_eq_true, Bool.and_eq_true] at hz
        rw [or1_bit, Bool.or_eq_true]
        rcases hz with y | y
        · exact Or.inl (hM.1 i y.1)
        · exact Or.inr y
      obtain ⟨q, hq, hr⟩ := mx_blk h hit hb
      have hqi : i ≠ q := fun z => by rw [z, hq] at hb; cases hb
      rw [hcl i q hz (hin q hq) hqi] at hr; cases hr
/-! the list as the reference keeps it -/
def LsP (N : Nt) (s th : Nat) (A : Gs) : Prop := (∀ i j, i < j → j < A.1 → A.2 i ≠ A.2 j) ∧ (∀ i, i < A.1 → Mx N s th (A.2 i)) ∧ ∀ R, Mx N s th R → ∃ i, i < A.1 ∧ A.2 i = R
theorem inj_len {N : Nt} (wf : WfN N) {s th : Nat} (hth : th < 2 ^ n_n N) (h16 : pc th ≤ 16) {A : Gs} (h1 : ∀ i j, i < j → j < A.1 → A.2 i ≠ A.2 j) (h2 : ∀ i, i < A.1 → Mx N s th (A.2 i)) : A.1 ≤ 324 := by
  have hl : ((List.range A.1).map A.2).length ≤ gM (pc th) := moon wf (pc th) th _ (Nat.le_refl _) (by omega) hth (by
    refine List.pairwise_map.2 (List.Pairwise.imp_of_mem (fun {a b} ha hb hab => ?_) (List.pairwise_lt_range (n := A.1)))
    exact h1 a b hab (List.mem_range.1 hb)) (fun R hR => by
    obtain ⟨i, hi, rfl⟩ := List.mem_map.1 hR
    exact h2 i (List.mem_range.1 hi))
  rw [List.length_map, List.length_range] at hl
  exact Nat.le_trans hl (gM_le _ (by omega))
def RgM (σ : Sto) (A : Gs) : Prop := gI σ 48 15 = nI A.1 ∧ ∀ i, i < A.1 → gL σ 57 i = lN (A.2 i)
def kH (c j : Nat) : Bool := !(decide (c = 48) && decide (j = 15) || decide (c = 57))
theorem kH_t {c j : Nat} (h : ¬ (c = 48 ∧ j = 15) ∧ c ≠ 57) : kH c j = true := by
  unfold kH
  simp only [Bool.not_eq_true', Bool.or_eq_false_iff, Bool.and_eq_false_iff, decide_eq_false_iff_not]
  omega
theorem kH_f {c j : Nat} (h : (c = 48 ∧ j = 15) ∨ c = 57) : kH c j = false := by
  unfold kH
  simp only [Bool.not_eq_false', Bool.or_eq_true, Bool.and_eq_true, decide_eq_true_eq]
  exact h
theorem Scr.kHM {σ σ' : Sto} (hs : Scr kH σ σ') : Scr kM σ σ' := fun c j h => hs c j (by
  apply kH_t
  revert h
  unfold kM
  simp only [Bool.or_eq_true, Bool.and_eq_true, decide_eq_true_eq]
  omega)
theorem ModAt.kH {σ σ' : Sto} {N : Nt} (h : ModAt σ N) (hs : Scr kH σ σ') : ModAt σ' N :=
  ⟨by rw [(hs 48 0 (kH_t (by omega))).1]; exact h.1, fun p hp => by
    obtain ⟨a1, a2, a3⟩ := h.2 p hp
    exact ⟨by rw [(hs 49 p (kH_t (by omega))).1]; exact a1, by rw [(hs 50 p (kH_t (by omega))).1]; exact a2, by rw [(hs 51 p (kH_t (by omega))).2]; exact a3⟩⟩
theorem mo_common {N : Nt} (wf : WfN N) {s c w : Nat} (hs : s < 2) (hc : c < 2 ^ 64) (hw : w < 2 ^ 64) {σ : Sto} (h : ModAt σ N) : f_Mo_common (nI s) (lN c) (lN w) σ = some (lN (fitAll N s c (nd w c) (n_n N)), σ) := by
  have hn := wf.1
  have hl : ∀ k, fitAll N s c (nd w c) k < 2 ^ 64 := fun k => fitAll_lt (nd_lt hw) k
  have lp : ∀ (k fu p : Nat), p + k = n_n N → k < fu → L_Mo_common_13 fu (nI s) (lN c) (lN (fitAll N s c (nd w c) p)) (nI p) σ = some (lN (fitAll N s c (nd w c) (n_n N)), σ) := by
    intro k
    induction k with
    | zero =>
      intro fu p hp hf
      obtain ⟨fu, rfl⟩ : ∃ z, fu = z + 1 := ⟨fu - 1, by omega⟩
      show B_Mo_common_13 (L_Mo_common_13 fu) _ _ _ _ _ = _
      unfold B_Mo_common_13
      rw [h.1, if_pos (nI_le (by omega) (by omega)), show p = n_n N by omega]
    | succ k ih =>
      intro fu p hp hf
      obtain ⟨fu, rfl⟩ : ∃ z, fu = z + 1 := ⟨fu - 1, by omega⟩
      have e := ih fu (p + 1) (by omega) (by omega)
      rw [fitAll_s] at e
      show B_Mo_common_13 (L_Mo_common_13 fu) _ _ _ _ _ = _
      unfold B_Mo_common_13
      rw [h.1, if_neg (nI_ge (by omega) (by omega)), has_eq hc (by omega), Option.bind_some]
      simp only [b2i_eq0, and_m1 (hl p), mo_fits h wf hs (show p < n_n N by omega) (hl p), Option.bind_some, fb_andL, nI_1]
      rw [show fitAll N s c (nd w c) p &&& fit N s p (fitAll N s c (nd w c) p) = fit N s p (fitAll N s c (nd w c) p) from bx (fun i => by
        rw [Nat.testBit_and]
        cases hb : (fit N s p (fitAll N s c (nd w c) p)).testBit i with
        | false => rw [Bool.and_false]
        | true => rw [fit_sub i hb]; rfl)]
      cases hb : c.testBit p with
      | false =>
        rw [if_pos rfl]
        rw [hb, if_neg (by decide)] at e
        exact e
      | true =>
        rw [if_neg (by decide)]
        rw [hb, if_pos rfl] at e
        exact e
  unfold f_Mo_common B_Mo_common_0
  rw [lt1_eq, lN_nd hw]
  exact lp (n_n N) LF 0 (by omega) (by rw [LF_big]; omega)
def apG (B : Gs) (R : Nat) : Gs := (B.1 + 1, fun i => if i = B.1 then R else B.2 i)
theorem mo_listsOne {B : Gs} {R : Nat} (hB : B.1 < 400) (hR : R < 2 ^ 64) (hl : ∀ i, i < B.1 → B.2 i < 2 ^ 64) {σ : Sto} (h : RgM σ B) : ∃ σ' B', f_Mo_listsOne (lN R) σ = some ((), σ') ∧ RgM σ' B' ∧ Scr kH σ σ' ∧ (((∃ i, i < B.1 ∧ B.2 i = R) ∧ B' = B) ∨ ((∀ i, i < B.1 → B.2 i ≠ R) ∧ B' = apG B R)) := by
  have lp : ∀ (k fu r : Nat), r + k = B.1 → k < fu → (∀ i, i < r → B.2 i ≠ R) → ∃ σ' B', L_Mo_listsOne_2 fu (lN R) (nI r) σ = some ((), σ') ∧ RgM σ' B' ∧ Scr kH σ σ' ∧ (((∃ i, i < B.1 ∧ B.2 i = R) ∧ B' = B) ∨ ((∀ i, i < B.1 → B.2 i ≠ R) ∧ B' = apG B R)) := by
    intro k
    induction k with
    | zero =>
      intro fu r hr hf hno
      obtain ⟨fu, rfl⟩ : ∃ z, fu = z + 1 := ⟨fu - 1, by omega⟩
      refine ⟨sI (sL σ 57 B.1 (lN R)) 48 15 (nI (B.1 + 1)), apG B R, ?_, ⟨by rw [g_sI_eq]; rfl, fun i hi => ?_⟩, (Scr.sL (kH_f (by omega))).tr (Scr.sI (kH_f (by omega))), Or.inr ⟨fun i hi => hno i (by omega), rfl⟩⟩
      · show B_Mo_listsOne_2 (L_Mo_listsOne_2 fu) _ _ _ = _
        unfold B_Mo_listsOne_2
        rw [h.1, if_pos (nI_le (by omega) (by omega))]
        simp only [inb_ok hB (show 400 < 2 ^ 31 by decide), if_true, nI_clamp (show B.1 < 2 ^ 31 by omega), lt1_eq, gI_sL, h.1, nI_1]
      · have hi' : i < B.1 + 1 := hi
        show _ = lN (if i = B.1 then R else B.2 i)
        rw [gL_sI]
        by_cases e : i = B.1
        · rw [e, g_sL_eq, if_pos rfl]
        · rw [g_sL_ne (by omega), if_neg e]; exact h.2 i (by omega)
    | succ k ih =>
      intro fu r hr hf hno
      obtain ⟨fu, rfl⟩ : ∃ z, fu = z + 1 := ⟨fu - 1, by omega⟩
      have e0 : L_Mo_listsOne_2 (fu + 1) (lN R) (nI r) σ = if B.2 r = R then some ((), σ) else L_Mo_listsOne_2 fu (lN R) (nI (r + 1)) σ := by
        show B_Mo_listsOne_2 (L_Mo_listsOne_2 fu) _ _ _ = _
        unfold B_Mo_listsOne_2
        rw [h.1, if_neg (nI_ge (by omega) (by omega))]
        simp only [inb_ok (show r < 400 by omega) (show 400 < 2 ^ 31 by decide), if_true, nI_clamp (show r < 2 ^ 31 by omega), h.2 r (by omega), lN_inj64 (hl r (by omega)) hR, nI_1]
      rw [e0]
      by_cases hc : B.2 r = R
      · rw [if_pos hc]
        exact ⟨σ, B, rfl, h, Scr.rf, Or.inl ⟨⟨r, by omega, hc⟩, rfl⟩⟩
      · rw [if_neg hc]
        refine ih fu (r + 1) (by omega) (by omega) (fun i hi => ?_)
        by_cases e : i = r
        · rw [e]; exact hc
        · exact hno i (by omega)
  exact lp B.1 LF 0 (by omega) (by rw [LF_big]; omega) (fun i hi => absurd hi (Nat.not_lt_zero i))
