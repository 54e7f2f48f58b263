/-! all -/
theorem mo_all_loop {N : Nt} (wf : WfN N) {s m w top : Nat} {v5 : Int32} (hm : m < 2) (hw : w < 2 ^ n_n N) (h16 : pc w ≤ 16) (htop : top < 2 ^ 31) {A : Gs} (hL : LsP N s w A) {σ : Sto} (h : ModAt σ N) (hA : RgM σ A) : ∀ (k fu r : Nat), r + k = A.1 → k < fu → L_Mo_all_78 fu (nI m) v5 (nI top) (lN (eaI N m top (2 ^ 64 - 1) A.2 r)) (lN (anI N m top A.2 r)) (nI (fb_ct (fun i => decide (mea N m (A.2 i) = top)) r)) (nI r) σ = if v5 = 0 then some (lN (eaI N m top (2 ^ 64 - 1) A.2 A.1), σ) else if v5 = 1 then some (lN (anI N m top A.2 A.1), σ) else some (lN (fb_ct (fun i => decide (mea N m (A.2 i) = top)) A.1), σ) := by
  intro k
  have hl := inj_len wf hw h16 hL.1 hL.2.1
  induction k with
  | zero =>
    intro fu r hr hf
    obtain ⟨fu, rfl⟩ : ∃ z, fu = z + 1 := ⟨fu - 1, by omega⟩
    have := fb_ct_le (fun i => decide (mea N m (A.2 i) = top)) A.1
    show B_Mo_all_78 (L_Mo_all_78 fu) _ _ _ _ _ _ _ _ = _
    unfold B_Mo_all_78
    rw [hA.1, if_pos (nI_le (by omega) (by omega)), show r = A.1 by omega, nI_l (by omega)]
  | succ k ih =>
    intro fu r hr hf
    obtain ⟨fu, rfl⟩ : ∃ z, fu = z + 1 := ⟨fu - 1, by omega⟩
    have e := ih fu (r + 1) (by omega) (by omega)
    have hr0 : r < A.1 := by omega
    have m1 := mea_le wf m (A.2 r)
    rw [show eaI N m top (2 ^ 64 - 1) A.2 (r + 1) = if mea N m (A.2 r) = top then eaI N m top (2 ^ 64 - 1) A.2 r &&& A.2 r else eaI N m top (2 ^ 64 - 1) A.2 r from rfl, show anI N m top A.2 (r + 1) = if mea N m (A.2 r) = top then anI N m top A.2 r ||| A.2 r else anI N m top A.2 r from rfl, fb_ct_succ] at e
    show B_Mo_all_78 (L_Mo_all_78 fu) _ _ _ _ _ _ _ _ = _
    unfold B_Mo_all_78
    rw [hA.1, if_neg (nI_ge hr0 (by omega))]
    simp only [inb_ok (show r < 400 by omega) (show 400 < 2 ^ 31 by decide), if_true, nI_clamp (show r < 2 ^ 31 by omega), hA.2 r hr0, mo_measureOf h wf hm (mx_lt hw (hL.2.1 r hr0)), Option.bind_some, nI_eq (show mea N m (A.2 r) < 2 ^ 31 by omega) htop, lt1_eq, fb_andL, fb_orL, nI_1]
    by_cases hc : mea N m (A.2 r) = top
    · rw [if_pos hc]
      simp only [if_pos hc, decide_eq_true hc, if_true] at e
      exact e
    · rw [if_neg hc]
      simp only [if_neg hc, decide_eq_false hc, Bool.false_eq_true, if_false, Nat.add_zero] at e
      exact e
theorem op_all (a0 : Int32) (b1 : Int32) (c2 : Int64) (d3 : Int32) : Op (f_FR_all a0 b1 c2 d3) (f_Mo_all a0 b1 c2 d3) := by
  obtain ⟨u, hu, rfl⟩ := wb_of c2
  have l0 : d3 < 0 ↔ d3.toInt < 0 := by rw [Int32.lt_iff_toInt_lt, Int32.toInt_zero]
  have l2 : d3 ≤ 2 ↔ d3.toInt ≤ 2 := by rw [Int32.le_iff_toInt_le, show (2 : Int32).toInt = 2 by decide +kernel]
  cases h1 : oneB a0
  · refine Op.ask (fun _ => -2) (fun σ A wf h => ⟨σ, ?_, Scr.rf⟩) (fun σ A wf h => ⟨σ, ?_, Scr.rf⟩)
    · unfold f_FR_all B_FR_all_0
      simp [fr_isAsked h.net wf.1 a0 b1 hu, h1, ite_bf]
    · unfold f_Mo_all B_Mo_all_0
      simp [mo_isOne, h1, ite_bf]
  cases h2 : oneB b1
  · refine Op.ask (fun _ => -2) (fun σ A wf h => ⟨σ, ?_, Scr.rf⟩) (fun σ A wf h => ⟨σ, ?_, Scr.rf⟩)
    · unfold f_FR_all B_FR_all_0
      simp [fr_isAsked h.net wf.1 a0 b1 hu, h1, h2, ite_bf]
    · unfold f_Mo_all B_Mo_all_0
      simp [mo_isOne, h1, h2, ite_bf, ite_bt]
  obtain ⟨s, hs, rfl⟩ := oneB_of h1
  obtain ⟨m, hm, rfl⟩ := oneB_of h2
  cases hd : ptB d3 3
  · refine Op.ask (fun _ => -2) (fun σ A wf h => ⟨σ, ?_, Scr.rf⟩) (fun σ A wf h => ⟨σ, ?_, Scr.rf⟩)
    · unfold f_FR_all B_FR_all_0
      simp only [fr_isAsked h.net wf.1 (nI s) (nI m) hu, h1, h2, Bool.true_and, Option.bind_some, l0, l2]
      simp only [ptB, Bool.and_eq_false_iff, decide_eq_false_iff_not] at hd
      by_cases h3 : u < 2 ^ n_n (s_N A)
      · rw [decide_eq_true h3, ite_bt]
        by_cases c : d3.toInt < 0
        · rw [if_pos c]
        · rw [if_neg c, if_neg (by omega)]
      · rw [decide_eq_false h3, ite_bf]
    · unfold f_Mo_all B_Mo_all_0
      simp only [mo_isOne, h1, h2, mo_isSet h.net wf.1 hu, Option.bind_some, ite_bt, mo_rng (m := 2) (k := 2) (by decide +kernel), show ptB d3 (2 + 1) = false from hd, ite_bf]
      split <;> rfl
  have hd0 : ¬ d3.toInt < 0 ∧ d3.toInt ≤ 2 := by
    simp only [ptB, Bool.and_eq_true, decide_eq_true_eq] at hd
    omega
  refine Op.ask (fun A => if u < 2 ^ n_n (s_N A) then (if pc u ≤ 16 then (if d3 = 0 then lN (eaI (s_N A) m (topN (s_N A) s m u) u (fun i => (rgL (s_N A) s u).getD i 0) (rgL (s_N A) s u).length) else if d3 = 1 then lN (anI (s_N A) m (topN (s_N A) s m u) (fun i => (rgL (s_N A) s u).getD i 0) (rgL (s_N A) s u).length) else lN (fb_ct (fun i => decide (mea (s_N A) m ((rgL (s_N A) s u).getD i 0) = topN (s_N A) s m u)) (rgL (s_N A) s u).length)) else -5) else -2) (fun σ A wf h => ?_) (fun σ A wf h => ?_)
  · unfold f_FR_all B_FR_all_0
    simp only [fr_isAsked h.net wf.1 (nI s) (nI m) hu, h1, h2, Bool.true_and, Option.bind_some, l0, l2, if_neg hd0.1, if_pos hd0.2]
    by_cases h3 : u < 2 ^ n_n (s_N A)
    · simp only [decide_eq_true h3, ite_bt, if_pos h3, bitCount_eq hu, Option.bind_some, pc16]
      by_cases h4 : pc u ≤ 16
      · obtain ⟨σ', e, hr, hN, r4⟩ := fi_gather wf.1 hs h3 h4 h.net
        have hN1 := h.net.kF (by omega) r4
        have hl := rgL_len (s := s) wf.1 h3 h4
        have htop := mwI_le wf.1 m (fun i => (rgL (s_N A) s u).getD i 0) (rgL (s_N A) s u).length
        have hct := fb_ct_le (fun i => decide (mea (s_N A) m ((rgL (s_N A) s u).getD i 0) = topN (s_N A) s m u)) (rgL (s_N A) s u).length
        refine ⟨σ', ?_, r4.kFC⟩
        rw [if_pos h4, if_pos h4, e, Option.bind_some]
        simp only []
        rw [fi_most wf.1 hm hl (rg_64 wf.1 h3) hN1 hN hr, Option.bind_some]
        simp only []
        rw [show mwI (s_N A) m (fun i => (rgL (s_N A) s u).getD i 0) (rgL (s_N A) s u).length = topN (s_N A) s m u from rfl]
        have htop' : topN (s_N A) s m u < 2 ^ 31 := by
          show mwI (s_N A) m (fun i => (rgL (s_N A) s u).getD i 0) (rgL (s_N A) s u).length < 2 ^ 31
          omega
        by_cases c0 : d3 = 0
        · rw [if_pos c0, if_pos c0, fi_each wf.1 hm htop' hl (rg_64 wf.1 h3) hN1 hN hr, Option.bind_some]
        · rw [if_neg c0, if_neg c0]
          by_cases c1 : d3 = 1
          · rw [if_pos c1, if_pos c1, fi_any wf.1 hm htop' hl (rg_64 wf.1 h3) hN1 hN hr, Option.bind_some]
          · rw [if_neg c1, if_neg c1, fi_many wf.1 hm htop' hl (rg_64 wf.1 h3) hN1 hN hr, Option.bind_some, nI_l (by omega)]
      · exact ⟨σ, by rw [if_neg h4, if_neg h4], Scr.rf⟩
    · exact ⟨σ, by simp [h3, ite_bf], Scr.rf⟩
  · unfold f_Mo_all B_Mo_all_0
    simp only [mo_isOne, h1, h2, mo_isSet h.net wf.1 hu, Option.bind_some, ite_bt, mo_rng (m := 2) (k := 2) (by decide +kernel), show ptB d3 (2 + 1) = true from hd, mo_isMuch hu]
    by_cases h3 : u < 2 ^ n_n (s_N A)
    · simp only [decide_eq_true h3, ite_bt, if_pos h3]
      by_cases h4 : pc u ≤ 16
      · obtain ⟨σ', B, e, b1, b2, r4⟩ := mo_greatestOf wf.1 hs hm h3 h4 h.net
        obtain ⟨gb, gt⟩ := gt_bst (s := s) (m := m) wf.1 h3
        have hM1 := h.net.kH r4
        have htop := mwI_le wf.1 m (fun i => (rgL (s_N A) s u).getD i 0) (rgL (s_N A) s u).length
        have htop' : topN (s_N A) s m u < 2 ^ 31 := by
          show mwI (s_N A) m (fun i => (rgL (s_N A) s u).getD i 0) (rgL (s_N A) s u).length < 2 ^ 31
          omega
        have hl := inj_len wf.1 h3 h4 b2.1 b2.2.1
        refine ⟨σ', ?_, r4.kHM⟩
        rw [decide_eq_false (by omega), ite_bf, if_pos h4, e, Option.bind_some]
        simp only []
        rw [mo_measureOf hM1 wf.1 hm (mx_lt h3 gb.1), Option.bind_some, gt]
        refine Eq.trans (mo_all_loop (s := s) (v5 := d3) wf.1 hm h3 h4 htop' b2 hM1 b1 B.1 LF 0 (by omega) (by rw [LF_big]; omega)) ?_
        have mem : ∀ R, Mx (s_N A) s u R → (∃ j, j < (rgL (s_N A) s u).length ∧ (rgL (s_N A) s u).getD j 0 = R) := fun R hR => mem_getD ((rgL_mem wf.1 h3 R).2 hR)
        obtain ⟨R0, hR0, hR0t⟩ := (top_ok (s := s) (m := m) wf.1 h3).1
        have e1 : eaI (s_N A) m (topN (s_N A) s m u) (2 ^ 64 - 1) B.2 B.1 = eaI (s_N A) m (topN (s_N A) s m u) u (fun i => (rgL (s_N A) s u).getD i 0) (rgL (s_N A) s u).length := bx (fun i => by
          rw [Bool.eq_iff_iff, eaI_bit, eaI_bit]
          constructor
          · rintro ⟨z1, z2⟩
            have key : ∀ R, Mx (s_N A) s u R → mea (s_N A) m R = topN (s_N A) s m u → R.testBit i = true := fun R hR hz => by
              obtain ⟨j, hj, rfl⟩ := b2.2.2 R hR
              exact z2 j hj hz
            exact ⟨hR0.1 i (key R0 hR0 hR0t), fun j hj hz => key _ (rg_mx wf.1 h3 hj) hz⟩
          · rintro ⟨z1, z2⟩
            refine ⟨by rw [all_bit]; exact decide_eq_true (bit_in hu z1), fun j hj hz => ?_⟩
            obtain ⟨x, hx, ex⟩ := mem _ (b2.2.1 j hj)
            rw [← ex] at hz ⊢
            exact z2 x hx hz)
        have e2 : anI (s_N A) m (topN (s_N A) s m u) B.2 B.1 = anI (s_N A) m (topN (s_N A) s m u) (fun i => (rgL (s_N A) s u).getD i 0) (rgL (s_N A) s u).length := bx (fun i => by
          rw [Bool.eq_iff_iff, anI_bit, anI_bit]
          constructor
          · rintro ⟨j, z1, z2, z3⟩
            obtain ⟨x, hx, ex⟩ := mem _ (b2.2.1 j z1)
            exact ⟨x, hx, by rw [ex]; exact z2, by rw [ex]; exact z3⟩
          · rintro ⟨j, z1, z2, z3⟩
            obtain ⟨x, hx, ex⟩ := b2.2.2 _ (rg_mx wf.1 h3 z1)
            exact ⟨x, hx, by rw [ex]; exact z2, by rw [ex]; exact z3⟩)
        have e3 := ls_ct wf.1 h3 b2 (fun R => decide (mea (s_N A) m R = topN (s_N A) s m u))
        rw [e1, e2, e3]
        by_cases c0 : d3 = 0
        · rw [if_pos c0, if_pos c0]
        · rw [if_neg c0, if_neg c0]
          by_cases c1 : d3 = 1
          · rw [if_pos c1, if_pos c1]
          · rw [if_neg c1, if_neg c1]
      · exact ⟨σ, by rw [decide_eq_true (by omega), ite_bt, if_neg h4], Scr.rf⟩
    · exact ⟨σ, by simp [h3, ite_bf], Scr.rf⟩
