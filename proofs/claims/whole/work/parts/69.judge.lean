/-! the bound by a rule; calls: left, bound, handBound, core -/
def bndN (N : Nt) (r s m w : Nat) : Nat := if r = 1 then clN N s m w else if r = 2 then coN N s m w else if r = 3 then max (mea N m (tkN N s w)) (clN N s m (lfN N s m w)) else if r = 4 then min (coN N s m w) (clN N s m w) else mea N m w
theorem mea_0 (N : Nt) (m : Nat) : mea N m 0 = 0 := by
  unfold mea
  split
  · exact pc_zero
  · have := fb_sm_bound (f := fun p => if (0 : Nat).testBit p then wt N p else 0) (c := 0) (n := n_n N) (fun k _ => by
      show (if (0 : Nat).testBit k then wt N k else 0) ≤ 0
      rw [Nat.zero_testBit]; simp)
    omega
theorem clN_0 (N : Nt) (s m : Nat) : clN N s m 0 = 0 := by
  unfold clN grN
  rw [ordL_0]; rfl
theorem coN_0 (N : Nt) (s m : Nat) : coN N s m 0 = 0 := by
  unfold coN
  rw [ordL_0]; rfl
theorem tkN_0 (N : Nt) (s : Nat) : tkN N s 0 = 0 := by
  unfold tkN
  rw [ordL_0]; rfl
theorem lfN_0 (N : Nt) (s m : Nat) : lfN N s m 0 = 0 := by
  unfold lfN
  show wbN N s m _ (39 + 1) 0 = 0
  rw [wbN_s, brN_0, if_pos rfl]
theorem bndN_0 (N : Nt) (r s m : Nat) : bndN N r s m 0 = 0 := by
  unfold bndN
  rw [clN_0, coN_0, tkN_0, lfN_0, clN_0, mea_0]
  repeat' split
  all_goals rfl
theorem bndN_le {N : Nt} (wf : WfN N) (r s m w : Nat) : bndN N r s m w ≤ 12000 := by
  have h1 := clN_le wf s m w
  have h2 := clN_le wf s m (lfN N s m w)
  have h3 := mea_le wf m (tkN N s w)
  have h4 := mea_le wf m w
  have h5 : coN N s m w ≤ 12000 := coL_le wf s m _
  unfold bndN
  repeat' split
  all_goals omega
theorem mnI_N {a b : Nat} (ha : a < 2 ^ 31) (hb : b < 2 ^ 31) : mnI (nI a) (nI b) = nI (min a b) := by
  unfold mnI
  by_cases h : b < a
  · rw [if_pos (nI_lt h ha), Nat.min_eq_right (by omega)]
  · rw [if_neg (nI_nlt (by omega) hb), Nat.min_eq_left (by omega)]
theorem neg_N {a : Nat} (ha : a < 2 ^ 31) : (-nI a).toInt = -(a : Int) := by
  rw [fb_negI (by rw [nI_toInt ha]; omega), nI_toInt ha]
theorem neg_neg_N (a : Nat) : -(-nI a) = nI a := by
  apply Int32.toBitVec_inj.mp
  simp
theorem mo_most_neg {a b : Nat} (ha : a < 2 ^ 31) (hb : b < 2 ^ 31) (σ : Sto) : ∃ x, f_Mo_most (-nI a) (-nI b) σ = some (x, σ) ∧ -x = nI (min a b) := by
  unfold f_Mo_most B_Mo_most_0
  have e : (-nI a ≤ -nI b) ↔ b ≤ a := by
    rw [Int32.le_iff_toInt_le, neg_N ha, neg_N hb]; omega
  by_cases h : b ≤ a
  · rw [if_pos (e.2 h)]
    exact ⟨_, rfl, by rw [neg_neg_N, Nat.min_eq_right h]⟩
  · rw [if_neg (fun z => h (e.1 z))]
    exact ⟨_, rfl, by rw [neg_neg_N, Nat.min_eq_left (by omega)]⟩
theorem ju_most {σ : Sto} {N : Nt} (h : NetAt σ 1 N) (wf : WfN N) {r s m w : Nat} (hr : r < 5) (hs : s < 2) (hm : m < 2) (hw : w < 2 ^ n_n N) : ∃ σ', f_Judge_most (nI r) (nI s) (nI m) (lN w) σ = some (nI (bndN N r s m w), σ') ∧ Scr kR σ σ' := by
  have hw64 := lt64 wf hw
  unfold f_Judge_most B_Judge_most_0
  by_cases w0 : w = 0
  · subst w0
    refine ⟨σ, ?_, Scr.rf⟩
    rw [if_pos (show lN 0 = (0 : Int64) from rfl), bndN_0]; rfl
  rw [if_neg (fun q => w0 ((lN_eq0 hw64).1 q))]
  rcases (show r = 0 ∨ r = 1 ∨ r = 2 ∨ r = 3 ∨ r = 4 by omega) with rfl | rfl | rfl | rfl | rfl
  · refine ⟨σ, ?_, Scr.rf⟩
    rw [if_pos (show nI 0 = (0 : Int32) from rfl), nt_worth h wf hm hw64, Option.bind_some]; rfl
  · obtain ⟨σ', e, r4⟩ := ju_colours h wf hs hm hw
    refine ⟨σ', ?_, r4⟩
    rw [if_neg (show ¬ (nI 1 = (0 : Int32)) by decide +kernel), if_pos (show nI 1 = (1 : Int32) from rfl), e, Option.bind_some]; rfl
  · obtain ⟨σ', e, r4⟩ := ju_core h wf hs hm hw
    refine ⟨σ', ?_, r4⟩
    rw [if_neg (show ¬ (nI 2 = (0 : Int32)) by decide +kernel), if_neg (show ¬ (nI 2 = (1 : Int32)) by decide +kernel), if_pos (show nI 2 = (2 : Int32) from rfl), e, Option.bind_some]; rfl
  · obtain ⟨σ1, e1, hr1, r1⟩ := rk_rank h wf hs hw
    have h1 := h.kR (by omega) r1
    obtain ⟨σ', e, r4⟩ := ju_colours h1 wf (s := s) (m := m) hs hm (lfN_lt (s := s) (m := m) hw)
    have hme := mea_le wf m (tkN N s w)
    have hcl := clN_le wf s m (lfN N s m w)
    refine ⟨σ', ?_, r1.tr r4⟩
    rw [if_neg (show ¬ (nI 3 = (0 : Int32)) by decide +kernel), if_neg (show ¬ (nI 3 = (1 : Int32)) by decide +kernel), if_neg (show ¬ (nI 3 = (2 : Int32)) by decide +kernel), if_pos (show nI 3 = (3 : Int32) from rfl)]
    unfold f_Judge_ranked B_Judge_ranked_0
    rw [e1, Option.bind_some, Option.bind_some]
    simp only []
    rw [rk_tk wf hs hw h1 hr1, Option.bind_some]
    simp only []
    rw [show tkL N s (ordL N s 40 w) = tkN N s w from rfl, nt_worth h1 wf hm (lt64 wf (tkN_lt hw)), Option.bind_some]
    simp only []
    rw [ju_without h1 wf hs hm (by omega) hw, Option.bind_some]
    simp only []
    rw [show wbN N s m (mea N m (tkN N s w)) 40 w = lfN N s m w from rfl, e, Option.bind_some]
    simp only []
    rw [mxI_N (by omega) (by omega)]; rfl
  · obtain ⟨σ1, e1, r1⟩ := ju_core h wf hs hm hw
    obtain ⟨σ', e, r4⟩ := ju_colours (h.kR (by omega) r1) wf hs hm hw
    have hco : coN N s m w ≤ 12000 := coL_le wf s m _
    have hcl := clN_le wf s m w
    refine ⟨σ', ?_, r1.tr r4⟩
    rw [if_neg (show ¬ (nI 4 = (0 : Int32)) by decide +kernel), if_neg (show ¬ (nI 4 = (1 : Int32)) by decide +kernel), if_neg (show ¬ (nI 4 = (2 : Int32)) by decide +kernel), if_neg (show ¬ (nI 4 = (3 : Int32)) by decide +kernel), if_pos (show nI 4 = (4 : Int32) from rfl), e1, Option.bind_some]
    simp only []
    rw [e, Option.bind_some]
    simp only []
    rw [mnI_N (by omega) (by omega)]; rfl
theorem mo_boundOf {σ : Sto} {N : Nt} (h : ModAt σ N) (wf : WfN N) {r s m w : Nat} (hr : r < 5) (hs : s < 2) (hm : m < 2) (hw : w < 2 ^ n_n N) : ∃ σ', f_Mo_boundOf (nI r) (nI s) (nI m) (lN w) σ = some (nI (bndN N r s m w), σ') ∧ Scr kL σ σ' := by
  have hw64 := lt64 wf hw
  unfold f_Mo_boundOf B_Mo_boundOf_0
  rcases (show r = 0 ∨ r = 1 ∨ r = 2 ∨ r = 3 ∨ r = 4 by omega) with rfl | rfl | rfl | rfl | rfl
  · refine ⟨σ, ?_, Scr.rf⟩
    rw [if_neg (show ¬ (nI 0 = (1 : Int32)) by decide +kernel), if_neg (show ¬ (nI 0 = (2 : Int32)) by decide +kernel), if_neg (show ¬ (nI 0 = (3 : Int32)) by decide +kernel), if_neg (show ¬ (nI 0 = (4 : Int32)) by decide +kernel), mo_measureOf h wf hm hw, Option.bind_some]; rfl
  · obtain ⟨σ', e, r4⟩ := mo_coloursOf h wf hs hm hw
    refine ⟨σ', ?_, r4⟩
    rw [if_pos (show nI 1 = (1 : Int32) from rfl), e, Option.bind_some]; rfl
  · obtain ⟨σ', e, r4⟩ := mo_coreOf h wf hs hm hw
    refine ⟨σ', ?_, r4⟩
    rw [if_neg (show ¬ (nI 2 = (1 : Int32)) by decide +kernel), if_pos (show nI 2 = (2 : Int32) from rfl), e, Option.bind_some]; rfl
  · obtain ⟨σ1, e1, r1⟩ := mo_takenOf h wf hs hw
    obtain ⟨σ2, e2, r2⟩ := mo_leftOf (h.kL r1) wf hs hm hw
    obtain ⟨σ', e, r4⟩ := mo_coloursOf (h.kL (r1.tr r2)) wf (s := s) (m := m) hs hm (lfN_lt (s := s) (m := m) hw)
    have hme := mea_le wf m (tkN N s w)
    have hcl := clN_le wf s m (lfN N s m w)
    refine ⟨σ', ?_, (r1.tr r2).tr r4⟩
    rw [if_neg (show ¬ (nI 3 = (1 : Int32)) by decide +kernel), if_neg (show ¬ (nI 3 = (2 : Int32)) by decide +kernel), if_pos (show nI 3 = (3 : Int32) from rfl), e1, Option.bind_some]
    simp only []
    rw [mo_measureOf (h.kL r1) wf hm (tkN_lt hw), Option.bind_some]
    simp only []
    rw [e2, Option.bind_some]
    simp only []
    rw [e, Option.bind_some]
    simp only []
    rw [mo_most (by omega) (by omega), Option.bind_some]; rfl
  · obtain ⟨σ1, e1, r1⟩ := mo_coreOf h wf hs hm hw
    obtain ⟨σ', e, r4⟩ := mo_coloursOf (h.kL r1) wf hs hm hw
    have hco : coN N s m w ≤ 12000 := coL_le wf s m _
    have hcl := clN_le wf s m w
    obtain ⟨x, ex, ex2⟩ := mo_most_neg (a := coN N s m w) (b := clN N s m w) (by omega) (by omega) σ'
    refine ⟨σ', ?_, r1.tr r4⟩
    rw [if_neg (show ¬ (nI 4 = (1 : Int32)) by decide +kernel), if_neg (show ¬ (nI 4 = (2 : Int32)) by decide +kernel), if_neg (show ¬ (nI 4 = (3 : Int32)) by decide +kernel), if_pos (show nI 4 = (4 : Int32) from rfl), e1, Option.bind_some]
    simp only []
    rw [e, Option.bind_some]
    simp only []
    rw [ex, Option.bind_some, ex2]; rfl
theorem op_left (a0 : Int32) (b1 : Int32) (c2 : Int64) : Op (f_FR_left a0 b1 c2) (f_Mo_left a0 b1 c2) := by
  obtain ⟨u, hu, rfl⟩ := wb_of c2
  cases h1 : oneB a0
  · refine Op.ask (fun _ => -2) (fun σ A wf h => ⟨σ, ?_, Scr.rf⟩) (fun σ A wf h => ⟨σ, ?_, Scr.rf⟩)
    · unfold f_FR_left B_FR_left_0
      simp [fr_isAsked h.net wf.1 a0 b1 hu, h1, ite_bf]
    · unfold f_Mo_left B_Mo_left_0
      simp [mo_isOne, h1, ite_bf]
  cases h2 : oneB b1
  · refine Op.ask (fun _ => -2) (fun σ A wf h => ⟨σ, ?_, Scr.rf⟩) (fun σ A wf h => ⟨σ, ?_, Scr.rf⟩)
    · unfold f_FR_left B_FR_left_0
      simp [fr_isAsked h.net wf.1 a0 b1 hu, h1, h2, ite_bf]
    · unfold f_Mo_left B_Mo_left_0
      simp [mo_isOne, h1, h2, ite_bf, ite_bt]
  obtain ⟨s, hs, rfl⟩ := oneB_of h1
  obtain ⟨m, hm, rfl⟩ := oneB_of h2
  refine Op.ask (fun A => if u < 2 ^ n_n (s_N A) then lN (lfN (s_N A) s m u) else -2) (fun σ A wf h => ?_) (fun σ A wf h => ?_)
  · unfold f_FR_left B_FR_left_0
    simp only [fr_isAsked h.net wf.1 (nI s) (nI m) hu, h1, h2, Bool.true_and, Option.bind_some]
    by_cases h3 : u < 2 ^ n_n (s_N A)
    · obtain ⟨σ', e, hr, r4⟩ := rk_rank h.net wf.1 hs h3
      have hN1 := h.net.kR (by omega) r4
      have hme := mea_le wf.1 m (tkN (s_N A) s u)
      refine ⟨σ', ?_, r4.kRC⟩
      simp only [decide_eq_true h3, ite_bt, if_pos h3]
      unfold f_Judge_ranked B_Judge_ranked_0
      rw [e, Option.bind_some, Option.bind_some]
      simp only []
      rw [rk_tk wf.1 hs h3 hN1 hr, Option.bind_some]
      simp only []
      rw [show tkL (s_N A) s (ordL (s_N A) s 40 u) = tkN (s_N A) s u from rfl, nt_worth hN1 wf.1 hm (lt64 wf.1 (tkN_lt h3)), Option.bind_some]
      simp only []
      rw [ju_without hN1 wf.1 hs hm (by omega) h3, Option.bind_some]; rfl
    · exact ⟨σ, by simp [h3, ite_bf], Scr.rf⟩
  · unfold f_Mo_left B_Mo_left_0
    simp only [mo_isOne, h1, h2, mo_isSet h.net wf.1 hu, Option.bind_some, ite_bt]
    by_cases h3 : u < 2 ^ n_n (s_N A)
    · obtain ⟨σ', e, r4⟩ := mo_leftOf h.net wf.1 hs hm h3
      refine ⟨σ', ?_, r4.kLM⟩
      simp only [decide_eq_true h3, ite_bt, if_pos h3]
      rw [e, Option.bind_some]
    · exact ⟨σ, by simp [h3, ite_bf], Scr.rf⟩
theorem ptL_w (x : Int32) (m : Nat) : ptL (Int32.toInt64 x) m = ptB x m := by
  unfold ptL ptB
  simp
theorem mo_isRule (x : Int32) (σ : Sto) : f_Mo_isRule x σ = some (ptB x 5, σ) := by
  unfold f_Mo_isRule B_Mo_isRule_0
  rw [mo_rng (m := 4) (k := 4) (by decide +kernel), Option.bind_some]
theorem op_bound (a0 : Int32) (b1 : Int32) (c2 : Int32) (d3 : Int64) : Op (f_FR_bound a0 b1 c2 d3) (f_Mo_bound a0 b1 c2 d3) := by
  obtain ⟨u, hu, rfl⟩ := wb_of d3
  cases h0 : ptB a0 5
  · refine Op.ask (fun _ => -2) (fun σ A wf h => ⟨σ, ?_, Scr.rf⟩) (fun σ A wf h => ⟨σ, ?_, Scr.rf⟩)
    · unfold f_FR_bound B_FR_bound_0
      simp [fr_isRule, ptL_w, h0, ite_bf]
    · unfold f_Mo_bound B_Mo_bound_0
      simp [mo_isRule, h0, ite_bf]
  cases h1 : oneB b1
  · refine Op.ask (fun _ => -2) (fun σ A wf h => ⟨σ, ?_, Scr.rf⟩) (fun σ A wf h => ⟨σ, ?_, Scr.rf⟩)
    · unfold f_FR_bound B_FR_bound_0
      simp [fr_isRule, ptL_w, h0, fr_isAsked h.net wf.1 b1 c2 hu, h1, ite_bf, ite_bt]
    · unfold f_Mo_bound B_Mo_bound_0
      simp [mo_isRule, h0, mo_isOne, h1, ite_bf, ite_bt]
  cases h2 : oneB c2
  · refine Op.ask (fun _ => -2) (fun σ A wf h => ⟨σ, ?_, Scr.rf⟩) (fun σ A wf h => ⟨σ, ?_, Scr.rf⟩)
    · unfold f_FR_bound B_FR_bound_0
      simp [fr_isRule, ptL_w, h0, fr_isAsked h.net wf.1 b1 c2 hu, h1, h2, ite_bf, ite_bt]
    · unfold f_Mo_bound B_Mo_bound_0
      simp [mo_isRule, h0, mo_isOne, h1, h2, ite_bf, ite_bt]
  obtain ⟨r, hr, rfl⟩ := ptB_of h0
  obtain ⟨s, hs, rfl⟩ := oneB_of h1
  obtain ⟨m, hm, rfl⟩ := oneB_of h2
  refine Op.ask (fun A => if u < 2 ^ n_n (s_N A) then nI (bndN (s_N A) r s m u) else -2) (fun σ A wf h => ?_) (fun σ A wf h => ?_)
  · unfold f_FR_bound B_FR_bound_0
    simp only [fr_isRule, ptL_w, h0, fr_isAsked h.net wf.1 (nI s) (nI m) hu, h1, h2, Bool.true_and, Option.bind_some, ite_bt]
    by_cases h3 : u < 2 ^ n_n (s_N A)
    · obtain ⟨σ', e, r4⟩ := ju_most h.net wf.1 hr hs hm h3
      refine ⟨σ', ?_, r4.kRC⟩
      simp only [decide_eq_true h3, ite_bt, if_pos h3]
      rw [e, Option.bind_some]
    · exact ⟨σ, by simp [h3, ite_bf], Scr.rf⟩
  · unfold f_Mo_bound B_Mo_bound_0
    simp only [mo_isRule, h0, mo_isOne, h1, h2, mo_isSet h.net wf.1 hu, Option.bind_some, ite_bt]
    by_cases h3 : u < 2 ^ n_n (s_N A)
    · obtain ⟨σ', e, r4⟩ := mo_boundOf h.net wf.1 hr hs hm h3
      refine ⟨σ', ?_, r4.kLM⟩
      simp only [decide_eq_true h3, ite_bt, if_pos h3]
      rw [e, Option.bind_some]
    · exact ⟨σ, by simp [h3, ite_bf], Scr.rf⟩
theorem op_handBound (a0 : Int32) (b1 : Int32) (c2 : Int32) (d3 : Int64) : Op (f_FR_handBound a0 b1 c2 d3) (f_Mo_handBound a0 b1 c2 d3) := by
  obtain ⟨u, hu, rfl⟩ := wb_of d3
  cases h0 : ptB a0 4
  · refine Op.ask (fun _ => -2) (fun σ A wf h => ⟨σ, ?_, Scr.rf⟩) (fun σ A wf h => ⟨σ, ?_, Scr.rf⟩)
    · unfold f_FR_handBound B_FR_handBound_0
      simp [fr_isHand, h0, ite_bf]
    · unfold f_Mo_handBound B_Mo_handBound_0
      simp [mo_isHand, h0, ite_bf]
  cases h1 : oneB b1
  · refine Op.ask (fun _ => -2) (fun σ A wf h => ⟨σ, ?_, Scr.rf⟩) (fun σ A wf h => ⟨σ, ?_, Scr.rf⟩)
    · unfold f_FR_handBound B_FR_handBound_0
      simp [fr_isHand, h0, fr_isAsked h.net wf.1 b1 c2 hu, h1, ite_bf, ite_bt]
    · unfold f_Mo_handBound B_Mo_handBound_0
      simp [mo_isHand, h0, mo_isOne, h1, ite_bf, ite_bt]
  cases h2 : oneB c2
  · refine Op.ask (fun _ => -2) (fun σ A wf h => ⟨σ, ?_, Scr.rf⟩) (fun σ A wf h => ⟨σ, ?_, Scr.rf⟩)
    · unfold f_FR_handBound B_FR_handBound_0
      simp [fr_isHand, h0, fr_isAsked h.net wf.1 b1 c2 hu, h1, h2, ite_bf, ite_bt]
    · unfold f_Mo_handBound B_Mo_handBound_0
      simp [mo_isHand, h0, mo_isOne, h1, h2, ite_bf, ite_bt]
  obtain ⟨q, hq, rfl⟩ := ptB_of h0
  obtain ⟨s, hs, rfl⟩ := oneB_of h1
  obtain ⟨m, hm, rfl⟩ := oneB_of h2
  refine Op.ask (fun A => if u < 2 ^ n_n (s_N A) then (if (s_H A q).1 = 2 then nI (bndN (s_N A) (s_H A q).2.1.toInt.toNat s m u) else lackI (s_H A q).1 2) else -2) (fun σ A wf h => ?_) (fun σ A wf h => ?_)
  · unfold f_FR_handBound B_FR_handBound_0
    simp only [fr_isHand, h0, fr_isAsked h.net wf.1 (nI s) (nI m) hu, h1, h2, Bool.true_and, Option.bind_some, ite_bt]
    by_cases h3 : u < 2 ^ n_n (s_N A)
    · simp only [decide_eq_true h3, ite_bt, if_pos h3, inb_ok (show q < 4 by omega) (show 4 < 2 ^ 31 by decide), if_true, nI_clamp (show q < 2 ^ 31 by omega), show (2 : Int32) = nI 2 from rfl, fr_refusalAs h wf hq (show 2 < 4 by decide), Option.bind_some, lackI_0 (show 0 < 2 by decide)]
      by_cases h4 : (s_H A q).1 = 2
      · obtain ⟨r, hr, er⟩ := (wf.2.2.2.2.2 q hq).2.2 h4
        obtain ⟨σ', e, r4⟩ := ju_most h.net wf.1 hr hs hm h3
        refine ⟨σ', ?_, r4.kRC⟩
        rw [if_pos h4, if_pos h4, (h.2.2.2.2.2 q hq).2.2 (by omega), er, lN_i, e, Option.bind_some, lN_toInt (by omega)]; rfl
      · refine ⟨σ, ?_, Scr.rf⟩
        rw [if_neg h4, if_neg h4]
    · exact ⟨σ, by simp [h3, ite_bf], Scr.rf⟩
  · unfold f_Mo_handBound B_Mo_handBound_0
    simp only [mo_isHand, h0, mo_isOne, h1, h2, mo_isSet h.net wf.1 hu, Option.bind_some, ite_bt]
    by_cases h3 : u < 2 ^ n_n (s_N A)
    · simp only [decide_eq_true h3, ite_bt, if_pos h3, inb_ok (show q < 4 by omega) (show 4 < 2 ^ 31 by decide), if_true, nI_clamp (show q < 2 ^ 31 by omega), show (2 : Int32) = nI 2 from rfl, mo_lacks h wf hq (show 2 < 4 by decide), Option.bind_some, lackI_0 (show 0 < 2 by decide)]
      by_cases h4 : (s_H A q).1 = 2
      · obtain ⟨r, hr, er⟩ := (wf.2.2.2.2.2 q hq).2.2 h4
        obtain ⟨σ', e, r4⟩ := mo_boundOf h.net wf.1 hr hs hm h3
        refine ⟨σ', ?_, r4.kLM⟩
        rw [if_pos h4, if_pos h4, (h.2.2.2.2.2 q hq).2.2 (by omega), er, lN_i, e, Option.bind_some, lN_toInt (by omega)]; rfl
      · refine ⟨σ, ?_, Scr.rf⟩
        rw [if_neg h4, if_neg h4]
    · exact ⟨σ, by simp [h3, ite_bf], Scr.rf⟩
/-! core: one after the other, or all at once -/
def fulN (N : Nt) (s f K : Nat) : Prop := ∀ i, i < n_n N → K.testBit i = true → f ≤ pc (fit N s i K)
def subN (a b : Nat) : Prop := ∀ i, a.testBit i = true → b.testBit i = true
theorem fit_mono {N : Nt} {s p a b : Nat} (h : subN a b) : pc (fit N s p a) ≤ pc (fit N s p b) := pc_mono (fun i hi => by
  rw [fit_rl, Bool.and_eq_true] at hi ⊢
  exact ⟨h i hi.1, hi.2⟩)
theorem mea_bare {N : Nt} (wf : WfN N) {s p w f : Nat} (hp : p < n_n N) : mea N 0 (fit N s p w ||| 2 ^ p) ≤ f ↔ pc (fit N s p w) < f := by
  rw [mea_or wf hp (fit_self wf hp)]
  have e : mea N 0 (fit N s p w) = pc (fit N s p w) := rfl
  have e1 : mea1 N 0 p = 1 := rfl
  omega
theorem wb_ful {N : Nt} (wf : WfN N) {s f : Nat} : ∀ k w, pc w ≤ k → w < 2 ^ n_n N → fulN N s f (wbN N s 0 f k w)
  | 0, w, hk, hw => by
    have w0 := pc_z (lt64 wf hw) (show pc w = 0 by omega)
    subst w0
    intro i _ hi
    rw [show wbN N s 0 f 0 0 = 0 from rfl, Nat.zero_testBit] at hi
    cases hi
  | k + 1, w, hk, hw => by
    rw [wbN_s]
    by_cases hb : brN N s 0 f w (n_n N) = 0
    · rw [if_pos hb]
      intro i hi hwi
      have h1 := brN_bit N s 0 f w i (n_n N)
      rw [hb, Nat.zero_testBit, hwi, decide_eq_true hi, Bool.true_and, Bool.true_and] at h1
      have h2 := of_decide_eq_false h1.symm
      rw [mea_bare wf hi] at h2
      omega
    · rw [if_neg hb]
      have hlt := pc_nd_lt (lt64 wf hw) hb (fun i hi => brN_sub hi)
      exact wb_ful wf k _ (by omega) (nd_lt hw)
theorem wb_max {N : Nt} (wf : WfN N) {s f K : Nat} (hK : fulN N s f K) : ∀ k w, w < 2 ^ n_n N → subN K w → subN K (wbN N s 0 f k w)
  | 0, w, _, hs => hs
  | k + 1, w, hw, hs => by
    rw [wbN_s]
    by_cases hb : brN N s 0 f w (n_n N) = 0
    · rw [if_pos hb]; exact hs
    · rw [if_neg hb]
      refine wb_max wf hK k _ (nd_lt hw) (fun i hi => ?_)
      have hin := bit_in hw (hs i hi)
      rw [nd_bit, hs i hi, Bool.true_and, brN_bit, decide_eq_true hin, Bool.true_and, hs i hi, Bool.true_and, Bool.not_eq_true']
      apply decide_eq_false
      rw [mea_bare wf hin]
      have := hK i hin hi
      have := fit_mono (N := N) (s := s) (p := i) hs
      omega
theorem wb_sub {N : Nt} {s m f : Nat} : ∀ k w, subN (wbN N s m f k w) w
  | 0, _ => fun _ h => h
  | k + 1, w => by
    rw [wbN_s]
    split
    · exact fun _ h => h
    · intro i hi
      have := wb_sub k _ i hi
      rw [nd_bit, Bool.and_eq_true] at this
      exact this.1
theorem and_m1 {a : Nat} (h : a < 2 ^ 64) : lN a &&& (-1 : Int64) = lN a := by
  rw [lN_m1, fb_andL, Nat.and_two_pow_sub_one_eq_mod, Nat.mod_eq_of_lt h]
theorem mo_core_lp {N : Nt} (wf : WfN N) {s f w : Nat} (hs : s < 2) (hf : f < 40) (hw : w < 2 ^ n_n N) {σ : Sto} (h : ModAt σ N) : ∀ (fu p L : Nat), pc L * 41 + (n_n N - p) < fu → p ≤ n_n N → subN L w → (∀ K, fulN N s f K → subN K w → subN K L) → (∀ i, i < p → L.testBit i = true → f ≤ pc (fit N s i L)) →
    L_Mo_core_37 fu (nI s) (nI f) (lN L) (nI p) σ = some (lN (wbN N s 0 f 40 w), σ) := by
  intro fu
  have hn := wf.1
  induction fu with
  | zero => intro p L hm; omega
  | succ fu ih =>
    intro p L hm hp hL hK hd
    have hLw : L < 2 ^ n_n N := bit_lt (fun i hi => by
      cases hb : L.testBit i with
      | false => rfl
      | true => have := hL i hb; rw [tb_out hw hi] at this; cases this)
    have hL64 := lt64 wf hLw
    show B_Mo_core_37 (L_Mo_core_37 fu) _ _ _ _ _ = _
    unfold B_Mo_core_37
    rw [h.1]
    by_cases hpn : p < n_n N
    · rw [if_neg (nI_ge hpn (by omega)), has_eq hL64 (by omega), Option.bind_some]
      have hpc := pc_le (fit N s p L)
      have stay : (L.testBit p = true → f ≤ pc (fit N s p L)) → B_Mo_core_77 (L_Mo_core_37 fu) (nI s) (nI f) (lN L) (nI p) 0 σ = some (lN (wbN N s 0 f 40 w), σ) := fun hq => by
        unfold B_Mo_core_77
        rw [if_pos rfl, if_pos rfl, and_m1 hL64, nI_1]
        refine ih (p + 1) L (by omega) (by omega) hL hK (fun i hi hb => ?_)
        by_cases e : i = p
        · rw [e] at hb ⊢; exact hq hb
        · exact hd i (by omega) hb
      simp only [b2i_eq0]
      cases hb : L.testBit p with
      | false =>
        rw [if_pos rfl]
        exact stay (fun q => by rw [hb] at q; cases q)
      | true =>
        rw [if_neg (by decide), mo_fits h wf hs hpn hL64, Option.bind_some]
        simp only []
        rw [many_eq (fit_lt hL64), Option.bind_some]
        simp only [nI_leI (show f < 2 ^ 31 by omega) (show pc (fit N s p L) < 2 ^ 31 by omega)]
        by_cases hq : f ≤ pc (fit N s p L)
        · rw [if_pos hq]; exact stay (fun _ => hq)
        · rw [if_neg hq]
          unfold B_Mo_core_77
          rw [if_neg (show ¬ ((1 : Int32) = 0) by decide +kernel), bit_eq (by omega), Option.bind_some, lt1_eq, lN_nd hL64, if_neg (show ¬ ((1 : Int32) = 0) by decide +kernel), show (0 : Int32) = nI 0 from rfl]
          have hp1 := pc_nd (w := L) (b := p) (by omega) hb
          refine ih 0 (nd L (2 ^ p)) (by omega) (by omega) (fun i hi => ?_) (fun K k1 k2 i hi => ?_) (fun i hi => absurd hi (Nat.not_lt_zero i))
          · rw [nd1_bit, Bool.and_eq_true] at hi
            exact hL i hi.1
          · have hKL := hK K k1 k2
            rw [nd1_bit, hKL i hi, Bool.true_and]
            have hne : i ≠ p := by
              rintro rfl
              have := k1 i hpn hi
              have := fit_mono (N := N) (s := s) (p := i) hKL
              omega
            simp [hne]
    · rw [if_pos (nI_le (by omega) (by omega))]
      have hful : fulN N s f L := fun i hi hb => hd i (by omega) hb
      have e1 := wb_max wf hful 40 w hw hL
      have e2 := hK _ (wb_ful wf (s := s) (f := f) 40 w (pcw40 wf hw) hw) (wb_sub 40 w)
      have : L = wbN N s 0 f 40 w := bx (fun i => by
        cases h1 : L.testBit i with
        | true => rw [e1 i h1]
        | false =>
          cases h2 : (wbN N s 0 f 40 w).testBit i with
          | false => rfl
          | true => rw [e2 i h2] at h1; cases h1)
      rw [this]
theorem op_core (a0 : Int32) (b1 : Int32) (c2 : Int64) : Op (f_FR_core a0 b1 c2) (f_Mo_core a0 b1 c2) := by
  obtain ⟨u, hu, rfl⟩ := wb_of c2
  cases h1 : oneB a0
  · refine Op.ask (fun _ => -2) (fun σ A wf h => ⟨σ, ?_, Scr.rf⟩) (fun σ A wf h => ⟨σ, ?_, Scr.rf⟩)
    · unfold f_FR_core B_FR_core_0
      simp [fr_isSideAndSet h.net wf.1 a0 hu, h1, ite_bf]
    · unfold f_Mo_core B_Mo_core_0
      simp [mo_isOne, h1, ite_bf]
  obtain ⟨s, hs, rfl⟩ := oneB_of h1
  have e0 : b1 < 0 ↔ b1.toInt < 0 := by rw [Int32.lt_iff_toInt_lt, Int32.toInt_zero]
  have e4 : b1 < 40 ↔ b1.toInt < 40 := by rw [Int32.lt_iff_toInt_lt, show (40 : Int32).toInt = 40 by decide +kernel]
  refine Op.ask (fun A => if ptB b1 40 = true ∧ u < 2 ^ n_n (s_N A) then lN (wbN (s_N A) s 0 b1.toInt.toNat 40 u) else -2) (fun σ A wf h => ⟨σ, ?_, Scr.rf⟩) (fun σ A wf h => ⟨σ, ?_, Scr.rf⟩)
  · unfold f_FR_core B_FR_core_0
    simp only [fr_isSideAndSet h.net wf.1 (nI s) hu, h1, Bool.true_and, Option.bind_some]
    by_cases h3 : u < 2 ^ n_n (s_N A)
    · simp only [decide_eq_true h3, ite_bt]
      cases h2 : ptB b1 40
      · simp only [ptB, Bool.and_eq_false_iff, decide_eq_false_iff_not] at h2
        by_cases h4 : b1 < 0
        · rw [if_pos h4]; simp
        · rw [if_neg h4, if_neg (fun z => by rw [e0] at h4; rw [e4] at z; omega)]; simp
      · obtain ⟨f, hf, rfl⟩ := ptB_of h2
        rw [if_neg (nI_pos (by omega)), if_pos (show nI f < (40 : Int32) from nI_lt (b := 40) hf (by decide)), show (0 : Int32) = nI 0 from rfl, ju_without h.net wf.1 hs (by omega) (by omega) h3, Option.bind_some, if_pos ⟨rfl, h3⟩, nI_toInt (by omega)]; rfl
    · simp [h3, ite_bf]
  · unfold f_Mo_core B_Mo_core_0
    simp only [mo_isOne, h1, mo_rng (m := 39) (k := 39) (by decide +kernel), mo_isSet h.net wf.1 hu, Option.bind_some, ite_bt]
    cases h2 : ptB b1 (39 + 1)
    · rw [ite_bf]; simp
    · by_cases h3 : u < 2 ^ n_n (s_N A)
      · simp only [decide_eq_true h3, ite_bt]
        rw [if_pos ⟨trivial, h3⟩]
        obtain ⟨f, hf, rfl⟩ := ptB_of h2
        have hpc := pcw40 wf.1 h3
        have hn := wf.1.1
        rw [nI_toInt (by omega)]
        exact mo_core_lp wf.1 hs hf h3 h.net LF 0 u (by rw [LF_big]; omega) (by omega) (fun _ q => q) (fun _ _ q => q) (fun i hi => absurd hi (Nat.not_lt_zero i))
      · simp [h3, ite_bf, ite_bt]
