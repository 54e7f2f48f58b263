/-! the class gathers rings -/
theorem fr_lastOf {w t : Nat} (hw : w < 2 ^ t) (ht : t ≤ 40) {σ : Sto} (h0 : w ≠ 0) : f_FR_lastOf (lN w) (nI t - 1) σ = some (nI (hP w), σ) := by
  have hw64 : w < 2 ^ 64 := Nat.lt_of_lt_of_le hw (two_pow_le (by omega))
  obtain ⟨b1, b2⟩ := hP_ok hw64 h0
  have hb := bit_in hw b1
  have lp : ∀ (k fu i : Nat), hP w + k = i → i < t → k < fu → L_FR_lastOf_2 fu (lN w) (nI i) σ = some (nI (hP w), σ) := by
    intro k
    induction k with
    | zero =>
      intro fu i hi hit hf
      obtain ⟨fu, rfl⟩ : ∃ z, fu = z + 1 := ⟨fu - 1, by omega⟩
      show B_FR_lastOf_2 (L_FR_lastOf_2 fu) _ _ _ = _
      unfold B_FR_lastOf_2
      rw [if_neg (nI_pos (by omega)), nt_isOf hw64 (by omega), Option.bind_some, ← show hP w = i by omega, b1, ite_bt]
    | succ k ih =>
      intro fu i hi hit hf
      obtain ⟨fu, rfl⟩ : ∃ z, fu = z + 1 := ⟨fu - 1, by omega⟩
      show B_FR_lastOf_2 (L_FR_lastOf_2 fu) _ _ _ = _
      unfold B_FR_lastOf_2
      rw [if_neg (nI_pos (by omega)), nt_isOf hw64 (by omega), Option.bind_some, tb_out b2 (by omega), ite_bf, nI_m1]
      obtain ⟨j, rfl⟩ : ∃ j, i = j + 1 := ⟨i - 1, by omega⟩
      rw [show nI (j + 1) - (1 : Int32) = nI j from nI_pred j]
      exact ih fu j (by omega) (by omega) (by omega)
  obtain ⟨t', rfl⟩ : ∃ j, t = j + 1 := ⟨t - 1, by omega⟩
  unfold f_FR_lastOf B_FR_lastOf_0
  rw [show nI (t' + 1) - (1 : Int32) = nI t' from nI_pred t']
  exact lp (t' - hP w) LF t' (by omega) (by omega) (by rw [LF_big]; omega)
theorem fi_hopeless {N : Nt} (wf : WfN N) {s op sh : Nat} (hs : s < 2) (hop : op < 2 ^ n_n N) (hsh : sh < 2 ^ n_n N) {σ : Sto} (h : NetAt σ 1 N) (hN : gN σ = 1) (hsd : gI σ 26 3 = nI s) : f_Finder_isHopeless (lN op) (lN sh) σ = some (hpB N s op sh, σ) := by
  have hn := wf.1
  have lp : ∀ (k fu p : Nat), p + k = n_n N → k < fu → allB (fun p => !(sh.testBit p && decide (fit N s p op = op))) p = true → L_Finder_isHopeless_3 fu (lN op) (lN sh) (nI p) σ = some (hpB N s op sh, σ) := by
    intro k
    induction k with
    | zero =>
      intro fu p hp hf ha
      obtain ⟨fu, rfl⟩ : ∃ z, fu = z + 1 := ⟨fu - 1, by omega⟩
      show B_Finder_isHopeless_3 (L_Finder_isHopeless_3 fu) _ _ _ _ = _
      unfold B_Finder_isHopeless_3
      rw [hN, if_pos (show cls 1 = 4 by decide +kernel), h.1, if_pos (nI_le (by omega) (by omega))]
      unfold hpB
      rw [show n_n N = p by omega, ha]; rfl
    | succ k ih =>
      intro fu p hp hf ha
      obtain ⟨fu, rfl⟩ : ∃ z, fu = z + 1 := ⟨fu - 1, by omega⟩
      have hpn : p < n_n N := by omega
      have e := ih fu (p + 1) (by omega) (by omega)
      rw [allB, ha, Bool.true_and] at e
      show B_Finder_isHopeless_3 (L_Finder_isHopeless_3 fu) _ _ _ _ = _
      unfold B_Finder_isHopeless_3
      rw [hN, if_pos (show cls 1 = 4 by decide +kernel), h.1, if_neg (nI_ge (by omega) (by omega)), nt_isOf (lt64 wf hsh) (by omega), Option.bind_some]
      simp only [b2i_eq0, hN, if_pos (show cls 1 = 4 by decide +kernel), hsd, nt_fitting h wf hs hpn (lt64 wf hop), Option.bind_some, lN_inj64 (fit_lt (N := N) (s := s) (p := p) (lt64 wf hop)) (lt64 wf hop), nI_1]
      cases hb : sh.testBit p with
      | false =>
        rw [if_pos rfl]
        exact e (by rw [hb]; rfl)
      | true =>
        rw [if_neg (by decide)]
        by_cases hc : fit N s p op = op
        · rw [if_pos hc]
          unfold hpB
          rw [allB_no hpn (by rw [hb, decide_eq_true hc]; rfl)]; rfl
        · rw [if_neg hc]
          exact e (by rw [hb, decide_eq_false hc]; rfl)
  exact lp (n_n N) LF 0 (by omega) (by rw [LF_big]; omega) rfl
def kG (c j : Nat) : Bool := !(decide (c = 26) && decide (j = 1) || decide (c = 27))
theorem kG_t {c j : Nat} (h : ¬ (c = 26 ∧ j = 1) ∧ c ≠ 27) : kG c j = true := by
  unfold kG
  simp only [Bool.not_eq_true', Bool.or_eq_false_iff, Bool.and_eq_false_iff, decide_eq_false_iff_not]
  omega
theorem kG_f {c j : Nat} (h : (c = 26 ∧ j = 1) ∨ c = 27) : kG c j = false := by
  unfold kG
  simp only [Bool.not_eq_false', Bool.or_eq_true, Bool.and_eq_true, decide_eq_true_eq]
  exact h
theorem NetAt.kG {σ σ' : Sto} {N : Nt} (h : NetAt σ 1 N) (hs : Scr kG σ σ') : NetAt σ' 1 N :=
  h.scr (fun c j _ b => (hs c j (kG_t (by omega))).1) (fun j => (hs 4 j (kG_t (by omega))).2)
theorem fi_grow {N : Nt} (wf : WfN N) {s : Nat} (hs : s < 2) : ∀ (f op sh ring t cnt : Nat) (σ : Sto), pc op < f → op < 2 ^ t → t ≤ n_n N → sh < 2 ^ n_n N → ring < 2 ^ n_n N → NetAt σ 1 N → gN σ = 1 → gI σ 26 3 = nI s → gI σ 26 1 = nI cnt → cnt + (gwL N s f op sh).length ≤ 324 →
    ∃ σ', f_Finder_grow f (lN ring) (lN op) (lN sh) (nI t - 1) σ = some ((), σ') ∧ gI σ' 26 1 = nI (cnt + (gwL N s f op sh).length) ∧ (∀ i, i < cnt → gL σ' 27 i = gL σ 27 i) ∧ (∀ i, i < (gwL N s f op sh).length → gL σ' 27 (cnt + i) = lN (ring ||| (gwL N s f op sh).getD i 0)) ∧ Scr kG σ σ' ∧ gN σ' = 1 := by
  intro f
  have hn := wf.1
  induction f with
  | zero => intro op sh ring t cnt σ h; omega
  | succ f ih =>
    intro op sh ring t cnt σ hf hop ht hsh hrg h hN hsd hc hlen
    have hopn : op < 2 ^ n_n N := Nat.lt_of_lt_of_le hop (two_pow_le ht)
    have hop64 := lt64 wf hopn
    have hsh64 := lt64 wf hsh
    rw [gwL_s] at hlen ⊢
    by_cases h0 : op = 0
    · rw [if_pos h0] at hlen ⊢
      by_cases h1 : sh = 0
      · rw [if_pos h1] at hlen ⊢
        have hlen' : cnt + 1 ≤ 324 := hlen
        refine ⟨sI (sL σ 27 cnt (lN ring)) 26 1 (nI (cnt + 1)), ?_, by rw [g_sI_eq]; rfl, fun i hi => by rw [gL_sI, g_sL_ne (by omega)], fun i hi => ?_, (Scr.sL (kG_f (by omega))).tr (Scr.sI (kG_f (by omega))), hN⟩
        · show B_Finder_grow_0 (f_Finder_grow f) _ _ _ _ _ = _
          unfold B_Finder_grow_0
          rw [if_pos ((lN_eq0 hop64).2 h0), if_pos ((lN_eq0 hsh64).2 h1), hc, show (324 : Int32) = nI 324 from rfl, if_neg (nI_ge (by omega) (by omega))]
          simp only [inb_ok (show cnt < 324 by omega) (show 324 < 2 ^ 31 by decide), if_true, nI_clamp (show cnt < 2 ^ 31 by omega), lt1_eq, gI_sL, hc, nI_1]
        · have hi' : i < 1 := hi
          have : i = 0 := by omega
          subst this
          rw [gL_sI, Nat.add_zero, g_sL_eq]
          show lN ring = lN (ring ||| 0)
          rw [Nat.or_zero]
      · rw [if_neg h1]
        refine ⟨σ, ?_, hc, fun _ _ => rfl, fun i hi => absurd hi (Nat.not_lt_zero i), Scr.rf, hN⟩
        show B_Finder_grow_0 (f_Finder_grow f) _ _ _ _ _ = _
        unfold B_Finder_grow_0
        rw [if_pos ((lN_eq0 hop64).2 h0), if_neg (fun z => h1 ((lN_eq0 hsh64).1 z))]
    · rw [if_neg h0] at hlen ⊢
      have elast := fr_lastOf hop (show t ≤ 40 by omega) (σ := σ) h0
      obtain ⟨b1, b2⟩ := hP_ok hop64 h0
      have hbt := bit_in hop b1
      have ehop := fi_hopeless wf hs hopn hsh h hN hsd
      have e0 : f_Finder_grow (f + 1) (lN ring) (lN op) (lN sh) (nI t - 1) σ = (if hpB N s op sh = true then some ((), σ) else ((f_Finder_grow f (lN ring) (lN (nd op (2 ^ hP op))) (lN (sh ||| 2 ^ hP op)) (nI (hP op) - 1) σ).bind fun q4 => (if cls (gN q4.2) = 4 then ((f_Net_fitting (gN q4.2) (gI q4.2 26 3) (nI (hP op)) (lN (nd op (2 ^ hP op))) q4.2).bind fun q6 => (if cls (gN q6.2) = 4 then ((f_Net_fitting (gN q6.2) (gI q6.2 26 3) (nI (hP op)) (lN sh) q6.2).bind fun q8 => ((f_Finder_grow f (lN (ring ||| 2 ^ hP op)) q6.1 q8.1 (nI (hP op) - 1) q8.2).bind fun q9 => some ((), q9.2))) else none)) else none))) := by
        show B_Finder_grow_0 (f_Finder_grow f) _ _ _ _ _ = _
        unfold B_Finder_grow_0
        rw [if_neg (fun z => h0 ((lN_eq0 hop64).1 z)), elast, Option.bind_some]
        simp only []
        rw [if_neg (nI_pos (by omega)), ehop, Option.bind_some, lt1_eq, lsh_1 (by omega), lN_nd hop64, fb_orL, fb_orL]
        cases hpB N s op sh
        · rw [ite_bf]; rfl
        · rw [ite_bt]; rfl
      by_cases h2 : hpB N s op sh = true
      · rw [if_pos h2] at hlen ⊢
        refine ⟨σ, by rw [e0, if_pos h2], hc, fun _ _ => rfl, fun i hi => absurd hi (Nat.not_lt_zero i), Scr.rf, hN⟩
      · rw [if_neg h2] at hlen ⊢
        rw [List.length_append, List.length_map] at hlen
        have hrest := nd_hP hop64 h0
        generalize hP op = b at *
        have hbn : b < n_n N := by omega
        have hp1 := pc_nd (w := op) (b := b) (by omega) b1
        have hp2 : pc (fit N s b (nd op (2 ^ b))) ≤ pc (nd op (2 ^ b)) := pc_mono (fun i hi => fit_sub i hi)
        obtain ⟨σ1, e1, a1, a2, a3, a4, a5⟩ := ih (nd op (2 ^ b)) (sh ||| 2 ^ b) ring b cnt σ (by omega) hrest (by omega) (or_lt hsh (pow_lt hbn)) hrg h hN hsd hc (by omega)
        have hN1 := h.kG a4
        have hsd1 : gI σ1 26 3 = nI s := by rw [(a4 26 3 (kG_t (by omega))).1]; exact hsd
        obtain ⟨σ2, e2, c1, c2, c3, c4, c5⟩ := ih (fit N s b (nd op (2 ^ b))) (fit N s b sh) (ring ||| 2 ^ b) b (cnt + (gwL N s f (nd op (2 ^ b)) (sh ||| 2 ^ b)).length) σ1 (by omega) (fit_lt hrest) (by omega) (fit_lt hsh) (or_lt hrg (pow_lt hbn)) hN1 a5 hsd1 a1 (by omega)
        refine ⟨σ2, ?_, ?_, fun i hi => by rw [c2 i (by omega), a2 i hi], fun i hi => ?_, a4.tr c4, c5⟩
        · rw [e0, if_neg h2, e1, Option.bind_some]
          simp only [a5, if_pos (show cls 1 = 4 by decide +kernel), hsd1]
          rw [nt_fitting hN1 wf hs hbn (nd_lt hop64), Option.bind_some]
          simp only [a5, if_pos (show cls 1 = 4 by decide +kernel), hsd1]
          rw [nt_fitting hN1 wf hs hbn hsh64, Option.bind_some]
          simp only []
          rw [e2, Option.bind_some]
        · rw [c1, List.length_append, List.length_map, Nat.add_assoc]
        · rw [List.length_append, List.length_map] at hi
          rw [List.getD_eq_getElem?_getD]
          rcases Nat.lt_or_ge i (gwL N s f (nd op (2 ^ b)) (sh ||| 2 ^ b)).length with y | y
          · rw [c2 (cnt + i) (by omega), a3 i y, List.getElem?_append_left y, List.getD_eq_getElem?_getD]
          · rw [List.getElem?_append_right y, List.getElem?_map]
            obtain ⟨j, rfl⟩ : ∃ j, i = (gwL N s f (nd op (2 ^ b)) (sh ||| 2 ^ b)).length + j := ⟨i - (gwL N s f (nd op (2 ^ b)) (sh ||| 2 ^ b)).length, by omega⟩
            have := c3 j (by omega)
            rw [Nat.add_assoc] at this
            rw [this, Nat.add_sub_cancel_left, List.getD_eq_getElem?_getD, List.getElem?_eq_getElem (show j < (gwL N s f (fit N s b (nd op (2 ^ b))) (fit N s b sh)).length by omega)]
            show lN (ring ||| 2 ^ b ||| _) = lN (ring ||| (_ ||| 2 ^ b))
            rw [Nat.or_assoc, Nat.or_comm (2 ^ b)]
            rfl
/-- the rings that can't grow, in the order of numbers -/
def rgL (N : Nt) (s w : Nat) : List Nat := gwL N s 64 w 0
theorem rgL_mem {N : Nt} (wf : WfN N) {s w : Nat} (hw : w < 2 ^ n_n N) (T : Nat) : T ∈ rgL N s w ↔ Mx N s w T := gwL_mem wf 64 w 0 (by have := pcw40 wf hw; omega) hw (Nat.two_pow_pos _) (fun i hi => by rw [Nat.zero_testBit] at hi; cases hi) T
theorem rgL_sorted {N : Nt} (wf : WfN N) {s w : Nat} (hw : w < 2 ^ n_n N) : (rgL N s w).Pairwise (fun a b => a < b) := gwL_sorted 64 w 0 (lt64 wf hw)
theorem rgL_nodup {N : Nt} (wf : WfN N) {s w : Nat} (hw : w < 2 ^ n_n N) : (rgL N s w).Nodup := List.Pairwise.imp (fun h z => by omega) (rgL_sorted wf hw)
theorem rgL_len {N : Nt} (wf : WfN N) {s w : Nat} (hw : w < 2 ^ n_n N) (h16 : pc w ≤ 16) : (rgL N s w).length ≤ 324 := Nat.le_trans (moon wf (pc w) w _ (Nat.le_refl _) (by omega) hw (rgL_nodup wf hw) (fun R hR => (rgL_mem wf hw R).1 hR)) (gM_le _ (by omega))
def RgC (σ : Sto) (l : List Nat) : Prop := gI σ 26 1 = nI l.length ∧ ∀ i, i < l.length → gL σ 27 i = lN (l.getD i 0)
def kF (c _j : Nat) : Bool := !(decide (26 ≤ c) && decide (c ≤ 30))
theorem kF_t {c j : Nat} (h : c < 26 ∨ 30 < c) : kF c j = true := by
  unfold kF
  simp only [Bool.not_eq_true', Bool.and_eq_false_iff, decide_eq_false_iff_not]
  omega
theorem kF_f {c j : Nat} (h : 26 ≤ c ∧ c ≤ 30) : kF c j = false := by
  unfold kF
  simp [h.1, h.2]
theorem Scr.kGF {σ σ' : Sto} (hs : Scr kG σ σ') : Scr kF σ σ' := fun c j h => hs c j (by
  apply kG_t
  revert h
  unfold kF
  simp only [Bool.not_eq_true', Bool.and_eq_false_iff, decide_eq_false_iff_not]
  omega)
theorem Scr.kFC {σ σ' : Sto} (hs : Scr kF σ σ') : Scr kC σ σ' := fun c j h => hs c j (by
  apply kF_t
  revert h
  unfold kC
  simp only [Bool.or_eq_true, Bool.and_eq_true, decide_eq_true_eq]
  omega)
theorem NetAt.kF {σ σ' : Sto} {o : Nat} {N : Nt} (h : NetAt σ o N) (ho : o + 5 ≤ 26) (hs : Scr kF σ σ') : NetAt σ' o N :=
  h.scr (fun c j _ b => (hs c j (kF_t (by omega))).1) (fun j => (hs (o + 3) j (kF_t (by omega))).2)
theorem fi_gather {N : Nt} (wf : WfN N) {s w : Nat} (hs : s < 2) (hw : w < 2 ^ n_n N) (h16 : pc w ≤ 16) {σ : Sto} (h : NetAt σ 1 N) : ∃ σ', f_Finder_gather 1 (nI s) (lN w) σ = some ((), σ') ∧ RgC σ' (rgL N s w) ∧ gN σ' = 1 ∧ Scr kF σ σ' := by
  have hs0 : Scr kF σ (sI (sI (sN σ 1) 26 3 (nI s)) 26 1 0) := (Scr.sN.tr (Scr.sI (kF_f (by omega)))).tr (Scr.sI (kF_f (by omega)))
  have hN0 := h.kF (by omega) hs0
  have hlen := rgL_len (s := s) wf hw h16
  obtain ⟨σ', e, a1, a2, a3, a4, a5⟩ := fi_grow wf hs 64 w 0 0 (n_n N) 0 (sI (sI (sN σ 1) 26 3 (nI s)) 26 1 0) (by omega) hw (Nat.le_refl _) (Nat.two_pow_pos _) (Nat.two_pow_pos _) hN0 rfl (by rw [g_sI_ne (by omega), g_sI_eq]) (g_sI_eq _ _ _ _) (by rw [Nat.zero_add]; exact hlen)
  refine ⟨σ', ?_, ⟨by rw [a1, Nat.zero_add]; rfl, fun i hi => ?_⟩, a5, hs0.tr a4.kGF⟩
  · unfold f_Finder_gather B_Finder_gather_0
    rw [show gN (sI (sI (sN σ 1) 26 3 (nI s)) 26 1 0) = 1 from rfl, if_pos (show cls 1 = 4 by decide +kernel), hN0.1]
    rw [show f_Finder_grow 64 (0 : Int64) (lN w) (0 : Int64) (nI (n_n N) - 1) (sI (sI (sN σ 1) 26 3 (nI s)) 26 1 0) = _ from e, Option.bind_some]
  · have := a3 i hi
    rw [Nat.zero_add, Nat.zero_or] at this
    exact this
