/-! prove: a machine with those that await in a list -/
abbrev Ot : Type := Nat × (Nat → Int32)
def apO (O : Ot) (v : Int32) : Ot := (O.1 + 1, fun i => if i = O.1 then v else O.2 i)
def lsP (N : Nt) (s w : Nat) : Nat := (ordL N s 40 w).getD ((ordL N s 40 w).length - 1) 0
theorem lsP_ok {N : Nt} {s w : Nat} (hw : w < 2 ^ n_n N) (h0 : w ≠ 0) : lsP N s w < n_n N ∧ w.testBit (lsP N s w) = true ∧ 0 < (ordL N s 40 w).length := by
  have hl : 0 < (ordL N s 40 w).length := by
    rw [ordL_s (k := 39) h0, List.length_cons]; omega
  have hm : lsP N s w ∈ ordL N s 40 w := by
    unfold lsP
    rw [List.getD_eq_getElem?_getD, List.getElem?_eq_getElem (by omega)]
    exact List.getElem_mem _
  have := ordL_mem 40 w hw _ hm
  exact ⟨this.1, this.2, hl⟩
def pvM (N : Nt) (r s m k : Nat) : Nat → List (Nat × Nat) → Ot → Int32 × Ot
  | 0, _, O => (0, O)
  | _ + 1, [], O => (0, O)
  | f + 1, x :: st, O => if O.1 = 200 then (-5, O) else if x.2 + bndN N r s m x.1 ≤ k then pvM N r s m k f st (apO O (-1)) else if x.1 = 0 then (-1, O) else pvM N r s m k f ((fit N s (lsP N s x.1) x.1, x.2 + mea1 N m (lsP N s x.1)) :: (nd x.1 (2 ^ lsP N s x.1), x.2) :: st) (apO O (nI (lsP N s x.1)))
theorem pvM_n (N : Nt) (r s m k f : Nat) (O : Ot) : pvM N r s m k f [] O = (0, O) := by cases f <;> rfl
theorem pvM_c (N : Nt) (r s m k f : Nat) (x : Nat × Nat) (st : List (Nat × Nat)) (O : Ot) : pvM N r s m k (f + 1) (x :: st) O = if O.1 = 200 then (-5, O) else if x.2 + bndN N r s m x.1 ≤ k then pvM N r s m k f st (apO O (-1)) else if x.1 = 0 then (-1, O) else pvM N r s m k f ((fit N s (lsP N s x.1) x.1, x.2 + mea1 N m (lsP N s x.1)) :: (nd x.1 (2 ^ lsP N s x.1), x.2) :: st) (apO O (nI (lsP N s x.1))) := rfl
def OkO (O : Ot) : Prop := ∀ i, i < O.1 → O.2 i = -1 ∨ ∃ p, p < 40 ∧ O.2 i = nI p
theorem OkO.ap {O : Ot} (h : OkO O) {v : Int32} (hv : v = -1 ∨ ∃ p, p < 40 ∧ v = nI p) : OkO (apO O v) := fun i hi => by
  have hi' : i < O.1 + 1 := hi
  show (if i = O.1 then v else O.2 i) = -1 ∨ ∃ p, p < 40 ∧ (if i = O.1 then v else O.2 i) = nI p
  by_cases e : i = O.1
  · rw [if_pos e]; exact hv
  · rw [if_neg e]; exact h i (by omega)
def StOk (N : Nt) : List (Nat × Nat) → Prop
  | [] => True
  | x :: st => x.1 < 2 ^ n_n N ∧ pc x.1 + st.length ≤ 40 ∧ x.2 + 300 * pc x.1 ≤ 19200 ∧ StOk N st
theorem fit_pc {N : Nt} (wf : WfN N) {s p w : Nat} (hp : p < n_n N) (hb : w.testBit p = true) : pc (fit N s p w) + 1 ≤ pc w := by
  have hn := wf.1
  rw [← pc_nd (w := w) (b := p) (by omega) hb]
  have : pc (fit N s p w) ≤ pc (nd w (2 ^ p)) := pc_mono (fun i hi => by
    rw [fit_rl, Bool.and_eq_true] at hi
    rw [nd1_bit, hi.1, Bool.true_and]
    by_cases e : i = p
    · rw [e, rl_irr wf hp] at hi; cases hi.2
    · simp [e])
  omega
theorem StOk.br {N : Nt} (wf : WfN N) {s m p : Nat} {x : Nat × Nat} {st : List (Nat × Nat)} (h : StOk N (x :: st)) (hp : p < n_n N) (hb : x.1.testBit p = true) : StOk N ((fit N s p x.1, x.2 + mea1 N m p) :: (nd x.1 (2 ^ p), x.2) :: st) := by
  obtain ⟨h1, h2, h3, h4⟩ := h
  have hn := wf.1
  have a1 := fit_pc (s := s) wf hp hb
  have a2 := pc_nd (w := x.1) (b := p) (by omega) hb
  have a3 := mea1_lt wf (m := m) hp
  refine ⟨fit_lt h1, ?_, ?_, nd_lt h1, ?_, ?_, h4⟩
  · show pc (fit N s p x.1) + (st.length + 1) ≤ 40; omega
  · show x.2 + mea1 N m p + 300 * pc (fit N s p x.1) ≤ 19200; omega
  · show pc (nd x.1 (2 ^ p)) + st.length ≤ 40; omega
  · show x.2 + 300 * pc (nd x.1 (2 ^ p)) ≤ 19200; omega
theorem pvM_ok {N : Nt} (wf : WfN N) {r s m k : Nat} : ∀ (f : Nat) (st : List (Nat × Nat)) (O : Ot), StOk N st → OkO O → O.1 ≤ 200 → OkO (pvM N r s m k f st O).2 ∧ (pvM N r s m k f st O).2.1 ≤ 200 := by
  intro f
  induction f with
  | zero => intro st O _ h h2; exact ⟨h, h2⟩
  | succ f ih =>
    intro st O hs h h2
    cases st with
    | nil => exact ⟨h, h2⟩
    | cons x st =>
      rw [pvM_c]
      by_cases e : O.1 = 200
      · rw [if_pos e]; exact ⟨h, h2⟩
      rw [if_neg e]
      by_cases e2 : x.2 + bndN N r s m x.1 ≤ k
      · rw [if_pos e2]
        exact ih st _ hs.2.2.2 (h.ap (Or.inl rfl)) (show O.1 + 1 ≤ 200 by omega)
      rw [if_neg e2]
      by_cases e3 : x.1 = 0
      · rw [if_pos e3]; exact ⟨h, h2⟩
      rw [if_neg e3]
      obtain ⟨l1, l2, _⟩ := lsP_ok (s := s) hs.1 e3
      exact ih _ _ (hs.br wf l1 l2) (h.ap (Or.inr ⟨_, by have := wf.1; omega, rfl⟩)) (show O.1 + 1 ≤ 200 by omega)
/-! the class's stack -/
def StkR (σ : Sto) : List (Nat × Nat) → Prop
  | [] => True
  | x :: st => gL σ 24 st.length = lN x.1 ∧ gI σ 25 st.length = nI x.2 ∧ StkR σ st
theorem StkR.fr {σ σ' : Sto} : ∀ {st : List (Nat × Nat)}, StkR σ st → (∀ j, j < st.length → gL σ' 24 j = gL σ 24 j ∧ gI σ' 25 j = gI σ 25 j) → StkR σ' st
  | [], _, _ => trivial
  | x :: st, h, hf => ⟨by rw [(hf st.length (by rw [List.length_cons]; omega)).1]; exact h.1, by rw [(hf st.length (by rw [List.length_cons]; omega)).2]; exact h.2.1, StkR.fr h.2.2 (fun j hj => hf j (by rw [List.length_cons]; omega))⟩
def kB (c j : Nat) : Bool := !(decide (17 ≤ c) && decide (c ≤ 20) || decide (c = 21) && decide (j = 7) || decide (c = 23) || decide (c = 24) || decide (c = 25))
theorem kB_t {c j : Nat} (h : (c < 17 ∨ 20 < c) ∧ ¬ (c = 21 ∧ j = 7) ∧ c ≠ 23 ∧ c ≠ 24 ∧ c ≠ 25) : kB c j = true := by
  unfold kB
  simp only [Bool.not_eq_true', Bool.or_eq_false_iff, Bool.and_eq_false_iff, decide_eq_false_iff_not]
  omega
theorem kB_f {c j : Nat} (h : (c = 21 ∧ j = 7) ∨ c = 23 ∨ c = 24 ∨ c = 25) : kB c j = false := by
  unfold kB
  simp only [Bool.not_eq_false', Bool.or_eq_true, Bool.and_eq_true, decide_eq_true_eq]
  omega
theorem Scr.kRB {σ σ' : Sto} (hs : Scr kR σ σ') : Scr kB σ σ' := fun c j h => hs c j (by
  apply kR_t
  revert h
  unfold kB
  simp only [Bool.not_eq_true', Bool.or_eq_false_iff, Bool.and_eq_false_iff, decide_eq_false_iff_not]
  omega)
theorem Scr.kBC {σ σ' : Sto} (hs : Scr kB σ σ') : Scr kC σ σ' := fun c j h => hs c j (by
  apply kB_t
  revert h
  unfold kC
  simp only [Bool.or_eq_true, Bool.and_eq_true, decide_eq_true_eq]
  omega)
theorem NetAt.kB {σ σ' : Sto} {N : Nt} (h : NetAt σ 1 N) (hs : Scr kB σ σ') : NetAt σ' 1 N :=
  h.scr (fun c j _ b => (hs c j (kB_t (by omega))).1) (fun j => (hs 4 j (kB_t (by omega))).2)
theorem pv_await {σ : Sto} {n w c : Nat} (h : gI σ 21 7 = nI n) (hn : n < 48) : f_Prover_await (lN w) (nI c) σ = some ((), sI (sI (sL σ 24 n (lN w)) 25 n (nI c)) 21 7 (nI (n + 1))) := by
  unfold f_Prover_await B_Prover_await_0
  rw [h, show (48 : Int32) = nI 48 from rfl, if_neg (nI_ge hn (by omega))]
  simp only [gI_sL, h, inb_ok hn (show 48 < 2 ^ 31 by decide), if_true, nI_clamp (show n < 2 ^ 31 by omega), lt1_eq, g_sI_ne (show ¬ (21 = 25 ∧ 7 = n) by omega), nI_1]
theorem pv_branch {σ : Sto} {N : Nt} (hN : NetAt σ 1 N) (wf : WfN N) {s m w c p : Nat} {st : List (Nat × Nat)} (hs : s < 2) (hm : m < 2) (hw : w < 2 ^ 64) (hp : p < n_n N) (h : gI σ 21 7 = nI st.length) (hl : st.length ≤ 40) (hR : StkR σ st) :
    ∃ σ', f_Prover_branch (nI s) (nI m) (lN w) (nI c) (nI p) σ = some ((), σ') ∧ gI σ' 21 7 = nI (st.length + 2) ∧ StkR σ' ((fit N s p w, c + mea1 N m p) :: (nd w (2 ^ p), c) :: st) ∧ (∀ c j, ¬ (c = 21 ∧ j = 7) → c ≠ 25 → gI σ' c j = gI σ c j) ∧ (∀ c j, c ≠ 24 → gL σ' c j = gL σ c j) := by
  have hn := wf.1
  obtain ⟨τ, hτ⟩ : ∃ τ, τ = sI (sI (sL σ 24 st.length (lN (nd w (2 ^ p)))) 25 st.length (nI c)) 21 7 (nI (st.length + 1)) := ⟨_, rfl⟩
  have hNτ : NetAt τ 1 N := by
    rw [hτ]
    exact hN.scr (fun c j a b => by rw [g_sI_ne (by omega), g_sI_ne (by omega), gI_sL]) (fun j => by rw [gL_sI, gL_sI, g_sL_ne (by omega)])
  have a1 := pv_await (σ := σ) (w := nd w (2 ^ p)) (c := c) h (by omega)
  have a2 := pv_await (σ := τ) (n := st.length + 1) (w := fit N s p w) (c := c + mea1 N m p) (by rw [hτ, g_sI_eq]) (by omega)
  refine ⟨sI (sI (sL τ 24 (st.length + 1) (lN (fit N s p w))) 25 (st.length + 1) (nI (c + mea1 N m p))) 21 7 (nI (st.length + 1 + 1)), ?_, ?_, ?_, ?_, ?_⟩
  · unfold f_Prover_branch B_Prover_branch_0
    rw [lsh_1 (by omega), lN_nd hw, a1, Option.bind_some, ← hτ]
    simp only []
    rw [nt_fitting hNτ wf hs hp hw, Option.bind_some]
    simp only []
    rw [nt_worthOf hNτ wf hm hp, Option.bind_some, nI_add]
    simp only []
    rw [a2, Option.bind_some]
  · rw [g_sI_eq]
  · refine ⟨?_, ?_, ?_, ?_, StkR.fr hR (fun j hj => ⟨?_, ?_⟩)⟩
    · rw [gL_sI, gL_sI]; exact g_sL_eq _ _ _ _
    · rw [g_sI_ne (by omega)]; exact g_sI_eq _ _ _ _
    · rw [gL_sI, gL_sI, g_sL_ne (by omega), hτ, gL_sI, gL_sI, g_sL_eq]
    · rw [g_sI_ne (by omega), g_sI_ne (by omega), gI_sL, hτ, g_sI_ne (by omega), g_sI_eq]
    · rw [gL_sI, gL_sI, g_sL_ne (by omega), hτ, gL_sI, gL_sI, g_sL_ne (by omega)]
    · rw [g_sI_ne (by omega), g_sI_ne (by omega), gI_sL, hτ, g_sI_ne (by omega), g_sI_ne (by omega), gI_sL]
  · intro c j h1 h2
    rw [g_sI_ne h1, g_sI_ne (by omega), gI_sL, hτ, g_sI_ne h1, g_sI_ne (by omega), gI_sL]
  · intro c j h1
    rw [gL_sI, gL_sI, g_sL_ne (by omega), hτ, gL_sI, gL_sI, g_sL_ne (by omega)]
theorem rk_last {σ : Sto} {N : Nt} {s w d : Nat} (hr : RkC σ (ordL N s 40 w) d) (h0 : 0 < (ordL N s 40 w).length) : f_Ranking_last σ = some (nI (lsP N s w), σ) := by
  have hl := ordL_len N s 40 w
  unfold f_Ranking_last B_Ranking_last_0
  obtain ⟨n, hn⟩ : ∃ n, (ordL N s 40 w).length = n + 1 := ⟨(ordL N s 40 w).length - 1, by omega⟩
  rw [hr.1, hn, if_neg (nI_nle (by omega) (by omega)), show (40 : Int32) = nI 40 from rfl, if_neg (nI_nlt (by omega) (by omega)), show nI (n + 1) - (1 : Int32) = nI n from nI_pred n]
  simp only [inb_ok (show n < 40 by omega) (show 40 < 2 ^ 31 by decide), if_true, nI_clamp (show n < 2 ^ 31 by omega)]
  rw [hr.2.2 n (by omega)]
  unfold lsP
  rw [hn, Nat.add_sub_cancel]
theorem pv_loop {N : Nt} (wf : WfN N) {r s m k : Nat} (hr : r < 5) (hs : s < 2) (hm : m < 2) (hk : k < 2 ^ 31) : ∀ (f fu : Nat) (st : List (Nat × Nat)) (O : Ot) (σ : Sto), f + O.1 = 201 → f ≤ fu → O.1 ≤ 200 → NetAt σ 1 N → gI σ 21 7 = nI st.length → StkR σ st → StOk N st → (∀ i, i < O.1 → gI σ 23 i = O.2 i) →
    ∃ σ', L_Prover_build_15 fu (nI r) (nI s) (nI m) (nI k) (nI O.1) σ = (if (pvM N r s m k f st O).1 = 0 then some (nI (pvM N r s m k f st O).2.1, sI (cpI σ' 23 0 22 0 (pvM N r s m k f st O).2.1) 21 1 (nI (pvM N r s m k f st O).2.1)) else some ((pvM N r s m k f st O).1, σ')) ∧ (∀ i, i < (pvM N r s m k f st O).2.1 → gI σ' 23 i = (pvM N r s m k f st O).2.2 i) ∧ Scr kB σ σ' := by
  intro f
  induction f with
  | zero => intro fu st O σ h1 h2 h3; omega
  | succ f ih =>
    intro fu st O σ hf hfu hO hN hp hR hok hd
    obtain ⟨fu, rfl⟩ : ∃ g, fu = g + 1 := ⟨fu - 1, by omega⟩
    cases st with
    | nil =>
      refine ⟨σ, ?_, fun i hi => hd i hi, Scr.rf⟩
      rw [pvM_n, if_pos rfl]
      show B_Prover_build_15 (L_Prover_build_15 fu) _ _ _ _ _ _ = _
      unfold B_Prover_build_15
      have c0 : ∀ n, n < 201 → cpk 0 200 0 200 (nI n) = true := by decide +kernel
      rw [hp, show nI ([] : List (Nat × Nat)).length = (0 : Int32) from rfl, if_pos (show (0 : Int32) ≤ 0 by decide +kernel), if_pos (show (0 : Int32) ≤ 0 by decide +kernel), c0 O.1 (by omega), if_pos rfl, lt1_eq, show (0 : Int32).toNatClampNeg = 0 by decide +kernel, nI_clamp (show O.1 < 2 ^ 31 by omega)]
    | cons x st =>
      rw [pvM_c]
      have hlen : st.length ≤ 40 := by have := hok.2.1; omega
      have hp1 : gI σ 21 7 = nI (st.length + 1) := hp
      by_cases e : O.1 = 200
      · refine ⟨σ, ?_, ?_, Scr.rf⟩
        · rw [if_pos e, if_neg (show ¬ ((-5 : Int32) = 0) by decide +kernel)]
          show B_Prover_build_15 (L_Prover_build_15 fu) _ _ _ _ _ _ = _
          unfold B_Prover_build_15
          rw [hp1, if_neg (nI_nle (by omega) (by omega)), show (200 : Int32) = nI 200 from rfl, if_pos (nI_le (by omega) (by omega)), if_neg (nI_nle (by omega) (by omega))]
        · rw [if_pos e]; exact fun i hi => hd i hi
      rw [if_neg e]
      obtain ⟨o1, o2, o3, o4⟩ := hok
      obtain ⟨R1, R2, R3⟩ := hR
      have hs0 : Scr kB σ (sI σ 21 7 (nI st.length)) := Scr.sI (kB_f (by omega))
      have hN0 := hN.kB hs0
      obtain ⟨σ1, e1, r1⟩ := ju_most hN0 wf hr hs hm o1
      have hN1 := hN0.kB r1.kRB
      have hb := bndN_le wf r s m x.1
      have hx64 := lt64 wf o1
      have e0 : L_Prover_build_15 (fu + 1) (nI r) (nI s) (nI m) (nI k) (nI O.1) σ = (if k < x.2 + bndN N r s m x.1 then (if x.1 = 0 then some (-1, σ1) else ((f_Judge_ranked (nI s) (lN x.1) σ1).bind fun q7 => ((f_Ranking_last q7.2).bind fun q8 => ((f_Prover_branch (nI s) (nI m) (lN x.1) (nI x.2) q8.1 (sI q8.2 23 O.1 q8.1)).bind fun q9 => L_Prover_build_15 fu (nI r) (nI s) (nI m) (nI k) (nI (O.1 + 1)) q9.2)))) else L_Prover_build_15 fu (nI r) (nI s) (nI m) (nI k) (nI (O.1 + 1)) (sI σ1 23 O.1 (-1))) := by
        show B_Prover_build_15 (L_Prover_build_15 fu) _ _ _ _ _ _ = _
        unfold B_Prover_build_15
        rw [hp1, if_neg (nI_nle (by omega) (by omega)), show (200 : Int32) = nI 200 from rfl, if_neg (nI_ge (by omega) (by omega)), show nI (st.length + 1) - (1 : Int32) = nI st.length from nI_pred _]
        simp only [g_sI_eq, inb_ok (show st.length < 48 by omega) (show 48 < 2 ^ 31 by decide), if_true, nI_clamp (show st.length < 2 ^ 31 by omega), lt1_eq, gL_sI, R1, g_sI_ne (show ¬ (25 = 21 ∧ st.length = 7) by omega), R2, e1, Option.bind_some, nI_add, nI_ltI hk (show x.2 + bndN N r s m x.1 < 2 ^ 31 by omega), lN_eq0 hx64, inb_ok (show O.1 < 200 by omega) (show 200 < 2 ^ 31 by decide), nI_clamp (show O.1 < 2 ^ 31 by omega), nI_1]
      by_cases e2 : x.2 + bndN N r s m x.1 ≤ k
      · rw [if_pos e2]
        have hsd : Scr kB σ1 (sI σ1 23 O.1 (-1)) := Scr.sI (kB_f (by omega))
        obtain ⟨σ', g0, g1, g2⟩ := ih fu st (apO O (-1)) (sI σ1 23 O.1 (-1)) (show f + (O.1 + 1) = 201 by omega) (by omega) (show O.1 + 1 ≤ 200 by omega) (hN1.kB hsd) (by rw [g_sI_ne (by omega), (r1 21 7 (kR_t (by omega))).1, g_sI_eq]) (R3.fr (fun j hj => ⟨by rw [gL_sI, (r1 24 j (kR_t (by omega))).2, gL_sI], by rw [g_sI_ne (by omega), (r1 25 j (kR_t (by omega))).1, g_sI_ne (by omega)]⟩)) o4 (fun i hi => by
          have hi' : i < O.1 + 1 := hi
          show _ = if i = O.1 then (-1 : Int32) else O.2 i
          by_cases ei : i = O.1
          · rw [if_pos ei, ei, g_sI_eq]
          · rw [if_neg ei, g_sI_ne (by omega), (r1 23 i (kR_t (by omega))).1, g_sI_ne (by omega)]; exact hd i (by omega))
        refine ⟨σ', ?_, g1, ((hs0.tr r1.kRB).tr hsd).tr g2⟩
        rw [e0, if_neg (by omega)]
        exact g0
      rw [if_neg e2]
      by_cases e3 : x.1 = 0
      · refine ⟨σ1, ?_, ?_, hs0.tr r1.kRB⟩
        · rw [if_pos e3, if_neg (show ¬ ((-1 : Int32) = 0) by decide +kernel), e0, if_pos (by omega), if_pos e3]
        · rw [if_pos e3]
          intro i hi
          rw [(r1 23 i (kR_t (by omega))).1, g_sI_ne (by omega)]; exact hd i hi
      rw [if_neg e3]
      obtain ⟨l1, l2, l3⟩ := lsP_ok (s := s) o1 e3
      obtain ⟨σ2, e4, hr2, r2⟩ := rk_rank hN1 wf hs o1
      have hN2 := hN1.kB r2.kRB
      have hsd : Scr kB σ2 (sI σ2 23 O.1 (nI (lsP N s x.1))) := Scr.sI (kB_f (by omega))
      have hp3 : gI (sI σ2 23 O.1 (nI (lsP N s x.1))) 21 7 = nI st.length := by rw [g_sI_ne (by omega), (r2 21 7 (kR_t (by omega))).1, (r1 21 7 (kR_t (by omega))).1, g_sI_eq]
      obtain ⟨σ3, e5, b1, b2, b3, b4⟩ := pv_branch (hN2.kB hsd) wf (c := x.2) hs hm hx64 l1 hp3 hlen (R3.fr (fun j hj => ⟨by rw [gL_sI, (r2 24 j (kR_t (by omega))).2, (r1 24 j (kR_t (by omega))).2, gL_sI], by rw [g_sI_ne (by omega), (r2 25 j (kR_t (by omega))).1, (r1 25 j (kR_t (by omega))).1, g_sI_ne (by omega)]⟩))
      have hs3 : Scr kB (sI σ2 23 O.1 (nI (lsP N s x.1))) σ3 := fun c j hc => ⟨b3 c j (by rintro ⟨rfl, rfl⟩; revert hc; decide) (by rintro rfl; rw [kB_f (by omega)] at hc; cases hc), b4 c j (by rintro rfl; rw [kB_f (by omega)] at hc; cases hc)⟩
      obtain ⟨σ', g0, g1, g2⟩ := ih fu ((fit N s (lsP N s x.1) x.1, x.2 + mea1 N m (lsP N s x.1)) :: (nd x.1 (2 ^ lsP N s x.1), x.2) :: st) (apO O (nI (lsP N s x.1))) σ3 (show f + (O.1 + 1) = 201 by omega) (by omega) (show O.1 + 1 ≤ 200 by omega) ((hN2.kB hsd).kB hs3) b1 b2 (StOk.br (s := s) (m := m) wf (x := x) ⟨o1, o2, o3, o4⟩ l1 l2) (fun i hi => by
          have hi' : i < O.1 + 1 := hi
          show _ = if i = O.1 then nI (lsP N s x.1) else O.2 i
          rw [b3 23 i (by omega) (by omega)]
          by_cases ei : i = O.1
          · rw [if_pos ei, ei, g_sI_eq]
          · rw [if_neg ei, g_sI_ne (by omega), (r2 23 i (kR_t (by omega))).1, (r1 23 i (kR_t (by omega))).1, g_sI_ne (by omega)]; exact hd i (by omega))
      refine ⟨σ', ?_, g1, ((((hs0.tr r1.kRB).tr r2.kRB).tr hsd).tr hs3).tr g2⟩
      rw [e0, if_pos (by omega), if_neg e3]
      unfold f_Judge_ranked B_Judge_ranked_0
      rw [e4, Option.bind_some, Option.bind_some]
      simp only []
      rw [rk_last hr2 l3, Option.bind_some]
      simp only []
      rw [e5, Option.bind_some]
      exact g0
