def O0 : Ot := (0, fun _ => 0)
theorem op_prove (a0 : Int32) (b1 : Int32) (c2 : Int32) (d3 : Int32) (e4 : Int64) : Op (f_FR_prove a0 b1 c2 d3 e4) (f_Mo_prove a0 b1 c2 d3 e4) := by
  obtain ⟨u, hu, rfl⟩ := wb_of e4
  by_cases hc : (ptB a0 5 && oneB b1 && oneB c2 && decide (0 ≤ d3)) = true
  rotate_left
  · have hx : ∀ b, (ptB a0 5 && (oneB b1 && oneB c2 && b) && decide (0 ≤ d3)) = false := fun b => by
      rw [Bool.not_eq_true] at hc
      revert hc
      cases ptB a0 5 <;> cases oneB b1 <;> cases oneB c2 <;> cases decide (0 ≤ d3) <;> cases b <;> simp
    refine Op.ask (fun _ => -2) (fun σ A wf h => ⟨σ, ?_, Scr.rf⟩) (fun σ A wf h => ⟨σ, ?_, Scr.rf⟩)
    · unfold f_FR_prove B_FR_prove_0
      rw [fr_isClaim h.net wf.1 a0 b1 c2 d3 hu, Option.bind_some, hx, ite_bf]
    · unfold f_Mo_prove B_Mo_prove_0
      rw [mo_isProved h.net wf.1 a0 b1 c2 d3 hu, Option.bind_some, hx, ite_bf]
  have hx : ∀ b, (ptB a0 5 && (oneB b1 && oneB c2 && b) && decide (0 ≤ d3)) = b := fun b => by
    revert hc
    cases ptB a0 5 <;> cases oneB b1 <;> cases oneB c2 <;> cases decide (0 ≤ d3) <;> cases b <;> simp
  simp only [Bool.and_eq_true, decide_eq_true_eq] at hc
  obtain ⟨⟨⟨h0, h1⟩, h2⟩, h3⟩ := hc
  obtain ⟨r, hr, rfl⟩ := ptB_of h0
  obtain ⟨s, hs, rfl⟩ := oneB_of h1
  obtain ⟨m, hm, rfl⟩ := oneB_of h2
  obtain ⟨k, hk, rfl⟩ := nI_of (Int32.not_lt.mpr h3)
  obtain ⟨F, hF⟩ : ∃ F, F = 201 := ⟨_, rfl⟩
  refine Op.mk (fun A => if u < 2 ^ n_n (s_N A) then (if (pvM (s_N A) r s m k F [(u, 0)] O0).1 = 0 then nI (pvM (s_N A) r s m k F [(u, 0)] O0).2.1 else (pvM (s_N A) r s m k F [(u, 0)] O0).1) else -2) (fun A => if u < 2 ^ n_n (s_N A) ∧ (pvM (s_N A) r s m k F [(u, 0)] O0).1 = 0 then setP A (pvM (s_N A) r s m k F [(u, 0)] O0).2 else A) (fun σ A wf h => ?_) (fun σ A wf h => ?_)
  · unfold f_FR_prove B_FR_prove_0
    rw [fr_isClaim h.net wf.1 _ _ _ _ hu, Option.bind_some, hx]
    by_cases h4 : u < 2 ^ n_n (s_N A)
    · have hs0 : Scr kB σ (sI σ 21 7 0) := Scr.sI (kB_f (by omega))
      have aw := pv_await (σ := sI σ 21 7 0) (n := 0) (w := u) (c := 0) (g_sI_eq _ _ _ _) (by omega)
      obtain ⟨τ, hτ⟩ : ∃ τ, τ = sI (sI (sL (sI σ 21 7 0) 24 0 (lN u)) 25 0 (nI 0)) 21 7 (nI (0 + 1)) := ⟨_, rfl⟩
      rw [← hτ] at aw
      have hsτ : Scr kB σ τ := by rw [hτ]; exact ((hs0.tr (Scr.sL (kB_f (by omega)))).tr (Scr.sI (kB_f (by omega)))).tr (Scr.sI (kB_f (by omega)))
      obtain ⟨σ', e, g1, g2⟩ := pv_loop wf.1 hr hs hm hk F LF [(u, 0)] O0 τ (show F + 0 = 201 by omega) (by rw [LF_big]; omega) (show 0 ≤ 200 by omega) (h.net.kB hsτ) (by rw [hτ, g_sI_eq]; rfl) ⟨by rw [hτ, gL_sI, gL_sI]; exact g_sL_eq _ _ _ _, by rw [hτ, g_sI_ne (by omega)]; exact g_sI_eq _ _ _ _, trivial⟩ (StOk_one wf.1 h4) (fun i hi => absurd hi (Nat.not_lt_zero i))
      have hpo := pvM_ok wf.1 (r := r) (s := s) (m := m) (k := k) F [(u, 0)] O0 (StOk_one wf.1 h4) (fun i hi => absurd hi (Nat.not_lt_zero i)) (show 0 ≤ 200 by omega)
      generalize pvM (s_N A) r s m k F [(u, 0)] O0 = R at *
      rw [decide_eq_true h4, ite_bt]
      unfold f_Prover_build B_Prover_build_0
      rw [show f_Prover_await (lN u) (0 : Int32) (sI σ 21 7 0) = some ((), τ) from aw, Option.bind_some]
      simp only []
      rw [show L_Prover_build_15 LF (nI r) (nI s) (nI m) (nI k) (0 : Int32) τ = _ from e]
      have hC1 := h.scrC (hsτ.tr g2).kBC
      by_cases h5 : R.1 = 0
      · simp only [if_pos h4, if_pos h5, if_pos (And.intro h4 h5), Option.bind_some]
        refine ⟨_, rfl, setP_wf wf ⟨hpo.2, hpo.1⟩, hC1.pfU (fun c j _ x y => ⟨by rw [g_sI_ne x, gI_cpI, if_neg (by omega)], by rw [gL_sI, gL_cpI]⟩) (g_sI_eq _ _ _ _) (fun i hi => by rw [g_sI_ne (by omega), gI_cpI, if_pos ⟨rfl, hi⟩]; exact g1 i hi), fun c j hc => ⟨by rw [g_sI_ne (by omega), gI_cpI, if_neg (by omega)]; exact ((hsτ.tr g2) c j (kB_t (by omega))).1, by rw [gL_sI, gL_cpI]; exact ((hsτ.tr g2) c j (kB_t (by omega))).2⟩⟩
      · simp only [if_pos h4, if_neg h5, if_neg (fun z : u < 2 ^ n_n (s_N A) ∧ R.1 = 0 => h5 z.2), Option.bind_some]
        exact ⟨_, rfl, wf, hC1, fun c j hc => (hsτ.tr g2) c j (kB_t (by omega))⟩
    · rw [decide_eq_false h4, ite_bf]
      simp only [if_neg h4, if_neg (fun z : u < 2 ^ n_n (s_N A) ∧ (pvM (s_N A) r s m k F [(u, 0)] O0).1 = 0 => h4 z.1)]
      exact ⟨σ, rfl, wf, h, fun _ _ _ => ⟨rfl, rfl⟩⟩
  · unfold f_Mo_prove B_Mo_prove_0
    rw [mo_isProved h.net wf.1 _ _ _ _ hu, Option.bind_some, hx]
    by_cases h4 : u < 2 ^ n_n (s_N A)
    · have hs0 : Scr kP σ (sI σ 48 21 0) := Scr.sI (kP_f (by omega))
      have hpc := pcw40 wf.1 h4
      obtain ⟨why, σ1, O, f, e, g1, g2, g3, g4, g5, g6⟩ := mo_proves wf.1 hr hs hm hk 64 u 0 F O0 (sI σ 48 21 0) (by omega) h4 (by omega) (show F + 0 = 201 by omega) (show 0 ≤ 200 by omega) (h.net.kP hs0) ⟨g_sI_eq _ _ _ _, fun i hi => absurd hi (Nat.not_lt_zero i)⟩
      have hs1 : Scr kP σ σ1 := hs0.tr g4
      have q5 := g5 []
      have q6 := g6 []
      rw [pvM_n] at q5
      generalize pvM (s_N A) r s m k F [(u, 0)] O0 = R at *
      rw [decide_eq_true h4, ite_bt]
      rw [show f_Mo_proves 64 (nI r) (nI s) (nI m) (nI k) (lN u) (0 : Int32) (sI σ 48 21 0) = _ from e, Option.bind_some]
      by_cases hy : why = 0
      · have q := q5 hy
        simp only [if_pos hy]
        obtain ⟨σ2, e2, f1, f2, f3⟩ := mo_prove_loop (g := O.2) g3 O.1 LF 0 (sI σ1 48 19 (gI σ1 48 21)) (by omega) (by rw [LF_big]; omega) (by rw [g_sI_eq]; exact g1.1) (fun j hj => by rw [g_sI_ne (by omega)]; exact g1.2 j hj) (fun j hj => absurd hj (by omega))
        have hM1 := h.scrM hs1.kPM
        rw [show L_Mo_prove_55 LF (0 : Int32) (sI σ1 48 19 (gI σ1 48 21)) = _ from e2, q]
        simp only [if_pos h4, if_true, and_true]
        refine ⟨σ2, rfl, hM1.pfU (fun c j hc x y => ⟨by rw [f2 c j y, g_sI_ne x], by rw [f3]; rfl⟩) (by rw [f2 _ _ (by omega), g_sI_eq]; exact g1.1) f1, fun c j hc => ⟨by rw [f2 c j (by omega), g_sI_ne (by omega)]; exact (hs1 c j (kP_t (kL_t (by omega)) (by omega))).1, by rw [f3, gL_sI]; exact (hs1 c j (kP_t (kL_t (by omega)) (by omega))).2⟩⟩
      · have q := q6 hy
        simp only [if_neg hy]
        have q2 : ¬ R.1 = 0 := by rw [q]; exact hy
        simp only [if_pos h4, q, if_neg hy, if_neg (fun z : u < 2 ^ n_n (s_N A) ∧ why = 0 => hy z.2)]
        exact ⟨σ1, rfl, h.scrM hs1.kPM, fun c j hc => hs1 c j (kP_t (kL_t (by omega)) (by omega))⟩
    · rw [decide_eq_false h4, ite_bf]
      simp only [if_neg h4, if_neg (fun z : u < 2 ^ n_n (s_N A) ∧ (pvM (s_N A) r s m k F [(u, 0)] O0).1 = 0 => h4 z.1)]
      exact ⟨σ, rfl, h, fun _ _ _ => ⟨rfl, rfl⟩⟩
