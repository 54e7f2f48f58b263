/-! text -/
def txR (F : Nat) (A : Ast) : Bool × Nat × Nt := plF (s_T A).1 (s_T A).2 F 1 (s_N A) (nxT (s_T A).1 (s_T A).2 0)
def txN (F : Nat) (A : Ast) : Ast := setT (if (txR F A).1 = true then ((txR F A).2.2, A.2) else A) (0, fun _ => 0)
theorem fr_text_c {F : Nat} (hF : F = 160) {σ : Sto} {A : Ast} (wf : WfA A) (h : CSt σ A) : ∃ σ1, f_FR_text σ = some (plI (txR F A), σ1) ∧ WfA (txN F A) ∧ CSt σ1 (txN F A) ∧ HiEq σ σ1 := by
  have wt : WfT (s_T A).1 (s_T A).2 := wf.2.2.2.1
  have tx0 : TxC σ (s_T A).1 (s_T A).2 := h.2.2.2.1
  have hL := wt.1
  obtain ⟨σ1, e1, n1, f1⟩ := nt_become (o := 11) h.net wf.1 (by omega)
  have g1 : ∀ c j, 16 ≤ c → gI σ1 c j = gI σ c j := fun c j hc => (f1.1 c (by omega)).1 j
  have tx1 : TxC (sI σ1 31 4 0) (s_T A).1 (s_T A).2 := ⟨by rw [g_sI_ne (by omega), g1 31 0 (by omega)]; exact tx0.1, fun i hi => by rw [g_sI_ne (by omega), g1 32 i (by omega)]; exact tx0.2 i hi⟩
  obtain ⟨σ2, e2, t2, f2⟩ := tp_advance wt (Nat.zero_le _) tx1 (g_sI_eq _ _ _ _)
  have n2 : NetAt σ2 11 (s_N A) := n1.scr (fun c j x y => by rw [f2.1 c j (by omega), g_sI_ne (by omega)]) (fun j => by rw [f2.2 14 j]; rfl)
  have c2 : CT σ2 (s_T A).1 (s_T A).2 (s_N A) (nxT (s_T A).1 (s_T A).2 0) := ⟨n2, tx1.frK f2, t2⟩
  have w2 := (nxT_ok (b := (s_T A).2) (Nat.zero_le (s_T A).1)).1
  obtain ⟨σ3, e3, n3, f3⟩ := tp_play wt F LF 1 (s_N A) _ σ2 (by omega) (by rw [LF_big]; omega) wf.1 c2 w2
  obtain ⟨q1, q2⟩ := plF_ok (b := (s_T A).2) hL F 1 (s_N A) _ (by omega) wf.1 w2
  have fp : FrP σ σ3 := fun c j x y => by
    obtain ⟨y1, y2⟩ := f3 c j x y
    exact ⟨by rw [y1, f2.1 c j y, g_sI_ne (by omega), (f1.1 c (by omega)).1 j], by rw [y2, f2.2 c j, gL_sI, (f1.1 c (by omega)).2 j]⟩
  have cs := h.text fp
  have hi : HiEq σ (sI σ3 31 0 0) := fun c j hc => by
    obtain ⟨y1, y2⟩ := fp c j (by omega) (by omega)
    exact ⟨by rw [g_sI_ne (by omega), y1], by rw [gL_sI, y2]⟩
  have e0 : f_FR_text σ = (if plI (txR F A) < 0 then some (plI (txR F A), (sI σ3 31 0 0)) else ((f_Net_become 1 11 (sI σ3 31 0 0)).bind fun q3 => some (plI (txR F A), q3.2))) := by
    unfold f_FR_text B_FR_text_0
    rw [e1, Option.bind_some]
    unfold f_Tape_play B_Tape_play_0
    simp only []
    rw [e2, Option.bind_some]
    simp only []
    rw [show L_Tape_play_11 LF 11 1 σ2 = _ from e3, Option.bind_some]
    rfl
  rw [e0]
  have hq : ∃ r, r = txR F A := ⟨_, rfl⟩
  obtain ⟨r, hr⟩ := hq
  have n3' : NetAt σ3 11 r.2.2 := by rw [hr]; exact n3
  have q1' : WfN r.2.2 := by rw [hr]; exact q1
  have q2' : r.2.1 ≤ 160 := by rw [hr]; exact q2
  unfold txN
  rw [← hr]
  cases g : r.1 with
  | false =>
    rw [if_neg (show ¬ (false = true) by decide)]
    have ep : plI r = -100 - nI r.2.1 := by unfold plI; rw [g, if_neg (by decide)]
    rw [ep, if_pos (fault_neg r.2.1 (by omega)).1]
    exact ⟨_, rfl, setT_wf wf ⟨Nat.zero_le _, fun i hi => absurd hi (Nat.not_lt_zero i)⟩, cs, hi⟩
  | true =>
    rw [if_pos rfl]
    have ep : plI r = nI r.2.1 := by unfold plI; rw [g, if_pos rfl]
    rw [ep, if_neg (nI_pos (by omega))]
    have n4 : NetAt (sI σ3 31 0 0) 11 r.2.2 := n3'.scr (fun c j x y => g_sI_ne (by omega)) (fun j => rfl)
    obtain ⟨σ5, e5, n5, f5⟩ := nt_become (o := 1) n4 q1' (by omega)
    refine ⟨σ5, by rw [e5, Option.bind_some], setT_wf (wf.netU q1') ⟨Nat.zero_le _, fun i hi => absurd hi (Nat.not_lt_zero i)⟩, cs.netU n5 f5, fun c j hc => ?_⟩
    obtain ⟨y1, y2⟩ := hi c j hc
    obtain ⟨z1, z2⟩ := f5.hi (by omega) c j hc
    exact ⟨by rw [z1, y1], by rw [z2, y2]⟩
theorem mo_text_m {F : Nat} (hF : F = 160) {σ : Sto} {A : Ast} (wf : WfA A) (h : MSt σ A) : ∃ σ2, f_Mo_text σ = some (plI (txR F A), σ2) ∧ MSt σ2 (txN F A) ∧ LoEq σ σ2 := by
  have wt : WfT (s_T A).1 (s_T A).2 := wf.2.2.2.1
  have tx0 : TxM σ (s_T A).1 (s_T A).2 := h.2.2.2.1
  have hL := wt.1
  have hnn := wf.1.1
  have hN := h.net
  obtain ⟨σ1, e1, f1, f3, f4⟩ := mo_cps (a0 := 49) (a1 := 64) (a2 := 50) (a3 := 63) (a4 := 51) (a5 := 65) rfl rfl rfl rfl rfl rfl (by decide) (by decide) (by decide) (by decide) (by decide) (by decide) σ
  have tx1 : TxM (sI σ1 48 27 0) (s_T A).1 (s_T A).2 := ⟨by rw [g_sI_ne (by omega), f3 48 24 (by omega) (by omega)]; exact tx0.1, fun i hi => by rw [g_sI_ne (by omega), f3 62 i (by omega) (by omega)]; exact tx0.2 i hi⟩
  obtain ⟨σ2, e2, t2, r2⟩ := mo_next wt (Nat.zero_le _) tx1 (g_sI_eq _ _ _ _)
  have n2 : ModAt σ2 (s_N A) := ⟨by rw [r2.1 48 0 (by omega), g_sI_ne (by omega), f3 48 0 (by omega) (by omega)]; exact hN.1, fun p hp => by
    obtain ⟨a1, a2, a3⟩ := hN.2 p hp
    exact ⟨by rw [r2.1 49 p (by omega), g_sI_ne (by omega), f3 49 p (by omega) (by omega)]; exact a1, by rw [r2.1 50 p (by omega), g_sI_ne (by omega), f3 50 p (by omega) (by omega)]; exact a2, by rw [r2.2 51 p, gL_sI, f4 51 p (by omega)]; exact a3⟩⟩
  have c2 : MT σ2 (s_T A).1 (s_T A).2 (s_N A) (nxT (s_T A).1 (s_T A).2 0) := ⟨n2, tx1.frL r2, t2⟩
  have w2 := (nxT_ok (b := (s_T A).2) (Nat.zero_le (s_T A).1)).1
  obtain ⟨σ3, e3, n3, r3⟩ := mo_play wt F LF 1 (s_N A) _ σ2 (by omega) (by rw [LF_big]; omega) wf.1 c2 w2 (by omega)
  obtain ⟨q1, q2⟩ := plF_ok (b := (s_T A).2) hL F 1 (s_N A) _ (by omega) wf.1 w2
  have fp : ∀ c j, ¬ (c = 48 ∧ (j = 0 ∨ (25 ≤ j ∧ j ≤ 28))) → c ≠ 49 → c ≠ 50 → c ≠ 51 → c ≠ 63 → c ≠ 64 → c ≠ 65 → gI σ3 c j = gI σ c j ∧ gL σ3 c j = gL σ c j := fun c j x y1 y2 y3 y4 y5 y6 => by
    obtain ⟨z1, z2⟩ := r3 c j x y1 y2 y3
    exact ⟨by rw [z1, r2.1 c j (by omega), g_sI_ne (by omega), f3 c j y5 y4], by rw [z2, r2.2 c j, gL_sI, f4 c j y6]⟩
  have e0 : f_Mo_text σ = (if 0 ≤ plI (txR F A) then some (plI (txR F A), (sI σ3 48 24 0)) else ((f_Mo_copies 64 49 63 50 65 51 (sI (sI σ3 48 24 0) 48 0 (gI σ 48 0))).bind fun q3 => some (plI (txR F A), q3.2))) := by
    unfold f_Mo_text B_Mo_text_0
    rw [e1, Option.bind_some]
    unfold f_Mo_readsAll B_Mo_readsAll_0
    simp only []
    rw [e2, Option.bind_some]
    simp only []
    rw [show ((f_Mo_readsStatement σ2).bind fun q2 => L_Mo_readsAll_16 LF 1 (b2i q2.1) q2.2) = _ from e3, Option.bind_some]
    rfl
  rw [e0]
  have hq : ∃ r, r = txR F A := ⟨_, rfl⟩
  obtain ⟨r, hr⟩ := hq
  have n3' : ModAt σ3 r.2.2 := by rw [hr]; exact n3
  have q2' : r.2.1 ≤ 160 := by rw [hr]; exact q2
  unfold txN
  rw [← hr]
  cases g : r.1 with
  | true =>
    rw [if_pos rfl]
    have ep : plI r = nI r.2.1 := by unfold plI; rw [g, if_pos rfl]
    rw [ep, if_pos (nI_pos' (by omega))]
    refine ⟨_, rfl, h.text ⟨by rw [g_sI_ne (by omega)]; exact n3'.1, fun p hp => ?_⟩ (g_sI_eq _ _ _ _) (fun c j k1 k2 => ?_) (fun c j k1 k2 => ?_), fun c j hc => ?_⟩
    · obtain ⟨a1, a2, a3⟩ := n3'.2 p hp
      exact ⟨by rw [g_sI_ne (by omega)]; exact a1, by rw [g_sI_ne (by omega)]; exact a2, a3⟩
    · obtain ⟨z1, z2, z3, z4, z5⟩ := kM_d k1
      rw [g_sI_ne (by omega)]
      exact (fp c j (fun z => by have := z5 z.1; omega) (by omega) (by omega) (by omega) z2 z3 z4).1
    · obtain ⟨z1, z2, z3, z4, z5⟩ := kM_d k1
      rw [gL_sI]
      exact (fp c j (fun z => by have := z5 z.1; omega) (by omega) (by omega) (by omega) z2 z3 z4).2
    · obtain ⟨z1, z2⟩ := fp c j (by omega) (by omega) (by omega) (by omega) (by omega) (by omega) (by omega)
      exact ⟨by rw [g_sI_ne (by omega), z1], by rw [gL_sI, z2]⟩
  | false =>
    rw [if_neg (show ¬ (false = true) by decide)]
    have ep : plI r = -100 - nI r.2.1 := by unfold plI; rw [g, if_neg (by decide)]
    rw [ep, if_neg (fault_neg r.2.1 (by omega)).2]
    obtain ⟨σ5, e5, g1', g3', g4⟩ := mo_cps (a0 := 64) (a1 := 49) (a2 := 63) (a3 := 50) (a4 := 65) (a5 := 51) rfl rfl rfl rfl rfl rfl (by decide) (by decide) (by decide) (by decide) (by decide) (by decide) (sI (sI σ3 48 24 0) 48 0 (gI σ 48 0))
    refine ⟨σ5, by rw [e5, Option.bind_some], h.text (Nf := s_N A) ⟨by rw [g3' 48 0 (by omega) (by omega), g_sI_eq]; exact hN.1, fun p hp => ?_⟩ (by rw [g3' 48 24 (by omega) (by omega), g_sI_ne (by omega), g_sI_eq]) (fun c j k1 k2 => ?_) (fun c j k1 k2 => ?_), fun c j hc => ?_⟩
    · obtain ⟨p1, p2, p3⟩ := hN.2 p hp
      have hp' : p < n_n (s_N A) := hp
      obtain ⟨q1, q2, q3⟩ := g1' p (by omega)
      obtain ⟨u1, u2, u3⟩ := f1 p (by omega)
      refine ⟨?_, ?_, ?_⟩
      · rw [q1, g_sI_ne (by omega), g_sI_ne (by omega), (r3 64 p (by omega) (by omega) (by omega) (by omega)).1, r2.1 64 p (by omega), g_sI_ne (by omega), u1]; exact p1
      · rw [q2, g_sI_ne (by omega), g_sI_ne (by omega), (r3 63 p (by omega) (by omega) (by omega) (by omega)).1, r2.1 63 p (by omega), g_sI_ne (by omega), u2]; exact p2
      · rw [q3, gL_sI, gL_sI, (r3 65 p (by omega) (by omega) (by omega) (by omega)).2, r2.2 65 p, gL_sI, u3]; exact p3
    · obtain ⟨z1, z2, z3, z4, z5⟩ := kM_d k1
      rw [g3' c j (by omega) (by omega), g_sI_ne (by omega), g_sI_ne (by omega)]
      exact (fp c j (fun z => by have := z5 z.1; omega) (by omega) (by omega) (by omega) z2 z3 z4).1
    · obtain ⟨z1, z2, z3, z4, z5⟩ := kM_d k1
      rw [g4 c j (by omega), gL_sI, gL_sI]
      exact (fp c j (fun z => by have := z5 z.1; omega) (by omega) (by omega) (by omega) z2 z3 z4).2
    · obtain ⟨z1, z2⟩ := fp c j (by omega) (by omega) (by omega) (by omega) (by omega) (by omega) (by omega)
      exact ⟨by rw [g3' c j (by omega) (by omega), g_sI_ne (by omega), g_sI_ne (by omega), z1], by rw [g4 c j (by omega), gL_sI, gL_sI, z2]⟩
theorem op_text : Op f_FR_text f_Mo_text := by
  obtain ⟨F, hF⟩ : ∃ F, F = 160 := ⟨_, rfl⟩
  exact Op.mk (fun A => plI (txR F A)) (txN F) (fun σ A wf h => fr_text_c hF wf h) (fun σ A wf h => mo_text_m hF wf h)
