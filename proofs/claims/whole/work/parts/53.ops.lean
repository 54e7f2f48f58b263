/-! one more point -/
def addN (N : Nt) (k f : Nat) : Nt := (n_n N + 1, fun q => if q = n_n N then k else n_k N q, fun q => if q = n_n N then f else n_f N q, fun q => if q = n_n N then 0 else n_j N q)
theorem addN_wf {N : Nt} (wf : WfN N) {k f : Nat} (hn : n_n N < 40) (hk : k < 6) (hf : f < 100) : WfN (addN N k f) := by
  refine ⟨hn, fun p hp => ?_⟩
  have hp' : p < n_n N + 1 := hp
  show (if p = n_n N then k else n_k N p) < 6 ∧ (if p = n_n N then f else n_f N p) < 100 ∧ (if p = n_n N then 0 else n_j N p) < 2 ^ (n_n N + 1) ∧ (if p = n_n N then 0 else n_j N p).testBit p = false ∧ ∀ q, q < n_n N + 1 → (if p = n_n N then 0 else n_j N p).testBit q = (if q = n_n N then 0 else n_j N q).testBit p
  by_cases e : p = n_n N
  · subst e
    simp only [if_true, Nat.zero_testBit]
    refine ⟨hk, hf, Nat.two_pow_pos _, trivial, fun q hq => ?_⟩
    by_cases e2 : q = n_n N
    · rw [if_pos e2, Nat.zero_testBit]
    · rw [if_neg e2]
      exact (tb_out ((wf.2 q (by omega)).2.2.1) (Nat.le_refl _)).symm
  · obtain ⟨w1, w2, w3, w4, w5⟩ := wf.2 p (by omega)
    simp only [if_neg e]
    refine ⟨w1, w2, Nat.lt_of_lt_of_le w3 (two_pow_le (by omega)), w4, fun q hq => ?_⟩
    by_cases e2 : q = n_n N
    · rw [if_pos e2, Nat.zero_testBit, e2]
      exact tb_out w3 (Nat.le_refl _)
    · rw [if_neg e2]
      exact w5 q (by omega)
theorem nt_add {σ : Sto} {o : Nat} {N : Nt} (h : NetAt σ o N) (wf : WfN N) {k f : Nat} (hn : n_n N < 40) (hk : k < 6) (hf : f < 100) :
    ∃ σ', f_Net_add o (nI k) (nI f) σ = some (nI (n_n N), σ') ∧ NetAt σ' o (addN N k f) ∧ FrN o σ σ' := by
  obtain ⟨n, hnn⟩ : ∃ n, n = n_n N := ⟨_, rfl⟩
  have h0 := h.1
  rw [← hnn] at h0 hn
  obtain ⟨τ, hτ⟩ : ∃ τ, τ = sI (sL (sI (sI σ (o + 1) n (nI k)) (o + 2) n (nI f)) (o + 3) n (lN 0)) o 0 (nI (n + 1)) := ⟨_, rfl⟩
  have t0 : gI τ o 0 = nI (n + 1) := by rw [hτ, g_sI_eq]
  have t1 : gI τ (o + 1) n = nI k := by rw [hτ, g_sI_ne (by omega), gI_sL, g_sI_ne (by omega), g_sI_eq]
  have t2 : gI τ (o + 2) n = nI f := by rw [hτ, g_sI_ne (by omega), gI_sL, g_sI_eq]
  have t3 : gL τ (o + 3) n = lN 0 := by rw [hτ, gL_sI, g_sL_eq]
  have r1 : ∀ q, q ≠ n → gI τ (o + 1) q = gI σ (o + 1) q := fun q hq => by rw [hτ, g_sI_ne (by omega), gI_sL, g_sI_ne (by omega), g_sI_ne (by omega)]
  have r2 : ∀ q, q ≠ n → gI τ (o + 2) q = gI σ (o + 2) q := fun q hq => by rw [hτ, g_sI_ne (by omega), gI_sL, g_sI_ne (by omega), g_sI_ne (by omega)]
  have r3 : ∀ q, q ≠ n → gL τ (o + 3) q = gL σ (o + 3) q := fun q hq => by rw [hτ, gL_sI, g_sL_ne (by omega), gL_sI, gL_sI]
  have r4 : ∀ q, gI τ (o + 4) q = gI σ (o + 4) q := fun q => by rw [hτ, g_sI_ne (by omega), gI_sL, g_sI_ne (by omega), g_sI_ne (by omega)]
  have hw := nt_weigh (σ := τ) (o := o) (n := n + 1) (p := n) (by omega) (by omega) t0 t1 t2 t3 hk hf (by decide)
  have hfr : FrN o σ (sI τ (o + 4) n (nI (wtv k f (pc 0)))) := by
    rw [hτ]
    exact FrN.tr (FrN.tr (FrN.tr (FrN.tr (FrN.sI (by omega)) (FrN.sI (by omega))) (FrN.sL (by omega))) (FrN.sI (by omega))) (FrN.sI (by omega))
  refine ⟨sI τ (o + 4) n (nI (wtv k f (pc 0))), ?_, ?_, hfr⟩
  · unfold f_Net_add B_Net_add_0
    have c40 : nI n < (40 : Int32) := nI_lt (b := 40) (by omega) (by decide)
    simp only [h0, if_pos c40, g_sI_ne (show ¬ (o = o + 1 ∧ 0 = n) by omega), g_sI_ne (show ¬ (o = o + 2 ∧ 0 = n) by omega), gI_sL, inb_ok (show n < 40 by omega) (show 40 < 2 ^ 31 by decide), if_true, lt1_eq, nI_clamp (show n < 2 ^ 31 by omega), g_sI_eq, nI_1]
    rw [show (0 : Int64) = lN 0 from rfl, ← hτ, show nI (n + 1) - (1 : Int32) = nI n from nI_pred n, hw, Option.bind_some]
    simp only [g_sI_ne (show ¬ (o = o + 4 ∧ 0 = n) by omega), t0]
    rw [show nI (n + 1) - (1 : Int32) = nI n from nI_pred n, hnn]
  · refine ⟨by rw [g_sI_ne (by omega), t0, hnn]; rfl, fun p hp => ?_⟩
    have hp' : p < n + 1 := by rw [hnn]; exact hp
    show gI _ (o + 1) p = nI (if p = n_n N then k else n_k N p) ∧ gI _ (o + 2) p = nI (if p = n_n N then f else n_f N p) ∧ gL _ (o + 3) p = lN (if p = n_n N then 0 else n_j N p) ∧ gI _ (o + 4) p = nI (wtv (if p = n_n N then k else n_k N p) (if p = n_n N then f else n_f N p) (pc (if p = n_n N then 0 else n_j N p)))
    rw [← hnn]
    by_cases e : p = n
    · subst e
      simp only [if_true]
      exact ⟨by rw [g_sI_ne (by omega)]; exact t1, by rw [g_sI_ne (by omega)]; exact t2, t3, g_sI_eq _ _ _ _⟩
    · simp only [if_neg e]
      obtain ⟨p1, p2, p3, p4⟩ := h.2 p (by omega)
      exact ⟨by rw [g_sI_ne (by omega), r1 p e]; exact p1, by rw [g_sI_ne (by omega), r2 p e]; exact p2, by rw [gL_sI, r3 p e]; exact p3, by rw [g_sI_ne (by omega), r4]; exact p4⟩
theorem mo_comes {σ : Sto} {N : Nt} (h : ModAt σ N) (wf : WfN N) {k f : Nat} (hn : n_n N < 40) :
    ∃ σ', f_Mo_comes (nI k) (nI f) σ = some (nI (n_n N), σ') ∧ ModAt σ' (addN N k f) ∧ FrMN σ σ' := by
  obtain ⟨n, hnn⟩ : ∃ n, n = n_n N := ⟨_, rfl⟩
  have h0 := h.1
  rw [← hnn] at h0 hn
  refine ⟨sI (sL (sI (sI σ 49 n (nI k)) 50 n (nI f)) 51 n (lN 0)) 48 0 (nI (n + 1)), ?_, ?_, FrMN.tr (FrMN.tr (FrMN.tr (FrMN.sI (by omega)) (FrMN.sI (by omega))) FrMN.sL) (FrMN.sI (by omega))⟩
  · unfold f_Mo_comes B_Mo_comes_0
    simp only [h0, g_sI_ne (show ¬ (48 = 49 ∧ 0 = n) by omega), g_sI_ne (show ¬ (48 = 50 ∧ 0 = n) by omega), gI_sL, inb_ok (show n < 40 by omega) (show 40 < 2 ^ 31 by decide), if_true, lt1_eq, nI_clamp (show n < 2 ^ 31 by omega), g_sI_eq, nI_1]
    rw [show (0 : Int64) = lN 0 from rfl, show nI (n + 1) - (1 : Int32) = nI n from nI_pred n, hnn]
  · refine ⟨by rw [g_sI_eq, hnn]; rfl, fun p hp => ?_⟩
    have hp' : p < n + 1 := by rw [hnn]; exact hp
    show gI _ 49 p = nI (if p = n_n N then k else n_k N p) ∧ gI _ 50 p = nI (if p = n_n N then f else n_f N p) ∧ gL _ 51 p = lN (if p = n_n N then 0 else n_j N p)
    rw [← hnn]
    by_cases e : p = n
    · subst e
      simp only [if_true]
      exact ⟨by rw [g_sI_ne (by omega), gI_sL, g_sI_ne (by omega), g_sI_eq], by rw [g_sI_ne (by omega), gI_sL, g_sI_eq], by rw [gL_sI, g_sL_eq]⟩
    · simp only [if_neg e]
      obtain ⟨p1, p2, p3⟩ := h.2 p (by omega)
      exact ⟨by rw [g_sI_ne (by omega), gI_sL, g_sI_ne (by omega), g_sI_ne (by omega)]; exact p1, by rw [g_sI_ne (by omega), gI_sL, g_sI_ne (by omega), g_sI_ne (by omega)]; exact p2, by rw [gL_sI, g_sL_ne (by omega), gL_sI, gL_sI]; exact p3⟩
theorem op_point (a0 : Int32) (b1 : Int32) : Op (f_FR_point a0 b1) (f_Mo_point a0 b1) := by
  refine Op.mk (fun A => if ptB a0 6 = true ∧ ptB b1 100 = true then (if n_n (s_N A) < 40 then nI (n_n (s_N A)) else -4) else -2) (fun A => if ptB a0 6 = true ∧ ptB b1 100 = true ∧ n_n (s_N A) < 40 then (addN (s_N A) a0.toInt.toNat b1.toInt.toNat, A.2) else A) (fun σ A wf h => ?_) (fun σ A wf h => ?_)
  · have hN := h.net
    have hn := wf.1.1
    unfold f_FR_point B_FR_point_0
    simp only [Option.bind_some, fr_isKind, fr_isFigure]
    cases h1 : ptB a0 6
    · exact ⟨σ, by simp [ite_bf], by simpa using wf, by simpa using h, fun _ _ _ => ⟨rfl, rfl⟩⟩
    cases h2 : ptB b1 100
    · exact ⟨σ, by simp [ite_bf, ite_bt], by simpa using wf, by simpa using h, fun _ _ _ => ⟨rfl, rfl⟩⟩
    obtain ⟨k, hk, rfl⟩ := ptB_of h1
    obtain ⟨v, hv, rfl⟩ := ptB_of h2
    simp only [ite_bt, and_self, if_true, nI_toInt (show k < 2 ^ 31 by omega), nI_toInt (show v < 2 ^ 31 by omega), Int.toNat_natCast, true_and]
    by_cases h3 : n_n (s_N A) < 40
    · obtain ⟨σ', e, hN', hf⟩ := nt_add hN wf.1 h3 hk hv
      refine ⟨σ', by simp [e, h3], ?_, ?_, hf.hi (by omega)⟩
      · rw [if_pos h3]; exact wf.netU (addN_wf wf.1 h3 hk hv)
      · rw [if_pos h3]; exact h.netU hN' hf
    · refine ⟨σ, ?_, by rw [if_neg h3]; exact wf, by rw [if_neg h3]; exact h, fun _ _ _ => ⟨rfl, rfl⟩⟩
      unfold f_Net_add B_Net_add_0
      rw [hN.1, if_neg (show ¬ (nI (n_n (s_N A)) < (40 : Int32)) from nI_nlt (b := 40) (by omega) (by omega)), if_neg h3]
      rfl
  · have hN := h.net
    have hn := wf.1.1
    unfold f_Mo_point B_Mo_point_0
    simp only [Option.bind_some, mo_rng (m := 5) (k := 5) (by decide +kernel), mo_rng (m := 99) (k := 99) (by decide +kernel)]
    cases h1 : ptB a0 (5 + 1)
    · exact ⟨σ, by simp [ite_bf, show ptB a0 6 = false from h1], by simpa [show ptB a0 6 = false from h1] using h, fun _ _ _ => ⟨rfl, rfl⟩⟩
    cases h2 : ptB b1 (99 + 1)
    · exact ⟨σ, by simp [ite_bf, ite_bt, show ptB b1 100 = false from h2], by simpa [show ptB b1 100 = false from h2] using h, fun _ _ _ => ⟨rfl, rfl⟩⟩
    obtain ⟨k, hk, rfl⟩ := ptB_of h1
    obtain ⟨v, hv, rfl⟩ := ptB_of h2
    simp only [ite_bt, show ptB (nI k) 6 = true from h1, show ptB (nI v) 100 = true from h2, and_self, if_true, nI_toInt (show k < 2 ^ 31 by omega), nI_toInt (show v < 2 ^ 31 by omega), Int.toNat_natCast, true_and, hN.1]
    have e40 : (nI (n_n (s_N A)) = (40 : Int32)) ↔ ¬ n_n (s_N A) < 40 := by
      rw [show (40 : Int32) = nI 40 from rfl, nI_eq (by omega) (by decide)]; omega
    simp only [e40]
    by_cases h3 : n_n (s_N A) < 40
    · obtain ⟨σ', e, hN', hf⟩ := mo_comes hN wf.1 (k := k) (f := v) h3
      refine ⟨σ', by simp [e, h3], ?_, hf.lo⟩
      rw [if_pos h3]; exact h.netU hN' hf
    · exact ⟨σ, by simp [h3], by rw [if_neg h3]; exact h, fun _ _ _ => ⟨rfl, rfl⟩⟩
