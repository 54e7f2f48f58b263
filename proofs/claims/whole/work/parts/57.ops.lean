/-! hold -/
def ptL (x : Int64) (n : Nat) : Bool := decide (0 ≤ x.toInt) && decide (x.toInt < (n : Int))
theorem ptL_of {x : Int64} {n : Nat} (h : ptL x n = true) (hn : n < 2 ^ 31) : ∃ p, p < n ∧ x = lN p := by
  unfold ptL at h
  rw [Bool.and_eq_true, decide_eq_true_eq, decide_eq_true_eq] at h
  refine ⟨x.toInt.toNat, by omega, Int64.toInt_inj.mp ?_⟩
  rw [lN_toInt (by omega)]; omega
theorem rng_ite' {R : Type} {x : Int32} {m : Nat} (hm : m < 2 ^ 31) (T1 T2 : R) : (if x < 0 then T1 else (if x ≤ nI m then T2 else T1)) = if ptB x (m + 1) = true then T2 else T1 := by
  have e0 : x < 0 ↔ x.toInt < 0 := by rw [Int32.lt_iff_toInt_lt, Int32.toInt_zero]
  have e1 : x ≤ nI m ↔ x.toInt ≤ (m : Int) := by rw [Int32.le_iff_toInt_le, nI_toInt hm]
  simp only [e0, e1, ptB, Bool.and_eq_true, decide_eq_true_eq]
  by_cases h1 : x.toInt < 0
  · rw [if_pos h1, if_neg (by omega)]
  · by_cases h2 : x.toInt ≤ (m : Int)
    · rw [if_neg h1, if_pos h2, if_pos (by omega)]
    · rw [if_neg h1, if_neg h2, if_neg (by omega)]
theorem rngL {x y : Int64} {m : Nat} (hy : y.toInt = (m : Int)) (σ : Sto) : (if x < (0 : Int64) then some (false, σ) else (if y ≤ x then some (false, σ) else some (true, σ))) = some (ptL x m, σ) := by
  have e0 : x < 0 ↔ x.toInt < 0 := by rw [Int64.lt_iff_toInt_lt, Int64.toInt_zero]
  have e1 : y ≤ x ↔ (m : Int) ≤ x.toInt := by rw [Int64.le_iff_toInt_le, hy]
  unfold ptL
  by_cases h1 : x.toInt < 0
  · rw [if_pos (e0.2 h1), decide_eq_false (show ¬ 0 ≤ x.toInt by omega), Bool.false_and]
  · rw [if_neg (fun z => h1 (e0.1 z)), decide_eq_true (show 0 ≤ x.toInt by omega), Bool.true_and]
    by_cases h2 : (m : Int) ≤ x.toInt
    · rw [if_pos (e1.2 h2), decide_eq_false (by omega)]
    · rw [if_neg (fun z => h2 (e1.1 z)), decide_eq_true (by omega)]
theorem nt_hasL {σ : Sto} {o : Nat} {N : Nt} (h : NetAt σ o N) (wf : WfN N) (x : Int64) : f_Net_has o x σ = some (ptL x (n_n N), σ) := by
  unfold f_Net_has B_Net_has_0
  have hn := wf.1
  exact rngL (by rw [h.1, Int32.toInt_toInt64, nI_toInt (by omega)]) σ
theorem fr_isRule (x : Int64) (σ : Sto) : f_FR_isRule x σ = some (ptL x 5, σ) := rngL (m := 5) (by decide +kernel) σ
theorem mo_inL {x y : Int64} {m : Nat} (hy : y.toInt = (m : Int) - 1) (σ : Sto) : f_Mo_in x 0 y σ = some (ptL x m, σ) := by
  rw [mo_in]
  unfold ptL
  congr 3
  · congr 1; apply propext; rw [Int64.le_iff_toInt_le, Int64.toInt_zero]
  · congr 1; apply propext; rw [Int64.le_iff_toInt_le, hy]; constructor <;> intro q <;> omega
theorem mo_predL {m : Nat} (hm : m < 2 ^ 31) : (Int32.toInt64 (nI m - 1)).toInt = (m : Int) - 1 := by
  rw [Int32.toInt_toInt64, fb_subI] <;> rw [nI_toInt hm, show (1 : Int32).toInt = 1 by decide +kernel] <;> omega
/-- what a hand becomes -/
def newH (N : Nt) (t : Nat) (v : Int64) : Nat × Int64 × Nat × Nat := if t = 1 then (1, v, n_k N v.toInt.toNat, n_f N v.toInt.toNat) else (t, v, 0, 0)
def okH (N : Nt) (x : Int32) (v : Int64) : Bool := ptB x 4 && (decide (x = 1) == false || ptL v (n_n N)) && (decide (x = 2) == false || ptL v 5)
theorem okH_1 (N : Nt) (v : Int64) : okH N (nI 1) v = ptL v (n_n N) := by
  unfold okH
  rw [show decide (nI 1 = 1) = true by decide +kernel, show decide (nI 1 = 2) = false by decide +kernel, show ptB (nI 1) 4 = true by decide +kernel]
  simp
theorem okH_2 (N : Nt) (v : Int64) : okH N (nI 2) v = ptL v 5 := by
  unfold okH
  rw [show decide (nI 2 = 1) = false by decide +kernel, show decide (nI 2 = 2) = true by decide +kernel, show ptB (nI 2) 4 = true by decide +kernel]
  simp
theorem okH_3 (N : Nt) {t : Nat} (v : Int64) (ht : t < 4) (t1 : t ≠ 1) (t2 : t ≠ 2) : okH N (nI t) v = true := by
  unfold okH
  rw [ptB_nI (by omega), decide_eq_true ht, decide_eq_false (show ¬ (nI t = (1 : Int32)) from fun z => t1 ((nI_eq (b := 1) (by omega) (by decide)).1 z)), decide_eq_false (show ¬ (nI t = (2 : Int32)) from fun z => t2 ((nI_eq (b := 2) (by omega) (by decide)).1 z))]
  rfl
theorem op_hold_c (a1 a2 : Int32) (a3 : Int64) (σ : Sto) (A : Ast) (wf : WfA A) (h : CSt σ A) : ∃ σ1, f_FR_hold a1 a2 a3 σ = some (if ptB a1 4 = true ∧ okH (s_N A) a2 a3 = true then nI (s_H A a1.toInt.toNat).1 else -2, σ1) ∧ WfA (if ptB a1 4 = true ∧ okH (s_N A) a2 a3 = true then setH A a1.toInt.toNat (newH (s_N A) a2.toInt.toNat a3) else A) ∧ CSt σ1 (if ptB a1 4 = true ∧ okH (s_N A) a2 a3 = true then setH A a1.toInt.toNat (newH (s_N A) a2.toInt.toNat a3) else A) ∧ HiEq σ σ1 := by
  have hn := wf.1.1
  have bad : ∀ {P : Prop} [Decidable P], ¬ P → f_FR_hold a1 a2 a3 σ = some (-2, σ) → ∃ σ1, f_FR_hold a1 a2 a3 σ = some (if P then nI (s_H A a1.toInt.toNat).1 else -2, σ1) ∧ WfA (if P then setH A a1.toInt.toNat (newH (s_N A) a2.toInt.toNat a3) else A) ∧ CSt σ1 (if P then setH A a1.toInt.toNat (newH (s_N A) a2.toInt.toNat a3) else A) ∧ HiEq σ σ1 := fun hP e =>
    ⟨σ, by rw [if_neg hP]; exact e, by rw [if_neg hP]; exact wf, by rw [if_neg hP]; exact h, fun _ _ _ => ⟨rfl, rfl⟩⟩
  have e : f_FR_hold a1 a2 a3 σ = (if b2i (ptB a1 4) = 0 then some (-2, σ) else (if ptB a2 4 = true then (if a2 = 1 then (if b2i (ptL a3 (n_n (s_N A))) = 0 then some (-2, σ) else (if a2 = 2 then (if b2i (ptL a3 5) = 0 then some (-2, σ) else B_FR_hold_50 a1 a2 a3 σ) else B_FR_hold_50 a1 a2 a3 σ)) else (if a2 = 2 then (if b2i (ptL a3 5) = 0 then some (-2, σ) else B_FR_hold_50 a1 a2 a3 σ) else B_FR_hold_50 a1 a2 a3 σ)) else some (-2, σ))) := by
    unfold f_FR_hold B_FR_hold_0
    simp only [fr_isHand, Option.bind_some, nt_hasL h.net wf.1, fr_isRule]
    rw [show (3 : Int32) = nI 3 from rfl, rng_ite' (by decide)]
  cases h1 : ptB a1 4
  · exact bad (by simp) (by rw [e, h1]; rfl)
  cases h2 : ptB a2 4
  · exact bad (by simp [okH, h2]) (by rw [e, h1, h2]; rfl)
  rw [h1, h2, ite_bt, if_pos rfl] at e
  obtain ⟨q, hq, rfl⟩ := ptB_of h1
  obtain ⟨t, ht, rfl⟩ := ptB_of h2
  obtain ⟨a1', a2', a3'⟩ := h.2.2.2.2.2 q hq
  have good : ∀ {P : Prop} [Decidable P], P → t ≠ 1 → (t = 2 → ptL a3 5 = true) → f_FR_hold (nI q) (nI t) a3 σ = B_FR_hold_50 (nI q) (nI t) a3 σ → ∃ σ1, f_FR_hold (nI q) (nI t) a3 σ = some (if P then nI (s_H A (nI q).toInt.toNat).1 else -2, σ1) ∧ WfA (if P then setH A (nI q).toInt.toNat (newH (s_N A) (nI t).toInt.toNat a3) else A) ∧ CSt σ1 (if P then setH A (nI q).toInt.toNat (newH (s_N A) (nI t).toInt.toNat a3) else A) ∧ HiEq σ σ1 := fun hP t1 t2 e => by
    simp only [if_pos hP, nI_toInt (show q < 2 ^ 31 by omega), nI_toInt (show t < 2 ^ 31 by omega), Int.toNat_natCast]
    have hN : newH (s_N A) t a3 = (t, a3, 0, 0) := if_neg t1
    rw [hN]
    refine ⟨sL (sI σ (44 + q) 0 (nI t)) (44 + q) 1 a3, ?_, setH_wf wf ⟨ht, fun z => absurd z t1, fun z => ptL_of (t2 z) (by decide)⟩, h.hdU (fun c j hc => ⟨by rw [gI_sL, g_sI_ne (by omega)], by rw [g_sL_ne (by omega)]; rfl⟩) hq (by rw [gI_sL, g_sI_eq]) (fun z => absurd z t1) (fun _ => g_sL_eq _ _ _ _), fun c j hc => ⟨by rw [gI_sL, g_sI_ne (by omega)], by rw [g_sL_ne (by omega)]; rfl⟩⟩
    rw [e]
    unfold B_FR_hold_50
    simp only [inb_ok (show q < 4 by omega) (show 4 < 2 ^ 31 by decide), if_true, nI_clamp (show q < 2 ^ 31 by omega), lt1_eq, a1', show (1 : Int32) = nI 1 from rfl, nI_eq (show t < 2 ^ 31 by omega) (show 1 < 2 ^ 31 by decide), if_neg t1]
  by_cases t1 : t = 1
  · subst t1
    rw [if_pos (show nI 1 = 1 from rfl), if_neg (show ¬ nI 1 = 2 by decide +kernel)] at e
    cases h3 : ptL a3 (n_n (s_N A))
    · exact bad (by rw [okH_1, h3]; simp) (by rw [e, h3]; rfl)
    obtain ⟨p, hp, rfl⟩ := ptL_of h3 (by omega)
    rw [h3, ite_bt] at e
    have hP : okH (s_N A) (nI 1) (lN p) = true := by rw [okH_1]; exact h3
    obtain ⟨p1, p2, p3, p4⟩ := h.net.2 p hp
    obtain ⟨w1, w2, w3, w4, w5⟩ := wf.1.2 p hp
    simp only [hP, and_self, if_true, nI_toInt (show q < 2 ^ 31 by omega), nI_toInt (show 1 < 2 ^ 31 by omega), Int.toNat_natCast]
    have hN : newH (s_N A) 1 (lN p) = (1, lN p, n_k (s_N A) p, n_f (s_N A) p) := by
      unfold newH; rw [if_pos rfl, lN_toInt (by omega), Int.toNat_natCast]
    rw [hN]
    refine ⟨sI (sI (sL (sI σ (44 + q) 0 (nI 1)) (44 + q) 1 (lN p)) (44 + q) 2 (nI (n_k (s_N A) p))) (44 + q) 3 (nI (n_f (s_N A) p)), ?_, setH_wf wf ⟨show 1 < 4 by decide, fun _ => ⟨w1, w2⟩, fun z => absurd z (show ¬ (1 = 2) by decide)⟩, h.hdU (fun c j hc => ⟨by rw [g_sI_ne (by omega), g_sI_ne (by omega), gI_sL, g_sI_ne (by omega)], by rw [gL_sI, gL_sI, g_sL_ne (by omega)]; rfl⟩) hq (by rw [g_sI_ne (by omega), g_sI_ne (by omega), gI_sL, g_sI_eq]) (fun _ => ⟨by rw [g_sI_ne (by omega), g_sI_eq], by rw [g_sI_eq]⟩) (fun z => absurd z (show ¬ (2 ≤ 1) by decide)), fun c j hc => ⟨by rw [g_sI_ne (by omega), g_sI_ne (by omega), gI_sL, g_sI_ne (by omega)], by rw [gL_sI, gL_sI, g_sL_ne (by omega)]; rfl⟩⟩
    rw [e]
    unfold B_FR_hold_50
    simp only [inb_ok (show q < 4 by omega) (show 4 < 2 ^ 31 by decide), if_true, nI_clamp (show q < 2 ^ 31 by omega), lt1_eq, a1', if_pos (show nI 1 = 1 from rfl), lN_i, inb_ok (show p < 40 by omega) (show 40 < 2 ^ 31 by decide), nI_clamp (show p < 2 ^ 31 by omega), gI_sL]
    rw [g_sI_ne (show ¬ (2 = 44 + q ∧ p = 0) by omega), g_sI_ne (show ¬ (3 = 44 + q ∧ p = 2) by omega), gI_sL, g_sI_ne (show ¬ (3 = 44 + q ∧ p = 0) by omega), show gI σ 2 p = _ from p1, show gI σ 3 p = _ from p2]
  · rw [if_neg (show ¬ (nI t = (1 : Int32)) from fun z => t1 ((nI_eq (b := 1) (by omega) (by decide)).1 z))] at e
    by_cases t2 : t = 2
    · subst t2
      rw [if_pos (show nI 2 = 2 from rfl)] at e
      cases h3 : ptL a3 5
      · exact bad (by rw [okH_2, h3]; simp) (by rw [e, h3]; rfl)
      · rw [h3, ite_bt] at e
        exact good ⟨rfl, by rw [okH_2]; exact h3⟩ t1 (fun _ => h3) e
    · rw [if_neg (show ¬ (nI t = (2 : Int32)) from fun z => t2 ((nI_eq (b := 2) (by omega) (by decide)).1 z))] at e
      exact good ⟨rfl, okH_3 _ _ ht t1 t2⟩ t1 (fun z => absurd z t2) e
theorem op_hold_m (a1 a2 : Int32) (a3 : Int64) (σ : Sto) (A : Ast) (wf : WfA A) (h : MSt σ A) : ∃ σ1, f_Mo_hold a1 a2 a3 σ = some (if ptB a1 4 = true ∧ okH (s_N A) a2 a3 = true then nI (s_H A a1.toInt.toNat).1 else -2, σ1) ∧ MSt σ1 (if ptB a1 4 = true ∧ okH (s_N A) a2 a3 = true then setH A a1.toInt.toNat (newH (s_N A) a2.toInt.toNat a3) else A) ∧ LoEq σ σ1 := by
  have hn := wf.1.1
  have bad : ∀ {P : Prop} [Decidable P], ¬ P → f_Mo_hold a1 a2 a3 σ = some (-2, σ) → ∃ σ1, f_Mo_hold a1 a2 a3 σ = some (if P then nI (s_H A a1.toInt.toNat).1 else -2, σ1) ∧ MSt σ1 (if P then setH A a1.toInt.toNat (newH (s_N A) a2.toInt.toNat a3) else A) ∧ LoEq σ σ1 := fun hP e =>
    ⟨σ, by rw [if_neg hP]; exact e, by rw [if_neg hP]; exact h, fun _ _ _ => ⟨rfl, rfl⟩⟩
  have e : f_Mo_hold a1 a2 a3 σ = (if b2i (ptB a1 4) = 0 then some (-2, σ) else (if b2i (ptB a2 4) = 0 then some (-2, σ) else (if a2 = 1 then (if b2i (ptL a3 (n_n (s_N A))) = 0 then some (-2, σ) else (if a2 = 2 then (if b2i (ptL a3 5) = 0 then some (-2, σ) else B_Mo_hold_58 a1 a2 a3 σ) else B_Mo_hold_58 a1 a2 a3 σ)) else (if a2 = 2 then (if b2i (ptL a3 5) = 0 then some (-2, σ) else B_Mo_hold_58 a1 a2 a3 σ) else B_Mo_hold_58 a1 a2 a3 σ)))) := by
    unfold f_Mo_hold B_Mo_hold_0
    simp only [mo_isHand, Option.bind_some, mo_rng (m := 3) (k := 3) (by decide +kernel), h.net.1, mo_inL (mo_predL (show n_n (s_N A) < 2 ^ 31 by omega)), mo_inL (x := a3) (y := 4) (m := 5) (by decide +kernel)]
  cases h1 : ptB a1 4
  · exact bad (by simp) (by rw [e, h1]; rfl)
  cases h2 : ptB a2 4
  · exact bad (by simp [okH, h2]) (by rw [e, h1, h2]; rfl)
  rw [h1, h2, ite_bt, ite_bt] at e
  obtain ⟨q, hq, rfl⟩ := ptB_of h1
  obtain ⟨t, ht, rfl⟩ := ptB_of h2
  obtain ⟨a1', a2', a3'⟩ := h.2.2.2.2.2 q hq
  have good : ∀ {P : Prop} [Decidable P], P → t ≠ 1 → f_Mo_hold (nI q) (nI t) a3 σ = B_Mo_hold_58 (nI q) (nI t) a3 σ → ∃ σ1, f_Mo_hold (nI q) (nI t) a3 σ = some (if P then nI (s_H A (nI q).toInt.toNat).1 else -2, σ1) ∧ MSt σ1 (if P then setH A (nI q).toInt.toNat (newH (s_N A) (nI t).toInt.toNat a3) else A) ∧ LoEq σ σ1 := fun hP t1 e => by
    simp only [if_pos hP, nI_toInt (show q < 2 ^ 31 by omega), nI_toInt (show t < 2 ^ 31 by omega), Int.toNat_natCast]
    have hN : newH (s_N A) t a3 = (t, a3, 0, 0) := if_neg t1
    rw [hN]
    refine ⟨sI (sL (sI σ 66 q (nI t)) 67 q a3) 68 q 0, ?_, h.hdU (fun c j x y => by rw [g_sI_ne (by omega), gI_sL, g_sI_ne (by omega)]) (fun c j x => by rw [gL_sI, g_sL_ne (by omega)]; rfl) (by rw [g_sI_ne (by omega), gI_sL, g_sI_eq]) (fun z => absurd z t1) (fun _ => by rw [gL_sI, g_sL_eq]), fun c j hc => ⟨by rw [g_sI_ne (by omega), gI_sL, g_sI_ne (by omega)], by rw [gL_sI, g_sL_ne (by omega)]; rfl⟩⟩
    rw [e]
    unfold B_Mo_hold_58
    simp only [inb_ok (show q < 4 by omega) (show 4 < 2 ^ 31 by decide), if_true, nI_clamp (show q < 2 ^ 31 by omega), lt1_eq, a1', if_neg (show ¬ (nI t = (1 : Int32)) from fun z => t1 ((nI_eq (b := 1) (by omega) (by decide)).1 z))]
  by_cases t1 : t = 1
  · subst t1
    rw [if_pos (show nI 1 = 1 from rfl), if_neg (show ¬ nI 1 = 2 by decide +kernel)] at e
    cases h3 : ptL a3 (n_n (s_N A))
    · exact bad (by rw [okH_1, h3]; simp) (by rw [e, h3]; rfl)
    obtain ⟨p, hp, rfl⟩ := ptL_of h3 (by omega)
    rw [h3, ite_bt] at e
    have hP : okH (s_N A) (nI 1) (lN p) = true := by rw [okH_1]; exact h3
    obtain ⟨p1, p2, p3⟩ := h.net.2 p hp
    obtain ⟨w1, w2, w3, w4, w5⟩ := wf.1.2 p hp
    simp only [hP, and_self, if_true, nI_toInt (show q < 2 ^ 31 by omega), nI_toInt (show 1 < 2 ^ 31 by omega), Int.toNat_natCast]
    have hN : newH (s_N A) 1 (lN p) = (1, lN p, n_k (s_N A) p, n_f (s_N A) p) := by
      unfold newH; rw [if_pos rfl, lN_toInt (by omega), Int.toNat_natCast]
    rw [hN]
    refine ⟨sI (sL (sI σ 66 q (nI 1)) 67 q (lN (n_f (s_N A) p))) 68 q (nI (n_k (s_N A) p)), ?_, h.hdU (fun c j x y => by rw [g_sI_ne (by omega), gI_sL, g_sI_ne (by omega)]) (fun c j x => by rw [gL_sI, g_sL_ne (by omega)]; rfl) (by rw [g_sI_ne (by omega), gI_sL, g_sI_eq]) (fun _ => ⟨by rw [g_sI_eq], by rw [gL_sI, g_sL_eq]⟩) (fun z => absurd z (show ¬ (2 ≤ 1) by decide)), fun c j hc => ⟨by rw [g_sI_ne (by omega), gI_sL, g_sI_ne (by omega)], by rw [gL_sI, g_sL_ne (by omega)]; rfl⟩⟩
    rw [e]
    unfold B_Mo_hold_58
    simp only [inb_ok (show q < 4 by omega) (show 4 < 2 ^ 31 by decide), if_true, nI_clamp (show q < 2 ^ 31 by omega), lt1_eq, a1', if_pos (show nI 1 = 1 from rfl), lN_i, inb_ok (show p < 40 by omega) (show 40 < 2 ^ 31 by decide), nI_clamp (show p < 2 ^ 31 by omega), gI_sL]
    rw [g_sI_ne (show ¬ (50 = 66 ∧ p = q) by omega), g_sI_ne (show ¬ (49 = 66 ∧ p = q) by omega), p1, p2, nI_l (by omega)]
  · rw [if_neg (show ¬ (nI t = (1 : Int32)) from fun z => t1 ((nI_eq (b := 1) (by omega) (by decide)).1 z))] at e
    by_cases t2 : t = 2
    · subst t2
      rw [if_pos (show nI 2 = 2 from rfl)] at e
      cases h3 : ptL a3 5
      · exact bad (by rw [okH_2, h3]; simp) (by rw [e, h3]; rfl)
      · rw [h3, ite_bt] at e
        exact good ⟨rfl, by rw [okH_2]; exact h3⟩ t1 e
    · rw [if_neg (show ¬ (nI t = (2 : Int32)) from fun z => t2 ((nI_eq (b := 2) (by omega) (by decide)).1 z))] at e
      exact good ⟨rfl, okH_3 _ _ ht t1 t2⟩ t1 e
theorem op_hold (a0 : Int32) (b1 : Int32) (c2 : Int64) : Op (f_FR_hold a0 b1 c2) (f_Mo_hold a0 b1 c2) :=
  Op.mk _ _ (fun σ A wf h => op_hold_c a0 b1 c2 σ A wf h) (fun σ A wf h => op_hold_m a0 b1 c2 σ A wf h)
