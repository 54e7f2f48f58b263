/-! prove: the reference's recursion, and the call -/
def OtM (σ : Sto) (O : Ot) : Prop := gI σ 48 21 = nI O.1 ∧ ∀ i, i < O.1 → gI σ 61 i = O.2 i
def kP (c j : Nat) : Bool := kL c j && !(decide (c = 48) && decide (j = 21) || decide (c = 61))
theorem kP_t {c j : Nat} (h : kL c j = true) (h2 : ¬ (c = 48 ∧ j = 21) ∧ c ≠ 61) : kP c j = true := by
  unfold kP
  rw [h]
  simp only [Bool.true_and, Bool.not_eq_true', Bool.or_eq_false_iff, Bool.and_eq_false_iff, decide_eq_false_iff_not]
  omega
theorem kP_f {c j : Nat} (h : (c = 48 ∧ j = 21) ∨ c = 61) : kP c j = false := by
  unfold kP
  have : (decide (c = 48) && decide (j = 21) || decide (c = 61)) = true := by
    simp only [Bool.or_eq_true, Bool.and_eq_true, decide_eq_true_eq]; exact h
  rw [this]; simp
theorem kP_kL {c j : Nat} (h : kP c j = true) : kL c j = true := by
  unfold kP at h
  rw [Bool.and_eq_true] at h
  exact h.1
theorem Scr.kLP {σ σ' : Sto} (hs : Scr kL σ σ') : Scr kP σ σ' := fun c j h => hs c j (kP_kL h)
theorem Scr.kPM {σ σ' : Sto} (hs : Scr kP σ σ') : Scr kM σ σ' := fun c j h => hs c j (by
  have h2 := h
  revert h2
  unfold kM
  simp only [Bool.or_eq_true, Bool.and_eq_true, decide_eq_true_eq]
  intro h2
  exact kP_t (kL_t (by omega)) (by omega))
theorem ModAt.kP {σ σ' : Sto} {N : Nt} (h : ModAt σ N) (hs : Scr kP σ σ') : ModAt σ' N :=
  ⟨by rw [(hs 48 0 (kP_t (kL_t (by omega)) (by omega))).1]; exact h.1, fun p hp => by
    obtain ⟨a1, a2, a3⟩ := h.2 p hp
    exact ⟨by rw [(hs 49 p (kP_t (kL_t (by omega)) (by omega))).1]; exact a1, by rw [(hs 50 p (kP_t (kL_t (by omega)) (by omega))).1]; exact a2, by rw [(hs 51 p (kP_t (kL_t (by omega)) (by omega))).2]; exact a3⟩⟩
theorem OtM.kL {σ σ' : Sto} {O : Ot} (h : OtM σ O) (hs : Scr kL σ σ') : OtM σ' O :=
  ⟨by rw [(hs 48 21 (kL_t (by omega))).1]; exact h.1, fun i hi => by rw [(hs 61 i (kL_t (by omega))).1]; exact h.2 i hi⟩
theorem OtM.ap {σ : Sto} {O : Ot} (h : OtM σ O) (v : Int32) : OtM (sI (sI σ 48 21 (nI (O.1 + 1))) 61 O.1 v) (apO O v) :=
  ⟨by rw [g_sI_ne (by omega), g_sI_eq]; rfl, fun i hi => by
    have hi' : i < O.1 + 1 := hi
    show _ = if i = O.1 then v else O.2 i
    by_cases e : i = O.1
    · rw [if_pos e, e, g_sI_eq]
    · rw [if_neg e, g_sI_ne (by omega), g_sI_ne (by omega)]; exact h.2 i (by omega)⟩
theorem OtM.re {σ : Sto} {O : Ot} {a : Int32} (h : OtM σ (apO O a)) (v : Int32) : OtM (sI σ 61 O.1 v) (apO O v) :=
  ⟨by rw [g_sI_ne (by omega)]; exact h.1, fun i hi => by
    have hi' : i < O.1 + 1 := hi
    show _ = if i = O.1 then v else O.2 i
    by_cases e : i = O.1
    · rw [if_pos e, e, g_sI_eq]
    · rw [if_neg e, g_sI_ne (by omega)]
      have := h.2 i hi
      rw [show (apO O a).2 i = (if i = O.1 then a else O.2 i) from rfl, if_neg e] at this
      exact this⟩
theorem mo_proves {N : Nt} (wf : WfN N) {r s m k : Nat} (hr : r < 5) (hs : s < 2) (hm : m < 2) (hk : k < 2 ^ 31) : ∀ (g w c f : Nat) (O : Ot) (σ : Sto), pc w < g → w < 2 ^ n_n N → c + 300 * pc w ≤ 19200 → f + O.1 = 201 → O.1 ≤ 200 → ModAt σ N → OtM σ O →
    ∃ (why : Int32) (σ' : Sto) (O' : Ot) (f' : Nat), f_Mo_proves g (nI r) (nI s) (nI m) (nI k) (lN w) (nI c) σ = some (why, σ') ∧ OtM σ' O' ∧ f' + O'.1 = 201 ∧ O'.1 ≤ 200 ∧ Scr kP σ σ' ∧ (∀ st, why = 0 → pvM N r s m k f ((w, c) :: st) O = pvM N r s m k f' st O') ∧ (∀ st, why ≠ 0 → (pvM N r s m k f ((w, c) :: st) O).1 = why) := by
  intro g
  have hn := wf.1
  induction g with
  | zero => intro w c f O σ h; omega
  | succ g ih =>
    intro w c f O σ hg hw hc hf hO h hot
    obtain ⟨f, rfl⟩ : ∃ x, f = x + 1 := ⟨f - 1, by omega⟩
    have hw64 := lt64 wf hw
    have e200 : (gI σ 48 21 = (200 : Int32)) ↔ O.1 = 200 := by rw [hot.1, show (200 : Int32) = nI 200 from rfl, nI_eq (by omega) (by decide)]
    by_cases e : O.1 = 200
    · refine ⟨-5, σ, O, f + 1, ?_, hot, hf, hO, Scr.rf, fun st z => absurd z (by decide +kernel), fun st _ => by rw [pvM_c, if_pos e]⟩
      show B_Mo_proves_0 (f_Mo_proves g) _ _ _ _ _ _ _ = _
      unfold B_Mo_proves_0
      rw [if_pos (e200.2 e)]
    · obtain ⟨τ, hτ⟩ : ∃ τ, τ = sI (sI σ 48 21 (nI (O.1 + 1))) 61 O.1 (-1) := ⟨_, rfl⟩
      have hot1 : OtM τ (apO O (-1)) := by rw [hτ]; exact hot.ap (-1)
      have hsτ : Scr kP σ τ := by rw [hτ]; exact (Scr.sI (kP_f (by omega))).tr (Scr.sI (kP_f (by omega)))
      have hMτ := h.kP hsτ
      obtain ⟨σ1, e1, r1⟩ := mo_boundOf hMτ wf hr hs hm hw
      have hb := bndN_le wf r s m w
      have hM1 := hMτ.kL r1
      have e0 : f_Mo_proves (g + 1) (nI r) (nI s) (nI m) (nI k) (lN w) (nI c) σ = (if k < c + bndN N r s m w then (if w = 0 then some (-1, σ1) else ((f_Mo_lines (nI s) (lN w) σ1).bind fun q3 => (if inb ((gI q3.2 48 10) - (1 : Int32)) 40 = true then (lt1 (gI q3.2 55 (Int32.toNatClampNeg ((gI q3.2 48 10) - (1 : Int32)))) fun x4 => ((f_Mo_fits (nI s) x4 (lN w) (sI q3.2 61 O.1 x4)).bind fun q5 => ((f_Mo_worth (nI m) x4 q5.2).bind fun q6 => ((f_Mo_proves g (nI r) (nI s) (nI m) (nI k) q5.1 (nI c + q6.1) q6.2).bind fun q7 => (if q7.1 = 0 then ((f_Mo_bit x4 q7.2).bind fun q8 => ((f_Mo_proves g (nI r) (nI s) (nI m) (nI k) (lN w &&& (q8.1 ^^^ (-1 : Int64))) (nI c) q8.2).bind fun q9 => some (q9.1, q9.2))) else some (q7.1, q7.2)))))) else none))) else some (0, σ1)) := by
        show B_Mo_proves_0 (f_Mo_proves g) _ _ _ _ _ _ _ = _
        unfold B_Mo_proves_0
        rw [if_neg (fun z => e (e200.1 z)), hot.1]
        simp only [inb_ok (show O.1 < 200 by omega) (show 200 < 2 ^ 31 by decide), if_true, nI_clamp (show O.1 < 2 ^ 31 by omega), lt1_eq, nI_1, ← hτ, e1, Option.bind_some, nI_add, nI_ltI hk (show c + bndN N r s m w < 2 ^ 31 by omega), lN_eq0 hw64]
      by_cases e2 : c + bndN N r s m w ≤ k
      · refine ⟨0, σ1, apO O (-1), f, ?_, hot1.kL r1, show f + (O.1 + 1) = 201 by omega, show O.1 + 1 ≤ 200 by omega, hsτ.tr r1.kLP, fun st _ => by rw [pvM_c, if_neg e, if_pos e2], fun st z => absurd rfl z⟩
        rw [e0, if_neg (by omega)]
      by_cases e3 : w = 0
      · refine ⟨-1, σ1, apO O (-1), f, ?_, hot1.kL r1, show f + (O.1 + 1) = 201 by omega, show O.1 + 1 ≤ 200 by omega, hsτ.tr r1.kLP, fun st z => absurd z (by decide +kernel), fun st _ => by rw [pvM_c, if_neg e, if_neg e2, if_pos e3]⟩
        rw [e0, if_pos (by omega), if_pos e3]
      · obtain ⟨l1, l2, l3⟩ := lsP_ok (s := s) hw e3
        obtain ⟨σ2, e4, hr2, r2⟩ := mo_lines hM1 wf hs hw
        have hl := ordL_len N s 40 w
        generalize hp : lsP N s w = p at *
        have hrow : gI σ2 55 ((ordL N s 40 w).length - 1) = nI p := by rw [hr2.2.2 _ (by omega), ← hp]; rfl
        have hM2 := hM1.kL r2
        have hot2 : OtM (sI σ2 61 O.1 (nI p)) (apO O (nI p)) := OtM.re ((hot1.kL r1).kL r2) (nI p)
        have hs3 : Scr kP σ2 (sI σ2 61 O.1 (nI p)) := Scr.sI (kP_f (by omega))
        have hM3 := hM2.kP hs3
        have hsA := ((hsτ.tr r1.kLP).tr r2.kLP).tr hs3
        have a1 := fit_pc (s := s) wf l1 l2
        have a2 := pc_nd (w := w) (b := p) (by omega) l2
        have a3 := mea1_lt wf (m := m) l1
        obtain ⟨why, σ4, O4, f4, e5, p1, p2, p3, p4, p5, p6⟩ := ih (fit N s p w) (c + mea1 N m p) f (apO O (nI p)) (sI σ2 61 O.1 (nI p)) (by omega) (fit_lt hw) (by omega) (show f + (O.1 + 1) = 201 by omega) (show O.1 + 1 ≤ 200 by omega) hM3 hot2
        have em : ∀ st, pvM N r s m k (f + 1) ((w, c) :: st) O = pvM N r s m k f ((fit N s p w, c + mea1 N m p) :: (nd w (2 ^ p), c) :: st) (apO O (nI p)) := fun st => by rw [pvM_c, if_neg e, if_neg e2, if_neg e3, ← hp]
        have e0' : f_Mo_proves (g + 1) (nI r) (nI s) (nI m) (nI k) (lN w) (nI c) σ = (if why = 0 then ((f_Mo_proves g (nI r) (nI s) (nI m) (nI k) (lN (nd w (2 ^ p))) (nI c) σ4).bind fun q9 => some (q9.1, q9.2)) else some (why, σ4)) := by
          obtain ⟨n, hnn⟩ : ∃ n, (ordL N s 40 w).length = n + 1 := ⟨(ordL N s 40 w).length - 1, by omega⟩
          rw [hnn, Nat.add_sub_cancel] at hrow
          rw [e0, if_pos (by omega), if_neg e3, e4, Option.bind_some, hr2.1, hnn, show nI (n + 1) - (1 : Int32) = nI n from nI_pred n]
          simp only [inb_ok (show n < 40 by omega) (show 40 < 2 ^ 31 by decide), if_true, nI_clamp (show n < 2 ^ 31 by omega), lt1_eq, hrow, mo_fits hM3 wf hs l1 hw64, Option.bind_some, mo_worth hM3 wf hm l1, nI_add, e5, bit_eq (show p < 64 by omega), lN_nd hw64]
        by_cases hy : why = 0
        · obtain ⟨why2, σ5, O5, f5, e6, t1, t2, t3, t4, t5, t6⟩ := ih (nd w (2 ^ p)) c f4 O4 σ4 (by omega) (nd_lt hw) (by omega) p2 p3 (hM3.kP p4) p1
          refine ⟨why2, σ5, O5, f5, ?_, t1, t2, t3, (hsA.tr p4).tr t4, fun st z => ?_, fun st z => ?_⟩
          · rw [e0', if_pos hy, e6, Option.bind_some]
          · rw [em, p5 _ hy, t5 st z]
          · rw [em, p5 _ hy, t6 st z]
        · refine ⟨why, σ4, O4, f4, ?_, p1, p2, p3, hsA.tr p4, fun st z => absurd z hy, fun st _ => ?_⟩
          · rw [e0', if_neg hy]
          · rw [em, p6 _ hy]
