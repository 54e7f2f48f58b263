/-! check: the same machine over a row -/
def ckM (N : Nt) (r s m k : Nat) (g : Nat → Int32) : Nat → List (Nat × Nat) → Nat → Int32
  | 0, [], _ => -1
  | 0, _ :: _, i => nI i
  | _ + 1, [], i => nI i
  | f + 1, x :: st, i => if ptB (g i) (n_n N) = true ∧ x.1.testBit (g i).toInt.toNat = true then ckM N r s m k g f ((fit N s (g i).toInt.toNat x.1, x.2 + mea1 N m (g i).toInt.toNat) :: (nd x.1 (2 ^ (g i).toInt.toNat), x.2) :: st) (i + 1) else if g i = -1 ∧ x.2 + bndN N r s m x.1 ≤ k then ckM N r s m k g f st (i + 1) else nI i
theorem ckM_c (N : Nt) (r s m k : Nat) (g : Nat → Int32) (f : Nat) (x : Nat × Nat) (st : List (Nat × Nat)) (i : Nat) : ckM N r s m k g (f + 1) (x :: st) i = if ptB (g i) (n_n N) = true ∧ x.1.testBit (g i).toInt.toNat = true then ckM N r s m k g f ((fit N s (g i).toInt.toNat x.1, x.2 + mea1 N m (g i).toInt.toNat) :: (nd x.1 (2 ^ (g i).toInt.toNat), x.2) :: st) (i + 1) else if g i = -1 ∧ x.2 + bndN N r s m x.1 ≤ k then ckM N r s m k g f st (i + 1) else nI i := rfl
theorem ptB_neg (n : Nat) : ptB (-1) n = false := by
  unfold ptB
  rw [show (-1 : Int32).toInt = -1 by decide +kernel]
  simp
theorem sh_at {σ : Sto} {o L i : Nat} (h : gI σ o 1 = nI L) (hL : L ≤ 60) (hi : i < 2 ^ 31) : f_Sheet_at o (nI i) σ = some (if i < L then gI σ (o + 1) i else -1, σ) := by
  unfold f_Sheet_at B_Sheet_at_0
  rw [sh_room h hL, Option.bind_some, roomB_1, ptB_nI hi]
  by_cases hlt : i < L
  · simp only [decide_eq_true hlt, ite_bt, if_pos hlt, inb_ok (show i < 60 by omega) (show 60 < 2 ^ 31 by decide), if_true, nI_clamp hi]
  · simp only [decide_eq_false hlt, ite_bf, if_neg hlt]
theorem ck_loop {N : Nt} (wf : WfN N) {r s m k q L : Nat} {g : Nat → Int32} (hr : r < 5) (hs : s < 2) (hm : m < 2) (hk : k < 2 ^ 31) (hq : q < 4) (hL : L ≤ 60) : ∀ (f fu i : Nat) (st : List (Nat × Nat)) (σ : Sto), f + i = L → f < fu → NetAt σ 1 N → gI σ 21 7 = nI st.length → StkR σ st → StOk N st → gI σ (36 + 2 * q) 1 = nI L → (∀ j, j < L → gI σ (37 + 2 * q) j = g j) →
    ∃ σ', L_Prover_firstFault_15 fu (36 + 2 * q) (nI r) (nI s) (nI m) (nI k) (nI i) σ = some (ckM N r s m k g f st i, σ') ∧ Scr kB σ σ' := by
  intro f
  have hn := wf.1
  induction f with
  | zero =>
    intro fu i st σ hf hfu hN hp hR hok h1 h2
    obtain ⟨fu, rfl⟩ : ∃ z, fu = z + 1 := ⟨fu - 1, by omega⟩
    refine ⟨σ, ?_, Scr.rf⟩
    show B_Prover_firstFault_15 (L_Prover_firstFault_15 fu) _ _ _ _ _ _ _ = _
    unfold B_Prover_firstFault_15
    rw [h1, if_pos (nI_le (by omega) (by omega)), hp]
    cases st with
    | nil => rw [if_pos (show nI ([] : List (Nat × Nat)).length = (0 : Int32) from rfl)]; rfl
    | cons x st =>
      have hlen : st.length ≤ 40 := by have := hok.2.1; omega
      rw [if_neg (show ¬ nI (x :: st).length = (0 : Int32) from nI_ne0 (by rw [List.length_cons]; omega) (by rw [List.length_cons]; omega)), show L = i by omega]; rfl
  | succ f ih =>
    intro fu i st σ hf hfu hN hp hR hok h1 h2
    obtain ⟨fu, rfl⟩ : ∃ z, fu = z + 1 := ⟨fu - 1, by omega⟩
    cases st with
    | nil =>
      refine ⟨σ, ?_, Scr.rf⟩
      show B_Prover_firstFault_15 (L_Prover_firstFault_15 fu) _ _ _ _ _ _ _ = _
      unfold B_Prover_firstFault_15
      rw [h1, if_neg (nI_ge (by omega) (by omega)), hp, if_pos (show nI ([] : List (Nat × Nat)).length = (0 : Int32) from rfl)]; rfl
    | cons x st =>
      rw [ckM_c]
      have hlen : st.length ≤ 40 := by have := hok.2.1; omega
      have hp1 : gI σ 21 7 = nI (st.length + 1) := hp
      have hok' := hok
      obtain ⟨o1, o2, o3, o4⟩ := hok
      obtain ⟨R1, R2, R3⟩ := hR
      have hs0 : Scr kB σ (sI σ 21 7 (nI st.length)) := Scr.sI (kB_f (by omega))
      have hN0 := hN.kB hs0
      have hx64 := lt64 wf o1
      have hb := bndN_le wf r s m x.1
      obtain ⟨σ1, e1, r1⟩ := ju_most hN0 wf hr hs hm o1
      have hat : f_Sheet_at (36 + 2 * q) (nI i) (sI σ 21 7 (nI st.length)) = some (g i, sI σ 21 7 (nI st.length)) := by
        rw [sh_at (L := L) (by rw [g_sI_ne (by omega)]; exact h1) hL (by omega), if_pos (by omega), g_sI_ne (by omega), show 36 + 2 * q + 1 = 37 + 2 * q by omega, h2 i (by omega)]
      have h1' : gI σ1 (36 + 2 * q) 1 = nI L := by rw [(r1 (36 + 2 * q) 1 (kR_t (by omega))).1, g_sI_ne (by omega)]; exact h1
      have h2' : ∀ j, j < L → gI σ1 (37 + 2 * q) j = g j := fun j hj => by rw [(r1 (37 + 2 * q) j (kR_t (by omega))).1, g_sI_ne (by omega)]; exact h2 j hj
      -- a leaf, or a fault
      have leaf : (if g i = (-1 : Int32) then ((f_Judge_most (nI r) (nI s) (nI m) (lN x.1) (sI σ 21 7 (nI st.length))).bind fun q6 => (if (nI x.2 + q6.1) ≤ nI k then L_Prover_firstFault_15 fu (36 + 2 * q) (nI r) (nI s) (nI m) (nI k) (nI (i + 1)) q6.2 else some (nI i, q6.2))) else some (nI i, sI σ 21 7 (nI st.length))) = (if g i = (-1 : Int32) then (if x.2 + bndN N r s m x.1 ≤ k then L_Prover_firstFault_15 fu (36 + 2 * q) (nI r) (nI s) (nI m) (nI k) (nI (i + 1)) σ1 else some (nI i, σ1)) else some (nI i, sI σ 21 7 (nI st.length))) := by
        rw [e1, Option.bind_some]
        simp only [nI_add, nI_leI (show x.2 + bndN N r s m x.1 < 2 ^ 31 by omega) hk]
      have leaf2 : ∃ σ', (if g i = (-1 : Int32) then (if x.2 + bndN N r s m x.1 ≤ k then L_Prover_firstFault_15 fu (36 + 2 * q) (nI r) (nI s) (nI m) (nI k) (nI (i + 1)) σ1 else some (nI i, σ1)) else some (nI i, sI σ 21 7 (nI st.length))) = some (if g i = -1 ∧ x.2 + bndN N r s m x.1 ≤ k then ckM N r s m k g f st (i + 1) else nI i, σ') ∧ Scr kB σ σ' := by
        by_cases c1 : g i = -1
        · rw [if_pos c1]
          by_cases c2 : x.2 + bndN N r s m x.1 ≤ k
          · rw [if_pos c2, if_pos ⟨c1, c2⟩]
            obtain ⟨σ', e, t⟩ := ih fu (i + 1) st σ1 (by omega) (by omega) (hN0.kB r1.kRB) (by rw [(r1 21 7 (kR_t (by omega))).1, g_sI_eq]) (R3.fr (fun j hj => ⟨by rw [(r1 24 j (kR_t (by omega))).2, gL_sI], by rw [(r1 25 j (kR_t (by omega))).1, g_sI_ne (by omega)]⟩)) o4 h1' h2'
            exact ⟨σ', e, (hs0.tr r1.kRB).tr t⟩
          · rw [if_neg c2, if_neg (fun z => c2 z.2)]
            exact ⟨σ1, rfl, hs0.tr r1.kRB⟩
        · rw [if_neg c1, if_neg (fun z => c1 z.1)]
          exact ⟨_, rfl, hs0⟩
      have e0 : L_Prover_firstFault_15 (fu + 1) (36 + 2 * q) (nI r) (nI s) (nI m) (nI k) (nI i) σ = (if ptB (g i) (n_n N) = true then (if x.1.testBit (g i).toInt.toNat = true then ((f_Prover_branch (nI s) (nI m) (lN x.1) (nI x.2) (g i) (sI σ 21 7 (nI st.length))).bind fun q9 => L_Prover_firstFault_15 fu (36 + 2 * q) (nI r) (nI s) (nI m) (nI k) (nI (i + 1)) q9.2) else (if g i = (-1 : Int32) then ((f_Judge_most (nI r) (nI s) (nI m) (lN x.1) (sI σ 21 7 (nI st.length))).bind fun q6 => (if (nI x.2 + q6.1) ≤ nI k then L_Prover_firstFault_15 fu (36 + 2 * q) (nI r) (nI s) (nI m) (nI k) (nI (i + 1)) q6.2 else some (nI i, q6.2))) else some (nI i, sI σ 21 7 (nI st.length)))) else (if g i = (-1 : Int32) then ((f_Judge_most (nI r) (nI s) (nI m) (lN x.1) (sI σ 21 7 (nI st.length))).bind fun q6 => (if (nI x.2 + q6.1) ≤ nI k then L_Prover_firstFault_15 fu (36 + 2 * q) (nI r) (nI s) (nI m) (nI k) (nI (i + 1)) q6.2 else some (nI i, q6.2))) else some (nI i, sI σ 21 7 (nI st.length)))) := by
        show B_Prover_firstFault_15 (L_Prover_firstFault_15 fu) _ _ _ _ _ _ _ = _
        unfold B_Prover_firstFault_15
        rw [h1, if_neg (nI_ge (by omega) (by omega)), hp1, if_neg (nI_ne0 (by omega) (by omega)), show nI (st.length + 1) - (1 : Int32) = nI st.length from nI_pred _]
        simp only [g_sI_eq, inb_ok (show st.length < 48 by omega) (show 48 < 2 ^ 31 by decide), if_true, nI_clamp (show st.length < 2 ^ 31 by omega), lt1_eq, gL_sI, R1, g_sI_ne (show ¬ (25 = 21 ∧ st.length = 7) by omega), R2, hat, Option.bind_some, nt_has hN0 wf, nI_1]
        rcases Bool.eq_false_or_eq_true (ptB (g i) (n_n N)) with hpt | hpt
        · obtain ⟨p, hpn, egi⟩ := ptB_of hpt
          simp only [hpt, ite_bt, if_true]
          rw [egi, nI_toInt (by omega), nt_isOf hx64 (by omega), Option.bind_some]
          simp only [Int.toNat_natCast]
          rcases Bool.eq_false_or_eq_true (x.1.testBit p) with hbb | hbb
          · simp only [hbb, ite_bt, if_true]
          · simp only [hbb, ite_bf, Bool.false_eq_true, if_false]
        · simp only [hpt, ite_bf, Bool.false_eq_true, if_false]
      rw [e0]
      by_cases c1 : ptB (g i) (n_n N) = true
      · rw [if_pos c1]
        by_cases c2 : x.1.testBit (g i).toInt.toNat = true
        · rw [if_pos c2, if_pos ⟨c1, c2⟩]
          obtain ⟨p, hpn, egi⟩ := ptB_of c1
          rw [egi, nI_toInt (by omega), Int.toNat_natCast]
          rw [egi, nI_toInt (by omega), Int.toNat_natCast] at c2
          obtain ⟨σ3, e5, b1, b2, b3, b4⟩ := pv_branch hN0 wf (c := x.2) hs hm hx64 hpn (st := st) (g_sI_eq _ _ _ _) hlen (R3.fr (fun j hj => ⟨by rw [gL_sI], by rw [g_sI_ne (by omega)]⟩))
          have hs3 : Scr kB (sI σ 21 7 (nI st.length)) σ3 := fun c j hc => ⟨b3 c j (by rintro ⟨rfl, rfl⟩; revert hc; decide) (by rintro rfl; rw [kB_f (by omega)] at hc; cases hc), b4 c j (by rintro rfl; rw [kB_f (by omega)] at hc; cases hc)⟩
          obtain ⟨σ', e, t⟩ := ih fu (i + 1) ((fit N s p x.1, x.2 + mea1 N m p) :: (nd x.1 (2 ^ p), x.2) :: st) σ3 (by omega) (by omega) (hN0.kB hs3) b1 b2 (StOk.br (s := s) (m := m) wf hok' hpn c2) (by rw [b3 _ _ (by omega) (by omega), g_sI_ne (by omega)]; exact h1) (fun j hj => by rw [b3 _ _ (by omega) (by omega), g_sI_ne (by omega)]; exact h2 j hj)
          refine ⟨σ', ?_, (hs0.tr hs3).tr t⟩
          rw [e5, Option.bind_some]
          exact e
        · rw [if_neg c2, leaf, if_neg (show ¬ (ptB (g i) (n_n N) = true ∧ x.1.testBit (g i).toInt.toNat = true) from fun z => c2 z.2)]
          exact leaf2
      · rw [if_neg c1, leaf, if_neg (show ¬ (ptB (g i) (n_n N) = true ∧ x.1.testBit (g i).toInt.toNat = true) from fun z => c1 z.1)]
        exact leaf2
/-! the reference's recursion -/
def kK (c j : Nat) : Bool := kL c j && !(decide (c = 48) && decide (j = 22))
theorem kK_t {c j : Nat} (h : kL c j = true) (h2 : ¬ (c = 48 ∧ j = 22)) : kK c j = true := by
  unfold kK
  rw [h]
  simp only [Bool.true_and, Bool.not_eq_true', Bool.and_eq_false_iff, decide_eq_false_iff_not]
  omega
theorem kK_f : kK 48 22 = false := by decide
theorem kK_kL {c j : Nat} (h : kK c j = true) : kL c j = true := by
  unfold kK at h
  rw [Bool.and_eq_true] at h
  exact h.1
theorem Scr.kLK {σ σ' : Sto} (hs : Scr kL σ σ') : Scr kK σ σ' := fun c j h => hs c j (kK_kL h)
theorem Scr.kKM {σ σ' : Sto} (hs : Scr kK σ σ') : Scr kM σ σ' := fun c j h => hs c j (by
  revert h
  unfold kM
  simp only [Bool.or_eq_true, Bool.and_eq_true, decide_eq_true_eq]
  intro h2
  exact kK_t (kL_t (by omega)) (by omega))
theorem ModAt.kK {σ σ' : Sto} {N : Nt} (h : ModAt σ N) (hs : Scr kK σ σ') : ModAt σ' N :=
  ⟨by rw [(hs 48 0 (kK_t (kL_t (by omega)) (by omega))).1]; exact h.1, fun p hp => by
    obtain ⟨a1, a2, a3⟩ := h.2 p hp
    exact ⟨by rw [(hs 49 p (kK_t (kL_t (by omega)) (by omega))).1]; exact a1, by rw [(hs 50 p (kK_t (kL_t (by omega)) (by omega))).1]; exact a2, by rw [(hs 51 p (kK_t (kL_t (by omega)) (by omega))).2]; exact a3⟩⟩
theorem mo_checks {N : Nt} (wf : WfN N) {r s m k q L : Nat} {g : Nat → Int32} (hr : r < 5) (hs : s < 2) (hm : m < 2) (hk : k < 2 ^ 31) (hq : q < 4) (hL : L ≤ 60) : ∀ (G w c f i : Nat) (σ : Sto), pc w < G → w < 2 ^ n_n N → c + 300 * pc w ≤ 19200 → f + i = L → ModAt σ N → gI σ 48 22 = nI i → gI σ 70 q = nI L → (∀ j, j < L → gI σ 71 (60 * q + j) = g j) →
    ∃ (is : Bool) (σ' : Sto) (i' f' : Nat), f_Mo_checks G (nI q) (nI r) (nI s) (nI m) (nI k) (lN w) (nI c) σ = some (is, σ') ∧ gI σ' 48 22 = nI i' ∧ f' + i' = L ∧ Scr kK σ σ' ∧ (∀ st, is = true → ckM N r s m k g f ((w, c) :: st) i = ckM N r s m k g f' st i') ∧ (∀ st, is = false → ckM N r s m k g f ((w, c) :: st) i = nI i') := by
  intro G
  have hn := wf.1
  induction G with
  | zero => intro w c f i σ h; omega
  | succ G ih =>
    intro w c f i σ hg hw hc hf h h1 h2 h3
    have hw64 := lt64 wf hw
    cases f with
    | zero =>
      refine ⟨false, σ, i, 0, ?_, h1, hf, Scr.rf, fun st z => absurd z (by decide), fun st _ => rfl⟩
      show B_Mo_checks_0 (f_Mo_checks G) _ _ _ _ _ _ _ _ = _
      unfold B_Mo_checks_0
      simp only [inb_ok hq (show 4 < 2 ^ 31 by decide), if_true, nI_clamp (show q < 2 ^ 31 by omega), h1, h2]
      rw [if_pos (by rw [show i = L by omega])]
    | succ f =>
      obtain ⟨σ1, e1, r1⟩ := mo_boundOf h wf hr hs hm hw
      have hb := bndN_le wf r s m w
      have h11 : gI σ1 48 22 = nI i := by rw [(r1 48 22 (kL_t (by omega))).1]; exact h1
      have e0 : f_Mo_checks (G + 1) (nI q) (nI r) (nI s) (nI m) (nI k) (lN w) (nI c) σ = (if g i = (-1 : Int32) then (if k < c + bndN N r s m w then some (false, sI σ1 48 22 (nI i)) else some (true, sI σ1 48 22 (nI (i + 1)))) else (if ptB (g i) (n_n N) = true then ((f_Mo_has (lN w) (g i) σ).bind fun q3 => (if (b2i q3.1) = 0 then some (false, q3.2) else ((f_Mo_fits (nI s) (g i) (lN w) (sI q3.2 48 22 ((gI q3.2 48 22) + (1 : Int32)))).bind fun q4 => ((f_Mo_worth (nI m) (g i) q4.2).bind fun q5 => ((f_Mo_checks G (nI q) (nI r) (nI s) (nI m) (nI k) q4.1 (nI c + q5.1) q5.2).bind fun q6 => (if (b2i q6.1) = 0 then some (false, q6.2) else ((f_Mo_bit (g i) q6.2).bind fun q7 => ((f_Mo_checks G (nI q) (nI r) (nI s) (nI m) (nI k) (lN w &&& (q7.1 ^^^ (-1 : Int64))) (nI c) q7.2).bind fun q8 => (if (b2i q8.1) = 0 then some (false, q8.2) else some (true, q8.2)))))))))) else some (false, σ))) := by
        show B_Mo_checks_0 (f_Mo_checks G) _ _ _ _ _ _ _ _ = _
        unfold B_Mo_checks_0
        simp only [inb_ok hq (show 4 < 2 ^ 31 by decide), if_true, nI_clamp (show q < 2 ^ 31 by omega), h1, h2]
        rw [if_neg (fun z => absurd ((nI_eq (show i < 2 ^ 31 by omega) (show L < 2 ^ 31 by omega)).1 z) (by omega))]
        simp only [mo_place hq (show i < 60 by omega), inb_ok (show 60 * q + i < 240 by omega) (show 240 < 2 ^ 31 by decide), if_true, nI_clamp (show 60 * q + i < 2 ^ 31 by omega), lt1_eq, h3 i (by omega), e1, Option.bind_some, nI_add, nI_ltI hk (show c + bndN N r s m w < 2 ^ 31 by omega), h11, nI_1, mo_isPoint h wf]
        rw [if_neg (show ¬ ((1 : Int32) = 0) by decide +kernel), show nI i + (0 : Int32) = nI i from nI_add i 0]
        by_cases c1 : g i = -1
        · rw [if_pos c1, if_pos c1]
        · rw [if_neg c1, if_neg c1]
          cases ptB (g i) (n_n N)
          · rw [ite_bf, if_neg (by decide)]
          · rw [ite_bt, if_pos rfl]
      by_cases c1 : g i = -1
      · have np : ¬ (ptB (g i) (n_n N) = true ∧ w.testBit (g i).toInt.toNat = true) := fun z => by
          rw [c1, ptB_neg] at z; exact absurd z.1 (by decide)
        by_cases c2 : c + bndN N r s m w ≤ k
        · refine ⟨true, sI σ1 48 22 (nI (i + 1)), i + 1, f, ?_, g_sI_eq _ _ _ _, by omega, r1.kLK.tr (Scr.sI kK_f), fun st _ => ?_, fun st z => absurd z (by decide)⟩
          · rw [e0, if_pos c1, if_neg (by omega)]
          · rw [ckM_c, if_neg np, if_pos ⟨c1, c2⟩]
        · refine ⟨false, sI σ1 48 22 (nI i), i, f + 1, ?_, g_sI_eq _ _ _ _, hf, r1.kLK.tr (Scr.sI kK_f), fun st z => absurd z (by decide), fun st _ => ?_⟩
          · rw [e0, if_pos c1, if_pos (by omega)]
          · rw [ckM_c, if_neg np, if_neg (fun z => c2 z.2)]
      · by_cases c2 : ptB (g i) (n_n N) = true
        · obtain ⟨p, hpn, egi⟩ := ptB_of c2
          have ep : (g i).toInt.toNat = p := by rw [egi, nI_toInt (by omega)]; rfl
          have e0' := e0
          rw [if_neg c1, if_pos c2, egi, has_eq hw64 (show p < 64 by omega), Option.bind_some] at e0'
          cases hb2 : w.testBit p with
          | false =>
            refine ⟨false, σ, i, f + 1, ?_, h1, hf, Scr.rf, fun st z => absurd z (by decide), fun st _ => ?_⟩
            · rw [e0', hb2]; rfl
            · rw [ckM_c, if_neg (fun z => by rw [ep, hb2] at z; exact absurd z.2 (by decide)), if_neg (fun z => c1 z.1)]
          | true =>
            have hs3 : Scr kK σ (sI σ 48 22 (nI (i + 1))) := Scr.sI kK_f
            have hM3 := h.kK hs3
            have a1 := fit_pc (s := s) wf hpn hb2
            have a2 := pc_nd (w := w) (b := p) (by omega) hb2
            have a3 := mea1_lt wf (m := m) hpn
            obtain ⟨is, σ4, i4, f4, e5, p1, p2, p4, p5, p6⟩ := ih (fit N s p w) (c + mea1 N m p) f (i + 1) (sI σ 48 22 (nI (i + 1))) (by omega) (fit_lt hw) (by omega) (by omega) hM3 (g_sI_eq _ _ _ _) (by rw [g_sI_ne (by omega)]; exact h2) (fun j hj => by rw [g_sI_ne (by omega)]; exact h3 j hj)
            have em : ∀ st, ckM N r s m k g (f + 1) ((w, c) :: st) i = ckM N r s m k g f ((fit N s p w, c + mea1 N m p) :: (nd w (2 ^ p), c) :: st) (i + 1) := fun st => by
              rw [ckM_c, ep, if_pos ⟨c2, hb2⟩]
            rw [hb2, ite_bt] at e0'
            simp only [h1, nI_1, mo_fits hM3 wf hs hpn hw64, Option.bind_some, mo_worth hM3 wf hm hpn, nI_add, e5, bit_eq (show p < 64 by omega), lN_nd hw64] at e0'
            cases is with
            | false =>
              refine ⟨false, σ4, i4, f4, ?_, p1, p2, hs3.tr p4, fun st z => absurd z (by decide), fun st _ => by rw [em, p6 _ rfl]⟩
              rw [e0', ite_bf]
            | true =>
              obtain ⟨is2, σ5, i5, f5, e6, t1, t2, t4, t5, t6⟩ := ih (nd w (2 ^ p)) c f4 i4 σ4 (by omega) (nd_lt hw) (by omega) p2 (hM3.kK p4) p1 (by rw [(p4 70 q (kK_t (kL_t (by omega)) (by omega))).1, g_sI_ne (by omega)]; exact h2) (fun j hj => by rw [(p4 71 _ (kK_t (kL_t (by omega)) (by omega))).1, g_sI_ne (by omega)]; exact h3 j hj)
              refine ⟨is2, σ5, i5, f5, ?_, t1, t2, (hs3.tr p4).tr t4, fun st z => by rw [em, p5 _ rfl, t5 st z], fun st z => by rw [em, p5 _ rfl, t6 st z]⟩
              rw [e0', ite_bt, e6, Option.bind_some]
              cases is2 <;> rfl
        · refine ⟨false, σ, i, f + 1, ?_, h1, hf, Scr.rf, fun st z => absurd z (by decide), fun st _ => ?_⟩
          · rw [e0, if_neg c1, if_neg c2]
          · rw [ckM_c, if_neg (fun z => c2 z.1), if_neg (fun z => c1 z.1)]
theorem ckM_nil (N : Nt) (r s m k : Nat) (g : Nat → Int32) (f i : Nat) : ckM N r s m k g f [] i = if f = 0 then -1 else nI i := by cases f <;> rfl
theorem op_check (a0 : Int32) (b1 : Int32) (c2 : Int32) (d3 : Int32) (e4 : Int32) (g5 : Int64) : Op (f_FR_check a0 b1 c2 d3 e4 g5) (f_Mo_check a0 b1 c2 d3 e4 g5) := by
  obtain ⟨u, hu, rfl⟩ := wb_of g5
  cases h0 : ptB a0 4
  · refine Op.ask (fun _ => -2) (fun σ A wf h => ⟨σ, ?_, Scr.rf⟩) (fun σ A wf h => ⟨σ, ?_, Scr.rf⟩)
    · unfold f_FR_check B_FR_check_0
      simp [fr_isSheet, h0, ite_bf]
    · unfold f_Mo_check B_Mo_check_0
      simp [mo_isSheet, h0, ite_bf]
  obtain ⟨q, hq, rfl⟩ := ptB_of h0
  by_cases hc : (ptB b1 5 && oneB c2 && oneB d3 && decide (0 ≤ e4)) = true
  rotate_left
  · have hx : ∀ b, (ptB b1 5 && (oneB c2 && oneB d3 && b) && decide (0 ≤ e4)) = false := fun b => by
      rw [Bool.not_eq_true] at hc
      revert hc
      cases ptB b1 5 <;> cases oneB c2 <;> cases oneB d3 <;> cases decide (0 ≤ e4) <;> cases b <;> simp
    refine Op.ask (fun _ => -2) (fun σ A wf h => ⟨σ, ?_, Scr.rf⟩) (fun σ A wf h => ⟨σ, ?_, Scr.rf⟩)
    · unfold f_FR_check B_FR_check_0
      rw [fr_isSheet, Option.bind_some, h0, ite_bt]
      simp only []
      rw [fr_isClaim h.net wf.1 b1 c2 d3 e4 hu, Option.bind_some, hx, ite_bf]
    · unfold f_Mo_check B_Mo_check_0
      rw [mo_isSheet, Option.bind_some, h0, ite_bt]
      simp only []
      rw [mo_isProved h.net wf.1 b1 c2 d3 e4 hu, Option.bind_some, hx, ite_bf]
  have hx : ∀ b, (ptB b1 5 && (oneB c2 && oneB d3 && b) && decide (0 ≤ e4)) = b := fun b => by
    revert hc
    cases ptB b1 5 <;> cases oneB c2 <;> cases oneB d3 <;> cases decide (0 ≤ e4) <;> cases b <;> simp
  simp only [Bool.and_eq_true, decide_eq_true_eq] at hc
  obtain ⟨⟨⟨h1, h2⟩, h3⟩, h4⟩ := hc
  obtain ⟨r, hr, rfl⟩ := ptB_of h1
  obtain ⟨s, hs, rfl⟩ := oneB_of h2
  obtain ⟨m, hm, rfl⟩ := oneB_of h3
  obtain ⟨k, hk, rfl⟩ := nI_of (Int32.not_lt.mpr h4)
  refine Op.ask (fun A => if u < 2 ^ n_n (s_N A) then (if gone A q = true then -11 else ckM (s_N A) r s m k (s_S A q).2.2 (s_S A q).2.1 [(u, 0)] 0) else -2) (fun σ A wf h => ?_) (fun σ A wf h => ?_)
  · unfold f_FR_check B_FR_check_0
    rw [fr_isSheet, Option.bind_some, h0, ite_bt]
    simp only []
    rw [fr_isClaim h.net wf.1 _ _ _ _ hu, Option.bind_some, hx]
    by_cases h5 : u < 2 ^ n_n (s_N A)
    · rw [decide_eq_true h5, ite_bt]
      simp only [inb_ok hq (show 4 < 2 ^ 31 by decide), if_true, nI_clamp (show q < 2 ^ 31 by omega), sh_gone h hq, Option.bind_some, if_pos h5]
      cases h6 : gone A q
      · rw [ite_bf, if_neg (by decide)]
        obtain ⟨c1, c2, c3⟩ := h.2.2.2.2.1 q hq
        have hL := (wf.2.2.2.2.1 q hq).1
        have hs0 : Scr kB σ (sI σ 21 7 0) := Scr.sI (kB_f (by omega))
        have aw := pv_await (σ := sI σ 21 7 0) (n := 0) (w := u) (c := 0) (g_sI_eq _ _ _ _) (by omega)
        obtain ⟨τ, hτ⟩ : ∃ τ, τ = sI (sI (sL (sI σ 21 7 0) 24 0 (lN u)) 25 0 (nI 0)) 21 7 (nI (0 + 1)) := ⟨_, rfl⟩
        rw [← hτ] at aw
        have hsτ : Scr kB σ τ := by rw [hτ]; exact ((hs0.tr (Scr.sL (kB_f (by omega)))).tr (Scr.sI (kB_f (by omega)))).tr (Scr.sI (kB_f (by omega)))
        obtain ⟨σ', e, t⟩ := ck_loop wf.1 (g := (s_S A q).2.2) hr hs hm hk hq hL (s_S A q).2.1 LF 0 [(u, 0)] τ (by omega) (by rw [LF_big]; omega) (h.net.kB hsτ) (by rw [hτ, g_sI_eq]; rfl) ⟨by rw [hτ, gL_sI, gL_sI]; exact g_sL_eq _ _ _ _, by rw [hτ, g_sI_ne (by omega)]; exact g_sI_eq _ _ _ _, trivial⟩ (StOk_one wf.1 h5) (by rw [(hsτ (36 + 2 * q) 1 (kB_t (by omega))).1]; exact c2) (fun j hj => by rw [(hsτ (37 + 2 * q) j (kB_t (by omega))).1]; exact c3 j hj)
        refine ⟨σ', ?_, (hsτ.tr t).kBC⟩
        unfold f_Prover_firstFault B_Prover_firstFault_0
        rw [show f_Prover_await (lN u) (0 : Int32) (sI σ 21 7 0) = some ((), τ) from aw, Option.bind_some]
        simp only []
        rw [show L_Prover_firstFault_15 LF (36 + 2 * q) (nI r) (nI s) (nI m) (nI k) (0 : Int32) τ = _ from e, Option.bind_some]
      · rw [ite_bt, if_pos rfl]
        exact ⟨σ, rfl, Scr.rf⟩
    · rw [decide_eq_false h5, ite_bf]
      simp only [if_neg h5]
      exact ⟨σ, rfl, Scr.rf⟩
  · unfold f_Mo_check B_Mo_check_0
    rw [mo_isSheet, Option.bind_some, h0, ite_bt]
    simp only []
    rw [mo_isProved h.net wf.1 _ _ _ _ hu, Option.bind_some, hx]
    by_cases h5 : u < 2 ^ n_n (s_N A)
    · obtain ⟨c1, c2, c3⟩ := h.2.2.2.2.1 q hq
      rw [decide_eq_true h5, ite_bt]
      simp only [inb_ok hq (show 4 < 2 ^ 31 by decide), if_true, nI_clamp (show q < 2 ^ 31 by omega), c1, gone_nn wf hq, if_pos h5]
      cases h6 : gone A q
      · rw [if_pos rfl, if_neg (by decide)]
        have hL := (wf.2.2.2.2.1 q hq).1
        have hs0 : Scr kK σ (sI σ 48 22 0) := Scr.sI kK_f
        have hpc := pcw40 wf.1 h5
        obtain ⟨is, σ', i', f', e, p1, p2, p4, p5, p6⟩ := mo_checks wf.1 (g := (s_S A q).2.2) hr hs hm hk hq hL 64 u 0 (s_S A q).2.1 0 (sI σ 48 22 0) (by omega) h5 (by omega) (by omega) (h.net.kK hs0) (g_sI_eq _ _ _ _) (by rw [g_sI_ne (by omega)]; exact c2) (fun j hj => by rw [g_sI_ne (by omega)]; exact c3 j hj)
        refine ⟨σ', ?_, (hs0.tr p4).kKM⟩
        rw [show f_Mo_checks 64 (nI q) (nI r) (nI s) (nI m) (nI k) (lN u) (0 : Int32) (sI σ 48 22 0) = _ from e, Option.bind_some]
        have e70 : gI σ' 70 q = nI (s_S A q).2.1 := by rw [(p4 70 q (kK_t (kL_t (by omega)) (by omega))).1, g_sI_ne (by omega)]; exact c2
        simp only [p1, e70, nI_eq (show i' < 2 ^ 31 by omega) (show (s_S A q).2.1 < 2 ^ 31 by omega)]
        cases is with
        | false => rw [ite_bf, p6 [] rfl]
        | true =>
          rw [ite_bt, p5 [] rfl, ckM_nil]
          by_cases c5 : i' = (s_S A q).2.1
          · rw [if_pos c5, if_pos (by omega)]
          · rw [if_neg c5, if_neg (by omega)]
      · rw [if_neg (by decide), if_pos rfl]
        exact ⟨σ, rfl, Scr.rf⟩
    · rw [decide_eq_false h5, ite_bf]
      simp only [if_neg h5]
      exact ⟨σ, rfl, Scr.rf⟩
