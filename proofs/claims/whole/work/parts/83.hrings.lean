/-! lists: one more point -/
def upA (N : Nt) (s p M : Nat) : Nat := if fit N s p M = M then M ||| 2 ^ p else M
theorem mo_ls_a {N : Nt} (wf : WfN N) {s p old : Nat} {A : Nat → Nat} {w th : Int64} (hs : s < 2) (hp : p < n_n N) (hold : old ≤ 324) (hA : ∀ i, i < old → A i < 2 ^ n_n N) {k18 : Int32 → Int64 → Int64 → Int32 → Sto → Option (Unit × Sto)} : ∀ (k fu r : Nat) (σ : Sto), r + k = old → k < fu → ModAt σ N → gI σ 48 15 = nI old → (∀ i, i < r → gL σ 57 i = lN (upA N s p (A i))) → (∀ i, r ≤ i → i < old → gL σ 57 i = lN (A i)) →
    ∃ σ', L_Mo_lists_58 k18 fu (nI s) w th (nI p) (nI old) (nI r) σ = L_Mo_lists_118 k18 LF (nI s) w th (nI p) (nI old) 0 σ' ∧ RgM σ' (old, fun i => upA N s p (A i)) ∧ Scr kH σ σ' := by
  intro k
  have hn := wf.1
  induction k with
  | zero =>
    intro fu r σ hr hf h h1 h2 h3
    obtain ⟨fu, rfl⟩ : ∃ z, fu = z + 1 := ⟨fu - 1, by omega⟩
    refine ⟨σ, ?_, ⟨h1, fun i hi => h2 i (by have hi' : i < old := hi; omega)⟩, Scr.rf⟩
    show B_Mo_lists_58 k18 (L_Mo_lists_58 k18 fu) _ _ _ _ _ _ _ = _
    unfold B_Mo_lists_58
    rw [if_pos (nI_le (by omega) (by omega))]
  | succ k ih =>
    intro fu r σ hr hf h h1 h2 h3
    obtain ⟨fu, rfl⟩ : ∃ z, fu = z + 1 := ⟨fu - 1, by omega⟩
    have hr0 : r < old := by omega
    have hA64 := lt64 wf (hA r hr0)
    have e0 : L_Mo_lists_58 k18 (fu + 1) (nI s) w th (nI p) (nI old) (nI r) σ = L_Mo_lists_58 k18 fu (nI s) w th (nI p) (nI old) (nI (r + 1)) (if fit N s p (A r) = A r then sL σ 57 r (lN (A r ||| 2 ^ p)) else σ) := by
      show B_Mo_lists_58 k18 (L_Mo_lists_58 k18 fu) _ _ _ _ _ _ _ = _
      unfold B_Mo_lists_58
      rw [if_neg (nI_ge hr0 (by omega))]
      simp only [inb_ok (show r < 400 by omega) (show 400 < 2 ^ 31 by decide), if_true, nI_clamp (show r < 2 ^ 31 by omega), h3 r (Nat.le_refl _) hr0, mo_fits h wf hs hp hA64, Option.bind_some, lN_inj64 (fit_lt (N := N) (s := s) (p := p) hA64) hA64, bit_eq (show p < 64 by omega), fb_orL, lt1_eq, nI_1]
      split <;> rfl
    rw [e0]
    by_cases hc : fit N s p (A r) = A r
    · rw [if_pos hc]
      have hs1 : Scr kH σ (sL σ 57 r (lN (A r ||| 2 ^ p))) := Scr.sL (kH_f (by omega))
      obtain ⟨σ', e, g1, g2⟩ := ih fu (r + 1) (sL σ 57 r (lN (A r ||| 2 ^ p))) (by omega) (by omega) (h.kH hs1) h1 (fun i hi => by
        by_cases ei : i = r
        · rw [ei, g_sL_eq]; unfold upA; rw [if_pos hc]
        · rw [g_sL_ne (by omega)]; exact h2 i (by omega)) (fun i hi hi2 => by rw [g_sL_ne (by omega)]; exact h3 i (by omega) hi2)
      exact ⟨σ', e, g1, hs1.tr g2⟩
    · rw [if_neg hc]
      refine ih fu (r + 1) σ (by omega) (by omega) h h1 (fun i hi => ?_) (fun i hi hi2 => h3 i (by omega) hi2)
      by_cases ei : i = r
      · rw [ei, h3 r (Nat.le_refl _) hr0]; unfold upA; rw [if_neg hc]
      · exact h2 i (by omega)
def cdA (N : Nt) (s p M : Nat) : Nat := fit N s p M ||| 2 ^ p
def okA (N : Nt) (s p th M : Nat) : Prop := M.testBit p = false ∧ fitAll N s (cdA N s p M) (nd th (cdA N s p M)) (n_n N) = 0
theorem mo_ls_b {N : Nt} (wf : WfN N) {s p old th : Nat} {A : Nat → Nat} {w : Int64} (hs : s < 2) (hp : p < n_n N) (hth : th < 2 ^ n_n N) (h16 : pc th ≤ 16) (hA : ∀ i, i < old → A i < 2 ^ n_n N) (hC : ∀ i, i < old → okA N s p th (A i) → Mx N s th (cdA N s p (A i))) {k18 : Int32 → Int64 → Int64 → Int32 → Sto → Option (Unit × Sto)} : ∀ (k fu r : Nat) (B : Gs) (σ : Sto), r + k = old → k < fu → ModAt σ N → RgM σ B → old ≤ B.1 → (∀ i, i < old → B.2 i = A i) → (∀ i j, i < j → j < B.1 → B.2 i ≠ B.2 j) → (∀ i, i < B.1 → Mx N s th (B.2 i)) → (∀ i, i < r → okA N s p th (A i) → ∃ j, j < B.1 ∧ B.2 j = cdA N s p (A i)) →
    ∃ σ' B', L_Mo_lists_118 k18 fu (nI s) w (lN th) (nI p) (nI old) (nI r) σ = k18 (nI s) w (lN th) (nI (p + 1)) σ' ∧ RgM σ' B' ∧ Scr kH σ σ' ∧ old ≤ B'.1 ∧ (∀ i, i < old → B'.2 i = A i) ∧ (∀ i j, i < j → j < B'.1 → B'.2 i ≠ B'.2 j) ∧ (∀ i, i < B'.1 → Mx N s th (B'.2 i)) ∧ (∀ i, i < old → okA N s p th (A i) → ∃ j, j < B'.1 ∧ B'.2 j = cdA N s p (A i)) := by
  intro k
  have hn := wf.1
  have mlt : ∀ R, Mx N s th R → R < 2 ^ 64 := fun R h => bit_lt (fun i hi => by
    cases hb : R.testBit i with
    | false => rfl
    | true => have := h.1 i hb; rw [tb_out (lt64 wf hth) hi] at this; cases this)
  induction k with
  | zero =>
    intro fu r B σ hr hf h hB h1 h2 h3 h4 h5
    obtain ⟨fu, rfl⟩ : ∃ z, fu = z + 1 := ⟨fu - 1, by omega⟩
    have hl := inj_len wf hth h16 h3 h4
    refine ⟨σ, B, ?_, hB, Scr.rf, h1, h2, h3, h4, fun i hi => h5 i (by omega)⟩
    show B_Mo_lists_118 k18 (L_Mo_lists_118 k18 fu) _ _ _ _ _ _ _ = _
    unfold B_Mo_lists_118
    rw [if_pos (nI_le (by omega) (by omega)), nI_1]
  | succ k ih =>
    intro fu r B σ hr hf h hB h1 h2 h3 h4 h5
    obtain ⟨fu, rfl⟩ : ∃ z, fu = z + 1 := ⟨fu - 1, by omega⟩
    have hr0 : r < old := by omega
    have hl := inj_len wf hth h16 h3 h4
    have hA64 := lt64 wf (hA r hr0)
    have hcd64 : cdA N s p (A r) < 2 ^ 64 := or_lt (fit_lt hA64) (pow_lt (by omega))
    have hcl : fitAll N s (cdA N s p (A r)) (nd th (cdA N s p (A r))) (n_n N) < 2 ^ 64 := fitAll_lt (nd_lt (lt64 wf hth)) _
    have e0 : L_Mo_lists_118 k18 (fu + 1) (nI s) w (lN th) (nI p) (nI old) (nI r) σ = (if (A r).testBit p = false then (if fitAll N s (cdA N s p (A r)) (nd th (cdA N s p (A r))) (n_n N) = 0 then ((f_Mo_listsOne (lN (cdA N s p (A r))) σ).bind fun q11 => L_Mo_lists_118 k18 fu (nI s) w (lN th) (nI p) (nI old) (nI (r + 1)) q11.2) else L_Mo_lists_118 k18 fu (nI s) w (lN th) (nI p) (nI old) (nI (r + 1)) σ) else L_Mo_lists_118 k18 fu (nI s) w (lN th) (nI p) (nI old) (nI (r + 1)) σ) := by
      show B_Mo_lists_118 k18 (L_Mo_lists_118 k18 fu) _ _ _ _ _ _ _ = _
      unfold B_Mo_lists_118
      rw [if_neg (nI_ge hr0 (by omega))]
      simp only [inb_ok (show r < 400 by omega) (show 400 < 2 ^ 31 by decide), if_true, nI_clamp (show r < 2 ^ 31 by omega), hB.2 r (by omega), h2 r hr0, mo_fits h wf hs hp hA64, Option.bind_some, bit_eq (show p < 64 by omega), fb_orL, has_eq hA64 (show p < 64 by omega), b2i_eq0, nI_1]
      rw [show fit N s p (A r) ||| 2 ^ p = cdA N s p (A r) from rfl, mo_common wf hs hcd64 (lt64 wf hth) h, Option.bind_some]
      simp only [lN_eq0 hcl]
    rw [e0]
    by_cases hok : okA N s p th (A r)
    · rw [if_pos hok.1, if_pos hok.2]
      obtain ⟨σ1, B1, e1, g1, g2, g3⟩ := mo_listsOne (show B.1 < 400 by omega) hcd64 (fun i hi => mlt _ (h4 i hi)) hB
      have hM := hC r hr0 hok
      have hB1 : old ≤ B1.1 ∧ (∀ i, i < old → B1.2 i = A i) ∧ (∀ i j, i < j → j < B1.1 → B1.2 i ≠ B1.2 j) ∧ (∀ i, i < B1.1 → Mx N s th (B1.2 i)) ∧ (∀ i, i < r + 1 → okA N s p th (A i) → ∃ j, j < B1.1 ∧ B1.2 j = cdA N s p (A i)) := by
        rcases g3 with ⟨⟨x, hx, hx2⟩, rfl⟩ | ⟨hno, rfl⟩
        · refine ⟨h1, h2, h3, h4, fun i hi hi2 => ?_⟩
          by_cases ei : i = r
          · rw [ei]; exact ⟨x, hx, hx2⟩
          · exact h5 i (by omega) hi2
        · refine ⟨show old ≤ B.1 + 1 by omega, fun i hi => ?_, fun i j hij hj => ?_, fun i hi => ?_, fun i hi hi2 => ?_⟩
          · show (if i = B.1 then cdA N s p (A r) else B.2 i) = A i
            rw [if_neg (by omega)]; exact h2 i hi
          · have hj' : j < B.1 + 1 := hj
            show (if i = B.1 then cdA N s p (A r) else B.2 i) ≠ (if j = B.1 then cdA N s p (A r) else B.2 j)
            rw [if_neg (by omega)]
            by_cases ej : j = B.1
            · rw [if_pos ej]; exact hno i (by omega)
            · rw [if_neg ej]; exact h3 i j hij (by omega)
          · have hi' : i < B.1 + 1 := hi
            show Mx N s th (if i = B.1 then cdA N s p (A r) else B.2 i)
            by_cases ei : i = B.1
            · rw [if_pos ei]; exact hM
            · rw [if_neg ei]; exact h4 i (by omega)
          · by_cases ei : i = r
            · refine ⟨B.1, show B.1 < B.1 + 1 by omega, ?_⟩
              show (if B.1 = B.1 then cdA N s p (A r) else B.2 B.1) = _
              rw [if_pos rfl, ei]
            · obtain ⟨j, hj, hj2⟩ := h5 i (by omega) hi2
              refine ⟨j, show j < B.1 + 1 by omega, ?_⟩
              show (if j = B.1 then cdA N s p (A r) else B.2 j) = _
              rw [if_neg (by omega)]; exact hj2
      obtain ⟨b1, b2, b3, b4, b5⟩ := hB1
      obtain ⟨σ', B', e, a1, a2, a3⟩ := ih fu (r + 1) B1 σ1 (by omega) (by omega) (h.kH g2) g1 b1 b2 b3 b4 b5
      refine ⟨σ', B', ?_, a1, g2.tr a2, a3⟩
      rw [e1, Option.bind_some]
      exact e
    · have e1 : (if (A r).testBit p = false then (if fitAll N s (cdA N s p (A r)) (nd th (cdA N s p (A r))) (n_n N) = 0 then ((f_Mo_listsOne (lN (cdA N s p (A r))) σ).bind fun q11 => L_Mo_lists_118 k18 fu (nI s) w (lN th) (nI p) (nI old) (nI (r + 1)) q11.2) else L_Mo_lists_118 k18 fu (nI s) w (lN th) (nI p) (nI old) (nI (r + 1)) σ) else L_Mo_lists_118 k18 fu (nI s) w (lN th) (nI p) (nI old) (nI (r + 1)) σ) = L_Mo_lists_118 k18 fu (nI s) w (lN th) (nI p) (nI old) (nI (r + 1)) σ := by
        by_cases c1 : (A r).testBit p = false
        · rw [if_pos c1, if_neg (fun z => hok ⟨c1, z⟩)]
        · rw [if_neg c1]
      rw [e1]
      refine ih fu (r + 1) B σ (by omega) (by omega) h hB h1 h2 h3 h4 (fun i hi hi2 => ?_)
      by_cases ei : i = r
      · rw [ei] at hi2; exact absurd hi2 hok
      · exact h5 i (by omega) hi2
/-- all that are there can't grow, and all such are there -/
theorem ls_step {N : Nt} (wf : WfN N) {s p th : Nat} {A : Gs} (hs : s < 2) (hp : p < n_n N) (hth : th < 2 ^ n_n N) (hpt : th.testBit p = false) (hL : LsP N s th A) {B : Gs} (h1 : A.1 ≤ B.1) (h2 : ∀ i, i < A.1 → B.2 i = upA N s p (A.2 i)) (h3 : ∀ i j, i < j → j < B.1 → B.2 i ≠ B.2 j) (h4 : ∀ i, i < B.1 → Mx N s (th ||| 2 ^ p) (B.2 i)) (h5 : ∀ i, i < A.1 → okA N s p (th ||| 2 ^ p) (upA N s p (A.2 i)) → ∃ j, j < B.1 ∧ B.2 j = cdA N s p (upA N s p (A.2 i))) : LsP N s (th ||| 2 ^ p) B := by
  refine ⟨h3, h4, fun R hR => ?_⟩
  cases hRp : R.testBit p with
  | false =>
    obtain ⟨m1, m2⟩ := st_4 hpt hR hRp
    obtain ⟨i, hi, hi2⟩ := hL.2.2 R m1
    refine ⟨i, by omega, ?_⟩
    rw [h2 i hi, hi2]; unfold upA; rw [if_neg m2]
  | true =>
    obtain ⟨M, hM, hRM⟩ := st_5 wf hth hp hpt hR hRp
    obtain ⟨i, hi, hi2⟩ := hL.2.2 M hM
    by_cases hf : fit N s p M = M
    · refine ⟨i, by omega, ?_⟩
      rw [h2 i hi, hi2]; unfold upA; rw [if_pos hf, hRM, hf]
    · have hu : upA N s p (A.2 i) = M := by rw [hi2]; unfold upA; rw [if_neg hf]
      have hMp : M.testBit p = false := by
        cases hz : M.testBit p with
        | false => rfl
        | true => rw [hM.1 p hz] at hpt; cases hpt
      have hMl : M < 2 ^ n_n N := bit_lt (fun x hx => by
        cases hb : M.testBit x with
        | false => rfl
        | true => have := hM.1 x hb; rw [tb_out hth hx] at this; cases this)
      obtain ⟨j, hj, hj2⟩ := h5 i hi ⟨by rw [hu]; exact hMp, by
        rw [hu]
        refine (com_0 wf (or_lt (fit_lt hMl) (pow_lt hp)) (or_lt hth (pow_lt hp))).2 ?_
        intro x hx hcx
        have hcx' : R.testBit x = false := by rw [hRM]; exact hcx
        obtain ⟨q, hq, hz⟩ := mx_blk hR hx hcx'
        exact ⟨q, by rw [hRM] at hq; exact hq, hz⟩⟩
      exact ⟨j, hj, by rw [hj2, hu, hRM]; rfl⟩
theorem up_inj {N : Nt} {s p th : Nat} {A : Gs} (hpt : th.testBit p = false) (hL : LsP N s th A) : ∀ i j, i < j → j < A.1 → upA N s p (A.2 i) ≠ upA N s p (A.2 j) := fun i j hij hj z => by
  have key : ∀ k, k < A.1 → nd (upA N s p (A.2 k)) (2 ^ p) = A.2 k := fun k hk => by
    have hkp : (A.2 k).testBit p = false := by
      cases hz : (A.2 k).testBit p with
      | false => rfl
      | true => rw [(hL.2.1 k hk).1 p hz] at hpt; cases hpt
    apply bx
    intro x
    rw [nd1_bit]
    unfold upA
    split
    · rw [or1_bit]
      by_cases e : x = p
      · rw [e, hkp]; simp
      · simp [e]
    · by_cases e : x = p
      · rw [e, hkp]; simp
      · simp [e]
  have := key i (by omega)
  rw [z, key j hj] at this
  exact hL.1 i j hij hj this.symm
theorem mod_bit (w p : Nat) (i : Nat) : (w % 2 ^ p).testBit i = (decide (i < p) && w.testBit i) := Nat.testBit_mod_two_pow w p i
theorem mo_ls_loop {N : Nt} (wf : WfN N) {s w : Nat} (hs : s < 2) (hw : w < 2 ^ n_n N) (h16 : pc w ≤ 16) : ∀ (k fu p : Nat) (A : Gs) (σ : Sto), p + k = n_n N → k < fu → ModAt σ N → RgM σ A → LsP N s (w % 2 ^ p) A → ∃ σ' A', L_Mo_lists_18 fu (nI s) (lN w) (lN (w % 2 ^ p)) (nI p) σ = some ((), σ') ∧ RgM σ' A' ∧ LsP N s w A' ∧ Scr kH σ σ' := by
  intro k
  have hn := wf.1
  have hw64 := lt64 wf hw
  have hthl : ∀ p, w % 2 ^ p < 2 ^ n_n N := fun p => Nat.lt_of_le_of_lt (Nat.mod_le _ _) hw
  have hth16 : ∀ p, pc (w % 2 ^ p) ≤ 16 := fun p => Nat.le_trans (pc_mono (fun i hi => by rw [mod_bit, Bool.and_eq_true] at hi; exact hi.2)) h16
  induction k with
  | zero =>
    intro fu p A σ hp hf h hA hL
    obtain ⟨fu, rfl⟩ : ∃ z, fu = z + 1 := ⟨fu - 1, by omega⟩
    refine ⟨σ, A, ?_, hA, ?_, Scr.rf⟩
    · show B_Mo_lists_18 (L_Mo_lists_18 fu) _ _ _ _ _ = _
      unfold B_Mo_lists_18
      rw [h.1, if_pos (nI_le (by omega) (by omega))]
    · rw [show p = n_n N by omega, Nat.mod_eq_of_lt hw] at hL; exact hL
  | succ k ih =>
    intro fu p A σ hp hf h hA hL
    obtain ⟨fu, rfl⟩ : ∃ z, fu = z + 1 := ⟨fu - 1, by omega⟩
    have hpn : p < n_n N := by omega
    have hpt : (w % 2 ^ p).testBit p = false := by rw [mod_bit]; simp
    have hal := inj_len wf (hthl p) (hth16 p) hL.1 hL.2.1
    have e0 : L_Mo_lists_18 (fu + 1) (nI s) (lN w) (lN (w % 2 ^ p)) (nI p) σ = if w.testBit p = false then L_Mo_lists_18 fu (nI s) (lN w) (lN (w % 2 ^ p)) (nI (p + 1)) σ else L_Mo_lists_58 (L_Mo_lists_18 fu) LF (nI s) (lN w) (lN (w % 2 ^ p ||| 2 ^ p)) (nI p) (nI A.1) 0 σ := by
      show B_Mo_lists_18 (L_Mo_lists_18 fu) _ _ _ _ _ = _
      unfold B_Mo_lists_18
      rw [h.1, if_neg (nI_ge hpn (by omega)), has_eq hw64 (by omega), Option.bind_some]
      simp only [b2i_eq0, bit_eq (show p < 64 by omega), Option.bind_some, fb_orL, hA.1, nI_1]
    rw [e0]
    cases hb : w.testBit p with
    | false =>
      rw [if_pos rfl]
      have e : w % 2 ^ (p + 1) = w % 2 ^ p := bx (fun i => by
        rw [mod_bit, mod_bit]
        by_cases ei : i = p
        · rw [ei, hb]; simp
        · have : decide (i < p + 1) = decide (i < p) := by congr 1; apply propext; constructor <;> intro q <;> omega
          rw [this])
      have := ih fu (p + 1) A σ (by omega) (by omega) h hA (by rw [e]; exact hL)
      rw [e] at this
      exact this
    | true =>
      rw [if_neg (by decide)]
      have e : w % 2 ^ (p + 1) = w % 2 ^ p ||| 2 ^ p := bx (fun i => by
        rw [or1_bit, mod_bit, mod_bit]
        by_cases ei : i = p
        · rw [ei, hb]; simp
        · have : decide (i < p + 1) = decide (i < p) := by congr 1; apply propext; constructor <;> intro q <;> omega
          rw [this]; simp [ei])
      have hth' : w % 2 ^ p ||| 2 ^ p < 2 ^ n_n N := by rw [← e]; exact hthl (p + 1)
      have hMl : ∀ i, i < A.1 → A.2 i < 2 ^ n_n N := fun i hi => bit_lt (fun x hx => by
        cases hz : (A.2 i).testBit x with
        | false => rfl
        | true => have := (hL.2.1 i hi).1 x hz; rw [tb_out (hthl p) hx] at this; cases this)
      have hul : ∀ i, i < A.1 → upA N s p (A.2 i) < 2 ^ n_n N := fun i hi => by
        unfold upA
        split
        · exact or_lt (hMl i hi) (pow_lt hpn)
        · exact hMl i hi
      have hum : ∀ i, i < A.1 → Mx N s (w % 2 ^ p ||| 2 ^ p) (upA N s p (A.2 i)) := fun i hi => by
        unfold upA
        by_cases hf2 : fit N s p (A.2 i) = A.2 i
        · rw [if_pos hf2]; exact st_1 wf (hthl p) hpn (hL.2.1 i hi) hf2
        · rw [if_neg hf2]; exact st_2 (hL.2.1 i hi) hf2
      obtain ⟨σ1, e1, g1, g2⟩ := mo_ls_a wf (A := A.2) (w := lN w) (th := lN (w % 2 ^ p ||| 2 ^ p)) hs hpn hal hMl (k18 := L_Mo_lists_18 fu) A.1 LF 0 σ (by omega) (by rw [LF_big]; omega) h hA.1 (fun i hi => absurd hi (Nat.not_lt_zero i)) (fun i _ hi => hA.2 i hi)
      obtain ⟨σ2, B, e2, b1, b2, b3, b4, b5, b6, b7⟩ := mo_ls_b wf (A := fun i => upA N s p (A.2 i)) (w := lN w) hs hpn hth' (by rw [← e]; exact hth16 (p + 1)) hul (fun i hi hok => by
        have hup : upA N s p (A.2 i) = A.2 i := by
          unfold upA
          split
          · rename_i hz
            have := hok.1
            unfold upA at this
            rw [if_pos hz, or1_bit] at this
            simp at this
          · rfl
        have h0 := hok.2
        show Mx N s (w % 2 ^ p ||| 2 ^ p) (cdA N s p (upA N s p (A.2 i)))
        rw [hup] at h0 ⊢
        exact st_3 wf (hthl p) hpn (hL.2.1 i hi) h0) (k18 := L_Mo_lists_18 fu) A.1 LF 0 (A.1, fun i => upA N s p (A.2 i)) σ1 (by omega) (by rw [LF_big]; omega) (h.kH g2) g1 (Nat.le_refl _) (fun _ _ => rfl) (up_inj hpt hL) hum (fun i hi => absurd hi (Nat.not_lt_zero i))
      have hL2 := ls_step wf hs hpn (hthl p) hpt hL b3 b4 b5 b6 b7
      rw [← e] at hL2 e1 e2
      obtain ⟨σ', A', e3, c1, c2, c3⟩ := ih fu (p + 1) B σ2 (by omega) (by omega) ((h.kH g2).kH b2) b1 hL2
      refine ⟨σ', A', ?_, c1, c2, (g2.tr b2).tr c3⟩
      rw [← e]
      exact (e1.trans e2).trans e3
theorem mo_lists {N : Nt} (wf : WfN N) {s w : Nat} (hs : s < 2) (hw : w < 2 ^ n_n N) (h16 : pc w ≤ 16) {σ : Sto} (h : ModAt σ N) : ∃ σ' A, f_Mo_lists (nI s) (lN w) σ = some ((), σ') ∧ RgM σ' A ∧ LsP N s w A ∧ Scr kH σ σ' := by
  have hn := wf.1
  have hs0 : Scr kH σ (sI (sL σ 57 0 0) 48 15 1) := (Scr.sL (kH_f (by omega))).tr (Scr.sI (kH_f (by omega)))
  obtain ⟨σ', A, e, a1, a2, a3⟩ := mo_ls_loop wf hs hw h16 (n_n N) LF 0 (1, fun _ => 0) (sI (sL σ 57 0 0) 48 15 1) (by omega) (by rw [LF_big]; omega) (h.kH hs0) ⟨g_sI_eq _ _ _ _, fun i hi => by
    have hi' : i < 1 := hi
    have : i = 0 := by omega
    subst this
    rw [gL_sI, g_sL_eq]; rfl⟩ ⟨fun i j hij hj => by have hj' : j < 1 := hj; omega, fun i hi => by
    rw [Nat.pow_zero, Nat.mod_one]
    exact gs_0.2 ⟨rfl, rfl⟩, fun R hR => by
    rw [Nat.pow_zero, Nat.mod_one] at hR
    exact ⟨0, by show 0 < 1; omega, (gs_0.1 hR).1.symm⟩⟩
  rw [Nat.pow_zero, Nat.mod_one] at e
  refine ⟨σ', A, ?_, a1, a2, hs0.tr a3⟩
  unfold f_Mo_lists B_Mo_lists_0
  simp only [show inb (0 : Int32) 400 = true by decide +kernel, if_true, show (0 : Int32).toNatClampNeg = 0 by decide +kernel, lt1_eq]
  exact e
