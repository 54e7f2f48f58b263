/-! rows and hands changed: cell, hold -/
def setS (A : Ast) (q : Nat) (s : Int32 × Nat × (Nat → Int32)) : Ast := (A.1, A.2.1, A.2.2.1, A.2.2.2.1, (fun j => if j = q then s else s_S A j), A.2.2.2.2.2)
def setH (A : Ast) (q : Nat) (s : Nat × Int64 × Nat × Nat) : Ast := (A.1, A.2.1, A.2.2.1, A.2.2.2.1, A.2.2.2.2.1, fun j => if j = q then s else s_H A j)
theorem setS_wf {A : Ast} (wf : WfA A) {q : Nat} {s : Int32 × Nat × (Nat → Int32)} (hs : s.2.1 ≤ 60 ∧ ((s.1 = -1 ∧ s.2.1 = 0) ∨ s.1 = 0 ∨ s.1 = 1 ∨ s.1 = 2)) : WfA (setS A q s) := by
  obtain ⟨w1, w2, w3, w4, w5, w6⟩ := wf
  refine ⟨w1, w2, w3, w4, fun j hj => ?_, w6⟩
  show (if j = q then s else s_S A j).2.1 ≤ 60 ∧ (((if j = q then s else s_S A j).1 = -1 ∧ (if j = q then s else s_S A j).2.1 = 0) ∨ (if j = q then s else s_S A j).1 = 0 ∨ (if j = q then s else s_S A j).1 = 1 ∨ (if j = q then s else s_S A j).1 = 2)
  by_cases e : j = q
  · rw [if_pos e]; exact hs
  · rw [if_neg e]; exact w5 j hj
theorem setH_wf {A : Ast} (wf : WfA A) {q : Nat} {s : Nat × Int64 × Nat × Nat} (hs : s.1 < 4 ∧ (s.1 = 1 → s.2.2.1 < 6 ∧ s.2.2.2 < 100) ∧ (s.1 = 2 → ∃ r, r < 5 ∧ s.2.1 = lN r)) : WfA (setH A q s) := by
  obtain ⟨w1, w2, w3, w4, w5, w6⟩ := wf
  refine ⟨w1, w2, w3, w4, w5, fun j hj => ?_⟩
  show (if j = q then s else s_H A j).1 < 4 ∧ ((if j = q then s else s_H A j).1 = 1 → (if j = q then s else s_H A j).2.2.1 < 6 ∧ (if j = q then s else s_H A j).2.2.2 < 100) ∧ ((if j = q then s else s_H A j).1 = 2 → ∃ r, r < 5 ∧ (if j = q then s else s_H A j).2.1 = lN r)
  by_cases e : j = q
  · rw [if_pos e]; exact hs
  · rw [if_neg e]; exact w6 j hj
theorem CSt.shU {σ σ' : Sto} {A : Ast} (h : CSt σ A) {q : Nat} {s : Int32 × Nat × (Nat → Int32)} (hf : ∀ c j, c ≠ 36 + 2 * q → c ≠ 37 + 2 * q → gI σ' c j = gI σ c j ∧ gL σ' c j = gL σ c j)
    (hq : q < 4) (n1 : gI σ' (36 + 2 * q) 0 = s.1) (n2 : gI σ' (36 + 2 * q) 1 = nI s.2.1) (n3 : ∀ i, i < s.2.1 → gI σ' (37 + 2 * q) i = s.2.2 i) : CSt σ' (setS A q s) := by
  obtain ⟨h1, h2, ⟨h3, h3b⟩, ⟨h4, h4b⟩, h5, h6⟩ := h
  refine ⟨h1.scr (fun c j a b => (hf c j (by omega) (by omega)).1) (fun j => (hf 4 j (by omega) (by omega)).2), ?_, ⟨?_, ?_⟩, ⟨?_, ?_⟩, ?_, ?_⟩
  · show (match s_K A with | none => gI σ' 0 3 = 0 | some N => gI σ' 0 3 = 1 ∧ NetAt σ' 6 N)
    cases hK : s_K A with
    | none => rw [hK] at h2; exact ((hf 0 3 (by omega) (by omega)).1).trans h2
    | some N => rw [hK] at h2; exact ⟨((hf 0 3 (by omega) (by omega)).1).trans h2.1, h2.2.scr (fun c j a b => (hf c j (by omega) (by omega)).1) (fun j => (hf 9 j (by omega) (by omega)).2)⟩
  · rw [(hf 21 1 (by omega) (by omega)).1]; exact h3
  · intro i hi
    rw [(hf 22 i (by omega) (by omega)).1]; exact h3b i hi
  · rw [(hf 31 0 (by omega) (by omega)).1]; exact h4
  · intro i hi
    rw [(hf 32 i (by omega) (by omega)).1]; exact h4b i hi
  · intro j hj
    show gI σ' (36 + 2 * j) 0 = (if j = q then s else s_S A j).1 ∧ gI σ' (36 + 2 * j) 1 = nI (if j = q then s else s_S A j).2.1 ∧ ∀ i, i < (if j = q then s else s_S A j).2.1 → gI σ' (37 + 2 * j) i = (if j = q then s else s_S A j).2.2 i
    by_cases e : j = q
    · subst e; rw [if_pos rfl]; exact ⟨n1, n2, n3⟩
    · rw [if_neg e, (hf (36 + 2 * j) 0 (by omega) (by omega)).1, (hf (36 + 2 * j) 1 (by omega) (by omega)).1]
      obtain ⟨a1, a2, a3⟩ := h5 j hj
      exact ⟨a1, a2, fun i hi => by rw [(hf (37 + 2 * j) i (by omega) (by omega)).1]; exact a3 i hi⟩
  · intro j hj
    obtain ⟨a1, a2, a3⟩ := h6 j hj
    exact ⟨by rw [(hf _ _ (by omega) (by omega)).1]; exact a1, fun z => ⟨by rw [(hf _ _ (by omega) (by omega)).1]; exact (a2 z).1, by rw [(hf _ _ (by omega) (by omega)).1]; exact (a2 z).2⟩, fun z => by rw [(hf _ _ (by omega) (by omega)).2]; exact a3 z⟩
theorem CSt.hdU {σ σ' : Sto} {A : Ast} (h : CSt σ A) {q : Nat} {s : Nat × Int64 × Nat × Nat} (hf : ∀ c j, c ≠ 44 + q → gI σ' c j = gI σ c j ∧ gL σ' c j = gL σ c j)
    (hq : q < 4) (n1 : gI σ' (44 + q) 0 = nI s.1) (n2 : s.1 = 1 → gI σ' (44 + q) 2 = nI s.2.2.1 ∧ gI σ' (44 + q) 3 = nI s.2.2.2) (n3 : 2 ≤ s.1 → gL σ' (44 + q) 1 = s.2.1) : CSt σ' (setH A q s) := by
  obtain ⟨h1, h2, ⟨h3, h3b⟩, ⟨h4, h4b⟩, h5, h6⟩ := h
  refine ⟨h1.scr (fun c j a b => (hf c j (by omega)).1) (fun j => (hf 4 j (by omega)).2), ?_, ⟨?_, ?_⟩, ⟨?_, ?_⟩, ?_, ?_⟩
  · show (match s_K A with | none => gI σ' 0 3 = 0 | some N => gI σ' 0 3 = 1 ∧ NetAt σ' 6 N)
    cases hK : s_K A with
    | none => rw [hK] at h2; exact ((hf 0 3 (by omega)).1).trans h2
    | some N => rw [hK] at h2; exact ⟨((hf 0 3 (by omega)).1).trans h2.1, h2.2.scr (fun c j a b => (hf c j (by omega)).1) (fun j => (hf 9 j (by omega)).2)⟩
  · rw [(hf 21 1 (by omega)).1]; exact h3
  · intro i hi
    rw [(hf 22 i (by omega)).1]; exact h3b i hi
  · rw [(hf 31 0 (by omega)).1]; exact h4
  · intro i hi
    rw [(hf 32 i (by omega)).1]; exact h4b i hi
  · intro j hj
    obtain ⟨a1, a2, a3⟩ := h5 j hj
    exact ⟨by rw [(hf _ _ (by omega)).1]; exact a1, by rw [(hf _ _ (by omega)).1]; exact a2, fun i hi => by rw [(hf _ _ (by omega)).1]; exact a3 i hi⟩
  · intro j hj
    show gI σ' (44 + j) 0 = nI (if j = q then s else s_H A j).1 ∧ ((if j = q then s else s_H A j).1 = 1 → gI σ' (44 + j) 2 = nI (if j = q then s else s_H A j).2.2.1 ∧ gI σ' (44 + j) 3 = nI (if j = q then s else s_H A j).2.2.2) ∧ (2 ≤ (if j = q then s else s_H A j).1 → gL σ' (44 + j) 1 = (if j = q then s else s_H A j).2.1)
    by_cases e : j = q
    · subst e; rw [if_pos rfl]; exact ⟨n1, n2, n3⟩
    · rw [if_neg e, (hf (44 + j) 0 (by omega)).1, (hf (44 + j) 2 (by omega)).1, (hf (44 + j) 3 (by omega)).1, (hf (44 + j) 1 (by omega)).2]
      exact h6 j hj
theorem MSt.shU {σ σ' : Sto} {A : Ast} (h : MSt σ A) {q : Nat} {s : Int32 × Nat × (Nat → Int32)} (hf : ∀ c j, c ≠ 69 → c ≠ 70 → c ≠ 71 → gI σ' c j = gI σ c j) (hl : ∀ c j, gL σ' c j = gL σ c j)
    (k1 : ∀ j, j ≠ q → gI σ' 69 j = gI σ 69 j) (k2 : ∀ j, j ≠ q → gI σ' 70 j = gI σ 70 j) (k3 : ∀ j, ¬ (60 * q ≤ j ∧ j < 60 * q + 60) → gI σ' 71 j = gI σ 71 j) (wf : WfA A)
    (n1 : gI σ' 69 q = s.1) (n2 : gI σ' 70 q = nI s.2.1) (n3 : ∀ i, i < s.2.1 → gI σ' 71 (60 * q + i) = s.2.2 i) : MSt σ' (setS A q s) := by
  obtain ⟨h1, h2, ⟨h3, h3b⟩, ⟨h4, h4b⟩, h5, h6⟩ := h
  refine ⟨⟨?_, fun p hp => ?_⟩, ?_, ⟨?_, ?_⟩, ⟨?_, ?_⟩, ?_, ?_⟩
  · rw [hf 48 0 (by omega) (by omega) (by omega)]; exact h1.1
  · obtain ⟨a1, a2, a3⟩ := h1.2 p hp
    exact ⟨by rw [hf 49 p (by omega) (by omega) (by omega)]; exact a1, by rw [hf 50 p (by omega) (by omega) (by omega)]; exact a2, by rw [hl]; exact a3⟩
  · show (match s_K A with | none => gI σ' 48 4 = 0 | some N => gI σ' 48 4 = 1 ∧ gI σ' 48 5 = nI (n_n N) ∧ ∀ p, p < n_n N → gI σ' 52 p = nI (n_k N p) ∧ gI σ' 53 p = nI (n_f N p) ∧ gL σ' 54 p = lN (n_j N p))
    cases hK : s_K A with
    | none => rw [hK] at h2; exact (hf 48 4 (by omega) (by omega) (by omega)).trans h2
    | some N =>
      rw [hK] at h2
      refine ⟨(hf 48 4 (by omega) (by omega) (by omega)).trans h2.1, (hf 48 5 (by omega) (by omega) (by omega)).trans h2.2.1, fun p hp => ?_⟩
      obtain ⟨a1, a2, a3⟩ := h2.2.2 p hp
      exact ⟨by rw [hf 52 p (by omega) (by omega) (by omega)]; exact a1, by rw [hf 53 p (by omega) (by omega) (by omega)]; exact a2, by rw [hl]; exact a3⟩
  · rw [hf 48 19 (by omega) (by omega) (by omega)]; exact h3
  · intro i hi
    rw [hf 60 i (by omega) (by omega) (by omega)]; exact h3b i hi
  · rw [hf 48 24 (by omega) (by omega) (by omega)]; exact h4
  · intro i hi
    rw [hf 62 i (by omega) (by omega) (by omega)]; exact h4b i hi
  · intro j hj
    show gI σ' 69 j = (if j = q then s else s_S A j).1 ∧ gI σ' 70 j = nI (if j = q then s else s_S A j).2.1 ∧ ∀ i, i < (if j = q then s else s_S A j).2.1 → gI σ' 71 (60 * j + i) = (if j = q then s else s_S A j).2.2 i
    by_cases e : j = q
    · subst e; rw [if_pos rfl]; exact ⟨n1, n2, n3⟩
    · rw [if_neg e, k1 j e, k2 j e]
      obtain ⟨a1, a2, a3⟩ := h5 j hj
      have hm := (wf.2.2.2.2.1 j hj).1
      exact ⟨a1, a2, fun i hi => by rw [k3 _ (by omega)]; exact a3 i hi⟩
  · intro j hj
    obtain ⟨a1, a2, a3⟩ := h6 j hj
    exact ⟨by rw [hf 66 j (by omega) (by omega) (by omega)]; exact a1, fun z => ⟨by rw [hf 68 j (by omega) (by omega) (by omega)]; exact (a2 z).1, by rw [hl]; exact (a2 z).2⟩, fun z => by rw [hl]; exact a3 z⟩
theorem MSt.hdU {σ σ' : Sto} {A : Ast} (h : MSt σ A) {q : Nat} {s : Nat × Int64 × Nat × Nat} (hf : ∀ c j, ¬ (c = 66 ∧ j = q) → ¬ (c = 68 ∧ j = q) → gI σ' c j = gI σ c j) (hl : ∀ c j, ¬ (c = 67 ∧ j = q) → gL σ' c j = gL σ c j)
    (n1 : gI σ' 66 q = nI s.1) (n2 : s.1 = 1 → gI σ' 68 q = nI s.2.2.1 ∧ gL σ' 67 q = lN s.2.2.2) (n3 : 2 ≤ s.1 → gL σ' 67 q = s.2.1) : MSt σ' (setH A q s) := by
  obtain ⟨h1, h2, ⟨h3, h3b⟩, ⟨h4, h4b⟩, h5, h6⟩ := h
  refine ⟨⟨?_, fun p hp => ?_⟩, ?_, ⟨?_, ?_⟩, ⟨?_, ?_⟩, ?_, ?_⟩
  · rw [hf 48 0 (by omega) (by omega)]; exact h1.1
  · obtain ⟨a1, a2, a3⟩ := h1.2 p hp
    exact ⟨by rw [hf 49 p (by omega) (by omega)]; exact a1, by rw [hf 50 p (by omega) (by omega)]; exact a2, by rw [hl 51 p (by omega)]; exact a3⟩
  · show (match s_K A with | none => gI σ' 48 4 = 0 | some N => gI σ' 48 4 = 1 ∧ gI σ' 48 5 = nI (n_n N) ∧ ∀ p, p < n_n N → gI σ' 52 p = nI (n_k N p) ∧ gI σ' 53 p = nI (n_f N p) ∧ gL σ' 54 p = lN (n_j N p))
    cases hK : s_K A with
    | none => rw [hK] at h2; exact (hf 48 4 (by omega) (by omega)).trans h2
    | some N =>
      rw [hK] at h2
      refine ⟨(hf 48 4 (by omega) (by omega)).trans h2.1, (hf 48 5 (by omega) (by omega)).trans h2.2.1, fun p hp => ?_⟩
      obtain ⟨a1, a2, a3⟩ := h2.2.2 p hp
      exact ⟨by rw [hf 52 p (by omega) (by omega)]; exact a1, by rw [hf 53 p (by omega) (by omega)]; exact a2, by rw [hl 54 p (by omega)]; exact a3⟩
  · rw [hf 48 19 (by omega) (by omega)]; exact h3
  · intro i hi
    rw [hf 60 i (by omega) (by omega)]; exact h3b i hi
  · rw [hf 48 24 (by omega) (by omega)]; exact h4
  · intro i hi
    rw [hf 62 i (by omega) (by omega)]; exact h4b i hi
  · intro j hj
    obtain ⟨a1, a2, a3⟩ := h5 j hj
    exact ⟨by rw [hf 69 j (by omega) (by omega)]; exact a1, by rw [hf 70 j (by omega) (by omega)]; exact a2, fun i hi => by rw [hf 71 _ (by omega) (by omega)]; exact a3 i hi⟩
  · intro j hj
    show gI σ' 66 j = nI (if j = q then s else s_H A j).1 ∧ ((if j = q then s else s_H A j).1 = 1 → gI σ' 68 j = nI (if j = q then s else s_H A j).2.2.1 ∧ gL σ' 67 j = lN (if j = q then s else s_H A j).2.2.2) ∧ (2 ≤ (if j = q then s else s_H A j).1 → gL σ' 67 j = (if j = q then s else s_H A j).2.1)
    by_cases e : j = q
    · subst e; rw [if_pos rfl]; exact ⟨n1, n2, n3⟩
    · rw [if_neg e, hf 66 j (by omega) (by omega), hf 68 j (by omega) (by omega), hl 67 j (by omega)]
      exact h6 j hj
/-- what a row of a sort holds of a number -/
def keepI (t v : Int32) : Int32 := if t = 0 then i2b v else if t = 1 then i2s v else v
def celS (s : Int32 × Nat × (Nat → Int32)) (i : Nat) (v : Int32) : Int32 × Nat × (Nat → Int32) := (s.1, s.2.1, fun j => if j = i then keepI s.1 v else s.2.2 j)
theorem op_cell (a0 : Int32) (b1 : Int32) (c2 : Int32) : Op (f_FR_cell a0 b1 c2) (f_Mo_cell a0 b1 c2) := by
  refine Op.mk (fun A => if wrgI A a0 b1 = 0 then keepI (s_S A a0.toInt.toNat).1 c2 else wrgI A a0 b1) (fun A => if wrgI A a0 b1 = 0 then setS A a0.toInt.toNat (celS (s_S A a0.toInt.toNat) b1.toInt.toNat c2) else A) (fun σ A wf h => ?_) (fun σ A wf h => ?_)
  · unfold f_FR_cell B_FR_cell_0
    simp only [fr_wrg h wf, Option.bind_some]
    by_cases e : wrgI A a0 b1 = 0
    · obtain ⟨q, i, hq, rfl, hg, hi, rfl⟩ := wrg0 e
      have hm := (wf.2.2.2.2.1 q hq).1
      obtain ⟨a1, a2, a3⟩ := h.2.2.2.2.1 q hq
      simp only [if_pos e, nI_toInt (show q < 2 ^ 31 by omega), nI_toInt (show i < 2 ^ 31 by omega), Int.toNat_natCast]
      refine ⟨sI σ (37 + 2 * q) i (keepI (s_S A q).1 c2), ?_, setS_wf wf (wf.2.2.2.2.1 q hq), h.shU (fun c j x y => ⟨g_sI_ne (by omega), rfl⟩) hq (by rw [g_sI_ne (by omega)]; exact a1) (by rw [g_sI_ne (by omega)]; exact a2) (fun j hj => ?_), fun c j hc => ⟨g_sI_ne (by omega), rfl⟩⟩
      · unfold f_Sheet_put B_Sheet_put_0
        simp only [inb_ok (show q < 4 by omega) (show 4 < 2 ^ 31 by decide), if_true, nI_clamp (show q < 2 ^ 31 by omega), nI_clamp (show i < 2 ^ 31 by omega), sh_room a2 hm, roomB_1, ptB_nI (show i < 2 ^ 31 by omega), decide_eq_true hi, Option.bind_some, ite_bt, inb_ok (show i < 60 by omega) (show 60 < 2 ^ 31 by decide), g_sI_eq, a1, show 36 + 2 * q + 1 = 37 + 2 * q by omega]
        unfold keepI
        by_cases t0 : (s_S A q).1 = 0
        · simp only [if_pos t0, Option.bind_some]
        · by_cases t1 : (s_S A q).1 = 1
          · simp only [if_neg t0, if_pos t1, Option.bind_some]
          · simp only [if_neg t0, if_neg t1, Option.bind_some]
      · show gI (sI σ (37 + 2 * q) i (keepI (s_S A q).1 c2)) (37 + 2 * q) j = if j = i then keepI (s_S A q).1 c2 else (s_S A q).2.2 j
        by_cases e2 : j = i
        · subst e2; rw [if_pos rfl, g_sI_eq]
        · rw [if_neg e2, g_sI_ne (by omega)]; exact a3 j hj
    · exact ⟨σ, by rw [if_neg e, if_neg e], by rw [if_neg e]; exact wf, by rw [if_neg e]; exact h, fun _ _ _ => ⟨rfl, rfl⟩⟩
  · unfold f_Mo_cell B_Mo_cell_0
    simp only [mo_wrg h wf, Option.bind_some]
    by_cases e : wrgI A a0 b1 = 0
    · obtain ⟨q, i, hq, rfl, hg, hi, rfl⟩ := wrg0 e
      have hm := (wf.2.2.2.2.1 q hq).1
      obtain ⟨a1, a2, a3⟩ := h.2.2.2.2.1 q hq
      simp only [if_pos e, nI_toInt (show q < 2 ^ 31 by omega), nI_toInt (show i < 2 ^ 31 by omega), Int.toNat_natCast]
      refine ⟨sI σ 71 (60 * q + i) (keepI (s_S A q).1 c2), ?_, h.shU (fun c j _ _ _ => g_sI_ne (by omega)) (fun _ _ => rfl) (fun j _ => g_sI_ne (by omega)) (fun j _ => g_sI_ne (by omega)) (fun j hj => g_sI_ne (by omega)) wf (by rw [g_sI_ne (by omega)]; exact a1) (by rw [g_sI_ne (by omega)]; exact a2) (fun j hj => ?_), fun c j hc => ⟨g_sI_ne (by omega), rfl⟩⟩
      · simp only [inb_ok (show q < 4 by omega) (show 4 < 2 ^ 31 by decide), if_true, nI_clamp (show q < 2 ^ 31 by omega), mo_place hq (show i < 60 by omega), inb_ok (show 60 * q + i < 240 by omega) (show 240 < 2 ^ 31 by decide), nI_clamp (show 60 * q + i < 2 ^ 31 by omega), lt1_eq, g_sI_eq, a1]
        unfold keepI
        by_cases t0 : (s_S A q).1 = 0
        · simp only [if_pos t0]
        · by_cases t1 : (s_S A q).1 = 1
          · simp only [if_neg t0, if_pos t1]
          · simp only [if_neg t0, if_neg t1]
      · show gI (sI σ 71 (60 * q + i) (keepI (s_S A q).1 c2)) 71 (60 * q + j) = if j = i then keepI (s_S A q).1 c2 else (s_S A q).2.2 j
        by_cases e2 : j = i
        · subst e2; rw [if_pos rfl, g_sI_eq]
        · rw [if_neg e2, g_sI_ne (by omega)]; exact a3 j hj
    · exact ⟨σ, by rw [if_neg e, if_neg e], by rw [if_neg e]; exact h, fun _ _ _ => ⟨rfl, rfl⟩⟩
