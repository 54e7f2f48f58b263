/-! THE STATE, as class and reference both hold it -/
abbrev Ast : Type := Nt × Option Nt × (Nat × (Nat → Int32)) × (Nat × (Nat → Nat)) × (Nat → Int32 × Nat × (Nat → Int32)) × (Nat → Nat × Int64 × Nat × Nat)
abbrev s_N (A : Ast) : Nt := A.1
abbrev s_K (A : Ast) : Option Nt := A.2.1
abbrev s_P (A : Ast) : Nat × (Nat → Int32) := A.2.2.1
abbrev s_T (A : Ast) : Nat × (Nat → Nat) := A.2.2.2.1
abbrev s_S (A : Ast) : Nat → Int32 × Nat × (Nat → Int32) := A.2.2.2.2.1
abbrev s_H (A : Ast) : Nat → Nat × Int64 × Nat × Nat := A.2.2.2.2.2
def WfA (A : Ast) : Prop :=
  WfN (s_N A) ∧ (∀ N, s_K A = some N → WfN N) ∧ ((s_P A).1 ≤ 200 ∧ ∀ i, i < (s_P A).1 → (s_P A).2 i = -1 ∨ ∃ p, p < 40 ∧ (s_P A).2 i = nI p) ∧ ((s_T A).1 ≤ 160 ∧ ∀ i, i < (s_T A).1 → (s_T A).2 i < 256) ∧
  (∀ q, q < 4 → (s_S A q).2.1 ≤ 60 ∧ (((s_S A q).1 = -1 ∧ (s_S A q).2.1 = 0) ∨ (s_S A q).1 = 0 ∨ (s_S A q).1 = 1 ∨ (s_S A q).1 = 2)) ∧
  (∀ q, q < 4 → (s_H A q).1 < 4 ∧ ((s_H A q).1 = 1 → (s_H A q).2.2.1 < 6 ∧ (s_H A q).2.2.2 < 100) ∧ ((s_H A q).1 = 2 → ∃ r, r < 5 ∧ (s_H A q).2.1 = lN r))
/-- the class's cells -/
def CSt (σ : Sto) (A : Ast) : Prop :=
  NetAt σ 1 (s_N A) ∧ (match s_K A with | none => gI σ 0 3 = 0 | some N => gI σ 0 3 = 1 ∧ NetAt σ 6 N) ∧ (gI σ 21 1 = nI (s_P A).1 ∧ ∀ i, i < (s_P A).1 → gI σ 22 i = (s_P A).2 i) ∧ (gI σ 31 0 = nI (s_T A).1 ∧ ∀ i, i < (s_T A).1 → gI σ 32 i = vp_nar .byte (nI ((s_T A).2 i))) ∧
  (∀ q, q < 4 → gI σ (36 + 2 * q) 0 = (s_S A q).1 ∧ gI σ (36 + 2 * q) 1 = nI (s_S A q).2.1 ∧ ∀ i, i < (s_S A q).2.1 → gI σ (37 + 2 * q) i = (s_S A q).2.2 i) ∧
  (∀ q, q < 4 → gI σ (44 + q) 0 = nI (s_H A q).1 ∧ ((s_H A q).1 = 1 → gI σ (44 + q) 2 = nI (s_H A q).2.2.1 ∧ gI σ (44 + q) 3 = nI (s_H A q).2.2.2) ∧ (2 ≤ (s_H A q).1 → gL σ (44 + q) 1 = (s_H A q).2.1))
/-- the reference's cells -/
def MSt (σ : Sto) (A : Ast) : Prop :=
  ModAt σ (s_N A) ∧ (match s_K A with | none => gI σ 48 4 = 0 | some N => gI σ 48 4 = 1 ∧ gI σ 48 5 = nI (n_n N) ∧ ∀ p, p < n_n N → gI σ 52 p = nI (n_k N p) ∧ gI σ 53 p = nI (n_f N p) ∧ gL σ 54 p = lN (n_j N p)) ∧ (gI σ 48 19 = nI (s_P A).1 ∧ ∀ i, i < (s_P A).1 → gI σ 60 i = (s_P A).2 i) ∧ (gI σ 48 24 = nI (s_T A).1 ∧ ∀ i, i < (s_T A).1 → gI σ 62 i = nI ((s_T A).2 i)) ∧
  (∀ q, q < 4 → gI σ 69 q = (s_S A q).1 ∧ gI σ 70 q = nI (s_S A q).2.1 ∧ ∀ i, i < (s_S A q).2.1 → gI σ 71 (60 * q + i) = (s_S A q).2.2 i) ∧
  (∀ q, q < 4 → gI σ 66 q = nI (s_H A q).1 ∧ ((s_H A q).1 = 1 → gI σ 68 q = nI (s_H A q).2.2.1 ∧ gL σ 67 q = lN (s_H A q).2.2.2) ∧ (2 ≤ (s_H A q).1 → gL σ 67 q = (s_H A q).2.1))
def St (σ : Sto) : Prop := ∃ A, WfA A ∧ CSt σ A ∧ MSt σ A
/-- what the class keeps from call to call, and all that is the reference's -/
def kC (c j : Nat) : Bool := decide (c < 11) || (decide (c = 21) && decide (j = 1)) || decide (c = 22) || (decide (c = 31) && decide (j = 0)) || decide (c = 32) || decide (34 ≤ c)
def kM (c j : Nat) : Bool := decide (c < 48) || (decide (c = 48) && (decide (j = 0) || decide (j = 4) || decide (j = 5) || decide (j = 19) || decide (j = 24))) || decide (c = 49) || decide (c = 50) || decide (c = 51) || decide (c = 52) || decide (c = 53) || decide (c = 54) || decide (c = 60) || decide (c = 62) || decide (66 ≤ c)
def Scr (k : Nat → Nat → Bool) (σ σ' : Sto) : Prop := ∀ c j, k c j = true → gI σ' c j = gI σ c j ∧ gL σ' c j = gL σ c j
theorem Scr.rf {k : Nat → Nat → Bool} {σ : Sto} : Scr k σ σ := fun _ _ _ => ⟨rfl, rfl⟩
theorem Scr.tr {k : Nat → Nat → Bool} {a b c : Sto} (h1 : Scr k a b) (h2 : Scr k b c) : Scr k a c := fun x y h => ⟨(h2 x y h).1.trans (h1 x y h).1, (h2 x y h).2.trans (h1 x y h).2⟩
theorem Scr.sI {k : Nat → Nat → Bool} {σ : Sto} {o j : Nat} {v : Int32} (h : k o j = false) : Scr k σ (sI σ o j v) := fun c i hc => ⟨g_sI_ne (by rintro ⟨rfl, rfl⟩; rw [h] at hc; cases hc), rfl⟩
theorem Scr.sL {k : Nat → Nat → Bool} {σ : Sto} {o j : Nat} {v : Int64} (h : k o j = false) : Scr k σ (sL σ o j v) := fun c i hc => ⟨rfl, g_sL_ne (by rintro ⟨rfl, rfl⟩; rw [h] at hc; cases hc)⟩
theorem Scr.sN {k : Nat → Nat → Bool} {σ : Sto} {n : Nat} : Scr k σ (sN σ n) := fun _ _ _ => ⟨rfl, rfl⟩
theorem NetAt.scr {σ σ' : Sto} {o : Nat} {N : Nt} (h : NetAt σ o N) (hI : ∀ c j, o ≤ c → c < o + 5 → gI σ' c j = gI σ c j) (hL : ∀ j, gL σ' (o + 3) j = gL σ (o + 3) j) : NetAt σ' o N := by
  refine ⟨by rw [hI o 0 (by omega) (by omega)]; exact h.1, fun p hp => ?_⟩
  obtain ⟨h1, h2, h3, h4⟩ := h.2 p hp
  exact ⟨by rw [hI _ _ (by omega) (by omega)]; exact h1, by rw [hI _ _ (by omega) (by omega)]; exact h2, by rw [hL]; exact h3, by rw [hI _ _ (by omega) (by omega)]; exact h4⟩
/-- the class's state rests on its kept places alone -/
theorem CSt.of {σ σ' : Sto} {A : Ast} (h : CSt σ A) (hs : ∀ c j, kC c j = true → c < 48 → gI σ' c j = gI σ c j ∧ gL σ' c j = gL σ c j) : CSt σ' A := by
  obtain ⟨h1, h2, ⟨h3, h3b⟩, ⟨h4, h4b⟩, h5, h6⟩ := h
  have e : ∀ c j, c < 11 → gI σ' c j = gI σ c j ∧ gL σ' c j = gL σ c j := fun c j hc => hs c j (by simp [kC, hc]) (by omega)
  refine ⟨h1.scr (fun c j a b => (e c j (by omega)).1) (fun j => (e 4 j (by omega)).2), ?_, ⟨?_, ?_⟩, ⟨?_, ?_⟩, ?_, ?_⟩
  · cases hK : s_K A with
    | none => rw [hK] at h2; exact ((e 0 3 (by omega)).1).trans h2
    | some N => rw [hK] at h2; exact ⟨((e 0 3 (by omega)).1).trans h2.1, h2.2.scr (fun c j a b => (e c j (by omega)).1) (fun j => (e 9 j (by omega)).2)⟩
  · rw [(hs 21 1 (by decide) (by omega)).1]; exact h3
  · intro i hi
    rw [(hs 22 i (by simp [kC]) (by omega)).1]; exact h3b i hi
  · rw [(hs 31 0 (by decide) (by omega)).1]; exact h4
  · intro i hi
    rw [(hs 32 i (by simp [kC]) (by omega)).1]; exact h4b i hi
  · intro q hq
    obtain ⟨a1, a2, a3⟩ := h5 q hq
    have k1 : ∀ c j, 36 ≤ c → kC c j = true := fun c j hc => by
      have : 34 ≤ c := by omega
      simp [kC, this]
    refine ⟨by rw [(hs _ _ (k1 _ _ (by omega)) (by omega)).1]; exact a1, by rw [(hs _ _ (k1 _ _ (by omega)) (by omega)).1]; exact a2, fun i hi => by rw [(hs _ _ (k1 _ _ (by omega)) (by omega)).1]; exact a3 i hi⟩
  · intro q hq
    obtain ⟨a1, a2, a3⟩ := h6 q hq
    have k1 : ∀ c j, 36 ≤ c → kC c j = true := fun c j hc => by
      have : 34 ≤ c := by omega
      simp [kC, this]
    exact ⟨by rw [(hs _ _ (k1 _ _ (by omega)) (by omega)).1]; exact a1, fun z => ⟨by rw [(hs _ _ (k1 _ _ (by omega)) (by omega)).1]; exact (a2 z).1, by rw [(hs _ _ (k1 _ _ (by omega)) (by omega)).1]; exact (a2 z).2⟩, fun z => by rw [(hs _ _ (k1 _ _ (by omega)) (by omega)).2]; exact a3 z⟩
theorem MSt.of {σ σ' : Sto} {A : Ast} (h : MSt σ A) (hs : ∀ c j, kM c j = true → 48 ≤ c → gI σ' c j = gI σ c j ∧ gL σ' c j = gL σ c j) : MSt σ' A := by
  obtain ⟨h1, h2, ⟨h3, h3b⟩, ⟨h4, h4b⟩, h5, h6⟩ := h
  refine ⟨⟨?_, fun p hp => ?_⟩, ?_, ⟨?_, ?_⟩, ⟨?_, ?_⟩, ?_, ?_⟩
  · rw [(hs 48 0 (by decide) (by omega)).1]; exact h1.1
  · obtain ⟨a1, a2, a3⟩ := h1.2 p hp
    exact ⟨by rw [(hs 49 p (by simp [kM]) (by omega)).1]; exact a1, by rw [(hs 50 p (by simp [kM]) (by omega)).1]; exact a2, by rw [(hs 51 p (by simp [kM]) (by omega)).2]; exact a3⟩
  · cases hK : s_K A with
    | none => rw [hK] at h2; exact ((hs 48 4 (by decide) (by omega)).1).trans h2
    | some N =>
      rw [hK] at h2
      refine ⟨((hs 48 4 (by decide) (by omega)).1).trans h2.1, ((hs 48 5 (by decide) (by omega)).1).trans h2.2.1, fun p hp => ?_⟩
      obtain ⟨a1, a2, a3⟩ := h2.2.2 p hp
      exact ⟨by rw [(hs 52 p (by simp [kM]) (by omega)).1]; exact a1, by rw [(hs 53 p (by simp [kM]) (by omega)).1]; exact a2, by rw [(hs 54 p (by simp [kM]) (by omega)).2]; exact a3⟩
  · rw [(hs 48 19 (by decide) (by omega)).1]; exact h3
  · intro i hi
    rw [(hs 60 i (by simp [kM]) (by omega)).1]; exact h3b i hi
  · rw [(hs 48 24 (by decide) (by omega)).1]; exact h4
  · intro i hi
    rw [(hs 62 i (by simp [kM]) (by omega)).1]; exact h4b i hi
  · intro q hq
    obtain ⟨a1, a2, a3⟩ := h5 q hq
    exact ⟨by rw [(hs 69 q (by simp [kM]) (by omega)).1]; exact a1, by rw [(hs 70 q (by simp [kM]) (by omega)).1]; exact a2, fun i hi => by rw [(hs 71 _ (by simp [kM]) (by omega)).1]; exact a3 i hi⟩
  · intro q hq
    obtain ⟨a1, a2, a3⟩ := h6 q hq
    exact ⟨by rw [(hs 66 q (by simp [kM]) (by omega)).1]; exact a1, fun z => ⟨by rw [(hs 68 q (by simp [kM]) (by omega)).1]; exact (a2 z).1, by rw [(hs 67 q (by simp [kM]) (by omega)).2]; exact (a2 z).2⟩, fun z => by rw [(hs 67 q (by simp [kM]) (by omega)).2]; exact a3 z⟩
theorem kC_hi {c j : Nat} (h : 48 ≤ c) : kC c j = true := by
  have : 34 ≤ c := by omega
  simp [kC, this]
theorem kM_lo {c j : Nat} (h : c < 48) : kM c j = true := by simp [kM, h]
theorem CSt.scrC {σ σ' : Sto} {A : Ast} (h : CSt σ A) (hs : Scr kC σ σ') : CSt σ' A := h.of (fun c j k _ => hs c j k)
theorem MSt.scrC {σ σ' : Sto} {A : Ast} (h : MSt σ A) (hs : Scr kC σ σ') : MSt σ' A := h.of (fun c j _ k => hs c j (kC_hi k))
theorem CSt.scrM {σ σ' : Sto} {A : Ast} (h : CSt σ A) (hs : Scr kM σ σ') : CSt σ' A := h.of (fun c j _ k => hs c j (kM_lo k))
theorem MSt.scrM {σ σ' : Sto} {A : Ast} (h : MSt σ A) (hs : Scr kM σ σ') : MSt σ' A := h.of (fun c j k _ => hs c j k)
/-- nothing of the reference's changed; nothing of the class's changed -/
def HiEq (σ σ' : Sto) : Prop := ∀ c j, 48 ≤ c → gI σ' c j = gI σ c j ∧ gL σ' c j = gL σ c j
def LoEq (σ σ' : Sto) : Prop := ∀ c j, c < 48 → gI σ' c j = gI σ c j ∧ gL σ' c j = gL σ c j
theorem MSt.hi {σ σ' : Sto} {A : Ast} (h : MSt σ A) (hs : HiEq σ σ') : MSt σ' A := h.of (fun c j _ k => hs c j k)
theorem CSt.lo {σ σ' : Sto} {A : Ast} (h : CSt σ A) (hs : LoEq σ σ') : CSt σ' A := h.of (fun c j _ k => hs c j k)
theorem FrN.hi {o : Nat} {σ σ' : Sto} (h : FrN o σ σ') (ho : o + 5 ≤ 48) : HiEq σ σ' := fun c j hc => ⟨(h.1 c (Or.inr (by omega))).1 j, (h.1 c (Or.inr (by omega))).2 j⟩
theorem FrJ.lo {σ σ' : Sto} (h : FrJ σ σ') : LoEq σ σ' := fun c j hc => ⟨h.1 c j, h.2.1 c (by omega) j⟩
/-- one call of the law: class and reference answer alike, and hold one state again -/
def Op {R : Type} (fx fm : Sto → Option (R × Sto)) : Prop := ∀ σ, St σ → ∃ (r : R) (σ1 σ2 : Sto), fx σ = some (r, σ1) ∧ fm σ1 = some (r, σ2) ∧ St σ2
/-- .. through what both answer of a state, and make of it -/
theorem Op.mk {R : Type} {fx fm : Sto → Option (R × Sto)} (r : Ast → R) (n : Ast → Ast)
    (hc : ∀ σ A, WfA A → CSt σ A → ∃ σ1, fx σ = some (r A, σ1) ∧ WfA (n A) ∧ CSt σ1 (n A) ∧ HiEq σ σ1) (hm : ∀ σ A, WfA A → MSt σ A → ∃ σ2, fm σ = some (r A, σ2) ∧ MSt σ2 (n A) ∧ LoEq σ σ2) : Op fx fm := by
  rintro σ ⟨A, wf, hC, hM⟩
  obtain ⟨σ1, e1, wf', hC1, hH⟩ := hc σ A wf hC
  obtain ⟨σ2, e2, hM2, hL⟩ := hm σ1 A wf (hM.hi hH)
  exact ⟨_, σ1, σ2, e1, e2, n A, wf', hC1.lo hL, hM2⟩
/-- a question changes nothing that is kept -/
theorem Op.ask {R : Type} {fx fm : Sto → Option (R × Sto)} (r : Ast → R)
    (hc : ∀ σ A, WfA A → CSt σ A → ∃ σ1, fx σ = some (r A, σ1) ∧ Scr kC σ σ1) (hm : ∀ σ A, WfA A → MSt σ A → ∃ σ2, fm σ = some (r A, σ2) ∧ Scr kM σ σ2) : Op fx fm :=
  Op.mk r id (fun σ A wf h => by
    obtain ⟨σ1, e, s⟩ := hc σ A wf h
    exact ⟨σ1, e, wf, h.scrC s, fun c j hc => s c j (kC_hi hc)⟩) (fun σ A wf h => by
    obtain ⟨σ2, e, s⟩ := hm σ A wf h
    exact ⟨σ2, e, h.scrM s, fun c j hc => s c j (kM_lo hc)⟩)
