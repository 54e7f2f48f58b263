/-! search, reaches; turning -/
theorem fi_prepare {N : Nt} (wf : WfN N) {o s m : Nat} (ho : o + 5 ≤ 26) (hcls : cls o = 4) (hm : m < 2) {σ : Sto} (h : NetAt σ o N) : ∃ σ', f_Finder_prepare o (nI s) (nI m) σ = some ((), σ') ∧ gI σ' 26 3 = nI s ∧ (∀ p, p < n_n N → gI σ' 28 p = nI (mea1 N m p)) ∧ gN σ' = o ∧ Scr kF σ σ' := by
  have hn := wf.1
  have lp : ∀ (k fu p : Nat) (τ : Sto), p + k = n_n N → k < fu → NetAt τ o N → gN τ = o → (∀ i, i < p → gI τ 28 i = nI (mea1 N m i)) → ∃ σ', L_Finder_prepare_13 fu (nI m) (nI p) τ = some ((), σ') ∧ (∀ p, p < n_n N → gI σ' 28 p = nI (mea1 N m p)) ∧ gN σ' = o ∧ (∀ c j, c ≠ 28 → gI σ' c j = gI τ c j) ∧ (∀ c j, gL σ' c j = gL τ c j) := by
    intro k
    induction k with
    | zero =>
      intro fu p τ hp hf hN hg hi
      obtain ⟨fu, rfl⟩ : ∃ z, fu = z + 1 := ⟨fu - 1, by omega⟩
      refine ⟨τ, ?_, fun i h2 => hi i (by omega), hg, fun _ _ _ => rfl, fun _ _ => rfl⟩
      show B_Finder_prepare_13 (L_Finder_prepare_13 fu) _ _ _ = _
      unfold B_Finder_prepare_13
      rw [hg, if_pos hcls, hN.1, if_pos (nI_le (by omega) (by omega))]
    | succ k ih =>
      intro fu p τ hp hf hN hg hi
      obtain ⟨fu, rfl⟩ : ∃ z, fu = z + 1 := ⟨fu - 1, by omega⟩
      obtain ⟨σ', e, a1, a2, a3, a4⟩ := ih fu (p + 1) (sI τ 28 p (nI (mea1 N m p))) (by omega) (by omega) (hN.scr (fun c j a b => g_sI_ne (by omega)) (fun j => rfl)) hg (fun i h2 => by
        by_cases ei : i = p
        · rw [ei, g_sI_eq]
        · rw [g_sI_ne (by omega)]; exact hi i (by omega))
      refine ⟨σ', ?_, a1, a2, fun c j hc => by rw [a3 c j hc, g_sI_ne (by omega)], fun c j => by rw [a4]; rfl⟩
      show B_Finder_prepare_13 (L_Finder_prepare_13 fu) _ _ _ = _
      unfold B_Finder_prepare_13
      rw [hg, if_pos hcls, hN.1, if_neg (nI_ge (by omega) (by omega)), if_pos hcls, nt_worthOf hN wf hm (show p < n_n N by omega), Option.bind_some]
      simp only [inb_ok (show p < 40 by omega) (show 40 < 2 ^ 31 by decide), if_true, nI_clamp (show p < 2 ^ 31 by omega), nI_1]
      exact e
  have hs0 : Scr kF σ (sI (sN σ o) 26 3 (nI s)) := Scr.sN.tr (Scr.sI (kF_f (by omega)))
  obtain ⟨σ', e, a1, a2, a3, a4⟩ := lp (n_n N) LF 0 (sI (sN σ o) 26 3 (nI s)) (by omega) (by rw [LF_big]; omega) (h.kF ho hs0) rfl (fun i hi => absurd hi (Nat.not_lt_zero i))
  refine ⟨σ', e, by rw [a3 26 3 (by omega), g_sI_eq], a1, a2, hs0.tr (fun c j hc => ⟨a3 c j (by rintro rfl; rw [kF_f (by omega)] at hc; cases hc), a4 c j⟩)⟩
theorem Scr.k8F {σ σ' : Sto} (hs : Scr k8 σ σ') : Scr kF σ σ' := fun c j h => hs c j (by
  apply k8_t
  revert h
  unfold kF
  simp only [Bool.not_eq_true', Bool.and_eq_false_iff, decide_eq_false_iff_not]
  omega)
/-- the greatest of all rings is one that can't grow -/
theorem top_clq {N : Nt} (wf : WfN N) {s m w : Nat} (hm : m < 2) (hw : w < 2 ^ n_n N) : (∀ R, subN R w → Clq N s R → mea N m R ≤ topN N s m w) ∧ ∃ R, subN R w ∧ Clq N s R ∧ mea N m R = topN N s m w := by
  constructor
  · intro R hR hC
    obtain ⟨M, hM, hs⟩ := mx_ext wf hw (pc w) R (by omega) hR hC
    exact Nat.le_trans (mea_mono wf hm (mx_lt hw hM) hs) ((top_ok wf hw).2 M hM)
  · obtain ⟨R, hR, e⟩ := (top_ok (s := s) (m := m) wf hw).1
    exact ⟨R, hR.1, hR.2.1, e⟩
theorem fi_run {N : Nt} (wf : WfN N) {o s m w : Nat} {x y : Int32} {b G : Int} (ho : o + 5 ≤ 26) (hcls : cls o = 4) (hs : s < 2) (hm : m < 2) (hw : w < 2 ^ n_n N) (hx : x.toInt = b) (hy : y.toInt = G) (hb1 : -1 ≤ b) (hb2 : b ≤ 13000) {σ : Sto} (h : NetAt σ o N) : ∃ σ1 σ' b', f_Finder_prepare o (nI s) (nI m) σ = some ((), σ1) ∧ gN σ1 = o ∧ gI (sI (sI σ1 26 8 x) 26 9 y) o 0 = nI (n_n N) ∧ f_Finder_climb 64 (lN w) 0 (nI (n_n N) - 1) (sI (sI σ1 26 8 x) 26 9 y) = some ((), σ') ∧ (gI σ' 26 8).toInt = b' ∧ gI σ' 26 9 = y ∧ b ≤ b' ∧ b' ≤ 13000 ∧ (b' = b ∨ ∃ R, subN R w ∧ Clq N s R ∧ b' = ((mea N m R : Nat) : Int)) ∧ (G ≤ b' ∨ ∀ R, subN R w → Clq N s R → ((mea N m R : Nat) : Int) ≤ b') ∧ Scr kF σ σ' := by
  obtain ⟨σ1, e1, a1, a2, a3, a4⟩ := fi_prepare wf (s := s) ho hcls hm h
  have hs1 : Scr kF σ1 (sI (sI σ1 26 8 x) 26 9 y) := (Scr.sI (kF_f (by omega))).tr (Scr.sI (kF_f (by omega)))
  have hN1 := h.kF ho (a4.tr hs1)
  have hpc := pcw40 wf hw
  obtain ⟨σ', b', e2, c1, c2, c3, c4, c5, c6, c7⟩ := fi_climb wf (o := o) (s := s) (m := m) (G := G) ho hcls hs hm 64 w 0 (n_n N) (sI (sI σ1 26 8 x) 26 9 y) b (by omega) hw (Nat.le_refl _) (by have := mea_le wf m w; omega) ⟨hN1, a3, by rw [g_sI_ne (by omega), g_sI_ne (by omega)]; exact a1, fun p hp => by rw [g_sI_ne (by omega), g_sI_ne (by omega)]; exact a2 p hp, by rw [g_sI_eq]; exact hy⟩ (by rw [g_sI_ne (by omega), g_sI_eq]; exact hx) hb1 hb2
  refine ⟨σ1, σ', b', e1, a3, hN1.1, e2, c1, by rw [(c6 26 9 (k8_t (by omega))).1, g_sI_eq], c2, c3, ?_, ?_, (a4.tr hs1).tr c6.k8F⟩
  · rcases c4 with c4 | ⟨R, r1, r2, r3⟩
    · exact Or.inl c4
    · exact Or.inr ⟨R, r1, r2, by rw [r3, Nat.zero_add]⟩
  · rcases c5 with c5 | c5
    · exact Or.inl c5
    · exact Or.inr (fun R hR hC => by have := c5 R hR hC; rwa [Nat.zero_add] at this)
theorem topN_le {N : Nt} (wf : WfN N) (s m w : Nat) : topN N s m w ≤ 12000 := mwI_le wf m _ _
theorem fi_search {N : Nt} (wf : WfN N) {o s m w : Nat} (ho : o + 5 ≤ 26) (hcls : cls o = 4) (hs : s < 2) (hm : m < 2) (hw : w < 2 ^ n_n N) {σ : Sto} (h : NetAt σ o N) : ∃ σ', f_Finder_search o (nI s) (nI m) (lN w) σ = some (nI (topN N s m w), σ') ∧ Scr kF σ σ' := by
  obtain ⟨σ1, σ', b', e1, a0, a1, e2, c1, c2, c3, c4, c5, c6, c7⟩ := fi_run wf (x := 0) (y := 1000000) (b := 0) (G := 1000000) ho hcls hs hm hw (by decide +kernel) (by decide +kernel) (by omega) (by omega) h
  have htl := topN_le wf s m w
  obtain ⟨t1, R0, t2, t3, t4⟩ := top_clq (s := s) wf hm hw
  have hge : ((topN N s m w : Nat) : Int) ≤ b' := by
    rcases c6 with c6 | c6
    · omega
    · have := c6 R0 t2 t3
      rw [t4] at this; exact this
  have hle : b' ≤ ((topN N s m w : Nat) : Int) := by
    rcases c5 with c5 | ⟨R, r1, r2, r3⟩
    · rw [c5]; exact Int.natCast_nonneg _
    · have := t1 R r1 r2
      rw [r3]; exact Int.ofNat_le.2 this
  have eb : b' = ((topN N s m w : Nat) : Int) := Int.le_antisymm hle hge
  have ev : gI σ' 26 8 = nI (topN N s m w) := Int32.toInt_inj.mp (by rw [c1, eb, nI_toInt (by omega)])
  refine ⟨σ', ?_, c7⟩
  unfold f_Finder_search B_Finder_search_0
  rw [e1, Option.bind_some, show gN (sI (sI σ1 26 8 0) 26 9 1000000) = gN σ1 from rfl, a0, if_pos hcls, a1, e2, Option.bind_some, ev]
theorem fi_reaches {N : Nt} (wf : WfN N) {o s m w aim : Nat} (ho : o + 5 ≤ 26) (hcls : cls o = 4) (hs : s < 2) (hm : m < 2) (hw : w < 2 ^ n_n N) (haim : aim ≤ 12500) {σ : Sto} (h : NetAt σ o N) : ∃ σ', f_Finder_reaches o (nI s) (nI m) (lN w) (nI aim) σ = some (decide (aim ≤ topN N s m w), σ') ∧ Scr kF σ σ' := by
  have hx : (nI aim - 1).toInt = (aim : Int) - 1 := by
    rw [fb_subI] <;> rw [nI_toInt (by omega), show (1 : Int32).toInt = 1 by decide +kernel] <;> omega
  obtain ⟨σ1, σ', b', e1, a0, a1, e2, c1, c2, c3, c4, c5, c6, c7⟩ := fi_run wf (x := nI aim - 1) (y := nI aim) (b := (aim : Int) - 1) (G := aim) ho hcls hs hm hw hx (nI_toInt (by omega)) (by omega) (by omega) h
  obtain ⟨t1, R0, t2, t3, t4⟩ := top_clq (s := s) wf hm hw
  have key : (aim : Int) ≤ b' ↔ aim ≤ topN N s m w := by
    constructor
    · intro z
      rcases c5 with c5 | ⟨R, r1, r2, r3⟩
      · clear c6; omega
      · have := t1 R r1 r2
        rw [r3] at z
        have := Int.ofNat_le.1 z
        exact Nat.le_trans this (t1 R r1 r2)
    · intro z
      rcases c6 with c6 | c6
      · exact c6
      · have := c6 R0 t2 t3
        rw [t4] at this
        exact Int.le_trans (Int.ofNat_le.2 z) this
  refine ⟨σ', ?_, c7⟩
  unfold f_Finder_reaches B_Finder_reaches_0
  rw [e1, Option.bind_some, show gN (sI (sI σ1 26 8 (nI aim - 1)) 26 9 (nI aim)) = gN σ1 from rfl, a0, if_pos hcls, a1, e2, Option.bind_some, c2]
  have elt : (gI σ' 26 8 < nI aim) ↔ ¬ aim ≤ topN N s m w := by
    rw [Int32.lt_iff_toInt_lt, c1, nI_toInt (by omega), ← key]; omega
  by_cases hz : aim ≤ topN N s m w
  · rw [if_neg (fun q => (elt.1 q) hz), decide_eq_true hz]
  · rw [if_pos (elt.2 hz), decide_eq_false hz]
theorem nt_turnTwo {σ : Sto} {N : Nt} (h : NetAt σ 1 N) (wf : WfN N) {a b : Nat} (ha : a < n_n N) (hb : b < n_n N) (hab : a ≠ b) : ∃ σ', f_Net_turnTwo 1 (nI a) (nI b) σ = some ((), σ') ∧ NetAt σ' 1 (flipN N a b) ∧ FrN 1 σ σ' := by
  unfold f_Net_turnTwo B_Net_turnTwo_0
  rw [nt_isTied h wf ha hb, Option.bind_some]
  unfold flipN
  cases (n_j N a).testBit b with
  | false =>
    obtain ⟨σ', e, g1, g2⟩ := nt_tie h wf (on := true) (x := 1) (by simp) ha hb hab
    exact ⟨σ', by rw [ite_bf, e, Option.bind_some], g1, g2⟩
  | true =>
    obtain ⟨σ', e, g1, g2⟩ := nt_tie h wf (on := false) (x := 0) (by simp) ha hb hab
    exact ⟨σ', by rw [ite_bt, e, Option.bind_some], g1, g2⟩
/-! pairs tried one after the other -/
def psI (P : Nat → Nat → Bool) (a : Nat) : Nat → Nat → Option Nat
  | 0, _ => none
  | k + 1, b => if P a b = true then some (40 * a + b) else psI P a k (b + 1)
def psO (P : Nat → Nat → Bool) : Nat → Nat → Option Nat
  | 0, _ => none
  | k + 1, a => match psI P a k (a + 1) with
    | some x => some x
    | none => psO P k (a + 1)
def tuB (N : Nt) (s m w mo : Nat) (a b : Nat) : Bool := w.testBit a && (w.testBit b && (if mo = 1 then decide (topN N s m w < topN (flipN N a b) s m w) else decide (topN (flipN N a b) s m w < topN N s m w)))
/-- nothing changed but the net and the finder -/
def FrT (σ σ' : Sto) : Prop := ∀ c j, (c < 1 ∨ 6 ≤ c) → kF c j = true → gI σ' c j = gI σ c j ∧ gL σ' c j = gL σ c j
theorem FrT.rf {σ : Sto} : FrT σ σ := fun _ _ _ _ => ⟨rfl, rfl⟩
theorem FrT.tr {a b c : Sto} (h1 : FrT a b) (h2 : FrT b c) : FrT a c := fun x y p q => ⟨(h2 x y p q).1.trans (h1 x y p q).1, (h2 x y p q).2.trans (h1 x y p q).2⟩
theorem FrN.frT {σ σ' : Sto} (h : FrN 1 σ σ') : FrT σ σ' := fun c j hc _ => ⟨(h.1 c (by omega)).1 j, (h.1 c (by omega)).2 j⟩
theorem Scr.frT {σ σ' : Sto} (h : Scr kF σ σ') : FrT σ σ' := fun c j _ hk => h c j hk
theorem CSt.netU3 {σ σ' : Sto} {A : Ast} {N' : Nt} (h : CSt σ A) (hN : NetAt σ' 1 N') (hf : FrT σ σ') : CSt σ' (N', A.2) := by
  obtain ⟨h1, h2, ⟨h3, h3b⟩, ⟨h4, h4b⟩, h5, h6⟩ := h
  have e : ∀ c j, (c < 1 ∨ 6 ≤ c) → (c < 26 ∨ 30 < c) → gI σ' c j = gI σ c j := fun c j hc hd => (hf c j hc (kF_t hd)).1
  have eL : ∀ c j, (c < 1 ∨ 6 ≤ c) → (c < 26 ∨ 30 < c) → gL σ' c j = gL σ c j := fun c j hc hd => (hf c j hc (kF_t hd)).2
  refine ⟨hN, ?_, ⟨?_, ?_⟩, ⟨?_, ?_⟩, ?_, ?_⟩
  · show (match s_K A with | none => gI σ' 0 3 = 0 | some N => gI σ' 0 3 = 1 ∧ NetAt σ' 6 N)
    cases hK : s_K A with
    | none => rw [hK] at h2; exact (e 0 3 (by omega) (by omega)).trans h2
    | some N => rw [hK] at h2; exact ⟨(e 0 3 (by omega) (by omega)).trans h2.1, h2.2.scr (fun c j a b => e c j (by omega) (by omega)) (fun j => eL 9 j (by omega) (by omega))⟩
  · rw [e _ _ (by omega) (by omega)]; exact h3
  · intro i hi; rw [e _ _ (by omega) (by omega)]; exact h3b i hi
  · rw [e _ _ (by omega) (by omega)]; exact h4
  · intro i hi; rw [e _ _ (by omega) (by omega)]; exact h4b i hi
  · intro q hq
    obtain ⟨a1, a2, a3⟩ := h5 q hq
    exact ⟨by rw [e _ _ (by omega) (by omega)]; exact a1, by rw [e _ _ (by omega) (by omega)]; exact a2, fun i hi => by rw [e _ _ (by omega) (by omega)]; exact a3 i hi⟩
  · intro q hq
    obtain ⟨a1, a2, a3⟩ := h6 q hq
    exact ⟨by rw [e _ _ (by omega) (by omega)]; exact a1, fun z => ⟨by rw [e _ _ (by omega) (by omega)]; exact (a2 z).1, by rw [e _ _ (by omega) (by omega)]; exact (a2 z).2⟩, fun z => by rw [eL _ _ (by omega) (by omega)]; exact a3 z⟩
theorem fr_tu_in {N : Nt} (wf : WfN N) {s m w mo a : Nat} (hs : s < 2) (hm : m < 2) (hmo : mo < 2) (hw : w < 2 ^ n_n N) (ha : a < n_n N) {k55 : Int32 → Int32 → Int64 → Int32 → Int32 → Int32 → Sto → Option (Int32 × Sto)} : ∀ (k fu b : Nat) (σ : Sto), b + k = n_n N → a < b → k < fu → NetAt σ 1 N → ∃ σ', NetAt σ' 1 N ∧ FrT σ σ' ∧ L_FR_turning_73 k55 fu (nI s) (nI m) (lN w) (nI mo) (nI (topN N s m w + mo)) (nI a) (nI b) σ = match psI (tuB N s m w mo) a k b with | some x => some (nI x, σ') | none => k55 (nI s) (nI m) (lN w) (nI mo) (nI (topN N s m w + mo)) (nI (a + 1)) σ' := by
  intro k
  have hn := wf.1
  have hw64 := lt64 wf hw
  have htl := topN_le wf s m w
  induction k with
  | zero =>
    intro fu b σ hb hab hf h
    obtain ⟨fu, rfl⟩ : ∃ z, fu = z + 1 := ⟨fu - 1, by omega⟩
    refine ⟨σ, h, FrT.rf, ?_⟩
    show B_FR_turning_73 k55 (L_FR_turning_73 k55 fu) _ _ _ _ _ _ _ _ = _
    unfold B_FR_turning_73
    rw [h.1, if_pos (nI_le (by omega) (by omega)), nI_1]; rfl
  | succ k ih =>
    intro fu b σ hb hab hf h
    obtain ⟨fu, rfl⟩ : ∃ z, fu = z + 1 := ⟨fu - 1, by omega⟩
    have hbn : b < n_n N := by omega
    have hne : a ≠ b := by omega
    rw [show psI (tuB N s m w mo) a (k + 1) b = if tuB N s m w mo a b = true then some (40 * a + b) else psI (tuB N s m w mo) a k (b + 1) from rfl]
    have e00 : L_FR_turning_73 k55 (fu + 1) (nI s) (nI m) (lN w) (nI mo) (nI (topN N s m w + mo)) (nI a) (nI b) σ = if w.testBit a = false then L_FR_turning_73 k55 fu (nI s) (nI m) (lN w) (nI mo) (nI (topN N s m w + mo)) (nI a) (nI (b + 1)) σ else if w.testBit b = false then L_FR_turning_73 k55 fu (nI s) (nI m) (lN w) (nI mo) (nI (topN N s m w + mo)) (nI a) (nI (b + 1)) σ else ((f_Net_turnTwo 1 (nI a) (nI b) σ).bind fun q7 => ((f_Finder_reaches 1 (nI s) (nI m) (lN w) (nI (topN N s m w + mo)) q7.2).bind fun q8 => ((f_Net_turnTwo 1 (nI a) (nI b) q8.2).bind fun q9 => (if mo = 1 then (if (b2i q8.1) = (1 : Int32) then some (nI (40 * a + b), q9.2) else L_FR_turning_73 k55 fu (nI s) (nI m) (lN w) (nI mo) (nI (topN N s m w + mo)) (nI a) (nI (b + 1)) q9.2) else (if (b2i q8.1) = (0 : Int32) then some (nI (40 * a + b), q9.2) else L_FR_turning_73 k55 fu (nI s) (nI m) (lN w) (nI mo) (nI (topN N s m w + mo)) (nI a) (nI (b + 1)) q9.2))))) := by
      show B_FR_turning_73 k55 (L_FR_turning_73 k55 fu) _ _ _ _ _ _ _ _ = _
      unfold B_FR_turning_73 f_FR_pairOf B_FR_pairOf_0
      rw [h.1, if_neg (nI_ge hbn (by omega)), nt_isOf hw64 (by omega), Option.bind_some]
      simp only [b2i_eq0, nt_isOf hw64 (show b < 40 by omega), Option.bind_some, show (1 : Int32) = nI 1 from rfl, nI_eq (show mo < 2 ^ 31 by omega) (show 1 < 2 ^ 31 by decide), show (40 : Int32) = nI 40 from rfl, nI_mul, nI_add]
    rw [e00]
    by_cases c1 : w.testBit a = false
    · rw [if_pos c1, show tuB N s m w mo a b = false by unfold tuB; rw [c1]; rfl, if_neg (by decide)]
      exact ih fu (b + 1) σ (by omega) (by omega) (by omega) h
    rw [if_neg c1]
    by_cases c2 : w.testBit b = false
    · rw [if_pos c2, show tuB N s m w mo a b = false by unfold tuB; rw [c2]; simp, if_neg (by decide)]
      exact ih fu (b + 1) σ (by omega) (by omega) (by omega) h
    rw [if_neg c2]
    obtain ⟨σ1, e1, n1, f1⟩ := nt_turnTwo h wf ha hbn hne
    have fw := fl_wf wf ha hbn hne
    obtain ⟨σ2, e2, r2⟩ := fi_reaches fw (o := 1) (s := s) (m := m) (w := w) (aim := topN N s m w + mo) (by omega) (by decide +kernel) hs hm hw (by omega) n1
    have n2 := n1.kF (by omega) r2
    obtain ⟨σ3, e3, n3, f3⟩ := nt_turnTwo n2 fw ha hbn hne
    have n3' : NetAt σ3 1 N := n3.cg rfl (fun p hp => ⟨rfl, rfl, (fl_fl wf ha hbn hne p).symm⟩)
    have ft : FrT σ σ3 := (f1.frT.tr r2.frT).tr f3.frT
    have hP : tuB N s m w mo a b = if mo = 1 then decide (topN N s m w + mo ≤ topN (flipN N a b) s m w) else !decide (topN N s m w + mo ≤ topN (flipN N a b) s m w) := by
      unfold tuB
      rw [Bool.not_eq_false] at c1 c2
      rw [c1, c2, Bool.true_and, Bool.true_and]
      by_cases hz : mo = 1
      · rw [if_pos hz, if_pos hz, hz]; rfl
      · rw [if_neg hz, if_neg hz, show mo = 0 by omega, Nat.add_zero]
        by_cases hy : topN (flipN N a b) s m w < topN N s m w
        · rw [decide_eq_true hy, decide_eq_false (by omega)]; rfl
        · rw [decide_eq_false hy, decide_eq_true (by omega)]; rfl
    obtain ⟨σ', g1, g2, g3⟩ := ih fu (b + 1) σ3 (by omega) (by omega) (by omega) n3'
    rw [e1, Option.bind_some]
    simp only []
    rw [e2, Option.bind_some]
    simp only []
    rw [e3, Option.bind_some, hP]
    rcases (show mo = 0 ∨ mo = 1 by omega) with hz | hz
    · subst hz
      simp only [if_neg (show ¬ ((0 : Nat) = 1) by decide)]
      cases decide (topN N s m w + 0 ≤ topN (flipN N a b) s m w) with
      | true =>
        refine ⟨σ', g1, ft.tr g2, ?_⟩
        rw [if_neg (show ¬ (b2i true = (0 : Int32)) by decide), if_neg (by decide)]
        exact g3
      | false =>
        refine ⟨σ3, n3', ft, ?_⟩
        rw [if_pos (show b2i false = (0 : Int32) from rfl), if_pos (show (!false) = true from rfl)]
    · subst hz
      simp only [if_true]
      cases decide (topN N s m w + 1 ≤ topN (flipN N a b) s m w) with
      | false =>
        refine ⟨σ', g1, ft.tr g2, ?_⟩
        rw [if_neg (show ¬ (b2i false = (1 : Int32)) by decide), if_neg (by decide)]
        exact g3
      | true =>
        refine ⟨σ3, n3', ft, ?_⟩
        rw [if_pos (show b2i true = (1 : Int32) from rfl), if_pos rfl]
theorem fr_tu_loop {N : Nt} (wf : WfN N) {s m w mo : Nat} (hs : s < 2) (hm : m < 2) (hmo : mo < 2) (hw : w < 2 ^ n_n N) : ∀ (k fu a : Nat) (σ : Sto), a + k = n_n N → k < fu → NetAt σ 1 N → ∃ σ', NetAt σ' 1 N ∧ FrT σ σ' ∧ L_FR_turning_55 fu (nI s) (nI m) (lN w) (nI mo) (nI (topN N s m w + mo)) (nI a) σ = some (match psO (tuB N s m w mo) k a with | some x => nI x | none => -1, σ') := by
  intro k
  have hn := wf.1
  induction k with
  | zero =>
    intro fu a σ ha hf h
    obtain ⟨fu, rfl⟩ : ∃ z, fu = z + 1 := ⟨fu - 1, by omega⟩
    refine ⟨σ, h, FrT.rf, ?_⟩
    show B_FR_turning_55 (L_FR_turning_55 fu) _ _ _ _ _ _ _ = _
    unfold B_FR_turning_55
    rw [h.1, if_pos (nI_le (by omega) (by omega))]; rfl
  | succ k ih =>
    intro fu a σ ha hf h
    obtain ⟨fu, rfl⟩ : ∃ z, fu = z + 1 := ⟨fu - 1, by omega⟩
    obtain ⟨σ1, n1, f1, e1⟩ := fr_tu_in wf hs hm hmo hw (show a < n_n N by omega) (k55 := L_FR_turning_55 fu) k LF (a + 1) σ (by omega) (by omega) (by rw [LF_big]; omega) h
    have e0 : L_FR_turning_55 (fu + 1) (nI s) (nI m) (lN w) (nI mo) (nI (topN N s m w + mo)) (nI a) σ = L_FR_turning_73 (L_FR_turning_55 fu) LF (nI s) (nI m) (lN w) (nI mo) (nI (topN N s m w + mo)) (nI a) (nI (a + 1)) σ := by
      show B_FR_turning_55 (L_FR_turning_55 fu) _ _ _ _ _ _ _ = _
      unfold B_FR_turning_55
      rw [h.1, if_neg (nI_ge (by omega) (by omega)), nI_1]
    rw [e0, e1, show psO (tuB N s m w mo) (k + 1) a = match psI (tuB N s m w mo) a k (a + 1) with | some x => some x | none => psO (tuB N s m w mo) k (a + 1) from rfl]
    cases psI (tuB N s m w mo) a k (a + 1) with
    | some x => exact ⟨σ1, n1, f1, rfl⟩
    | none =>
      obtain ⟨σ', g1, g2, g3⟩ := ih fu (a + 1) σ1 (by omega) (by omega) n1
      exact ⟨σ', g1, f1.tr g2, g3⟩
theorem mo_topOf {N : Nt} (wf : WfN N) {s m w : Nat} (hs : s < 2) (hm : m < 2) (hw : w < 2 ^ n_n N) (h16 : pc w ≤ 16) {σ : Sto} (h : ModAt σ N) : ∃ σ', f_Mo_topOf (nI s) (nI m) (lN w) σ = some (nI (topN N s m w), σ') ∧ Scr kH σ σ' := by
  obtain ⟨σ', A, e, _, _, r4⟩ := mo_greatestOf wf hs hm hw h16 h
  obtain ⟨gb, gt⟩ := gt_bst (s := s) (m := m) wf hw
  refine ⟨σ', ?_, r4⟩
  unfold f_Mo_topOf B_Mo_topOf_0
  rw [e, Option.bind_some]
  simp only []
  rw [mo_measureOf (h.kH r4) wf hm (mx_lt hw gb.1), Option.bind_some, gt]
theorem mo_tu_in {N : Nt} (wf : WfN N) {s m w mo a : Nat} (hs : s < 2) (hm : m < 2) (hmo : mo < 2) (hw : w < 2 ^ n_n N) (h16 : pc w ≤ 16) (ha : a < n_n N) {k55 : Int32 → Int32 → Int64 → Int32 → Int32 → Int32 → Sto → Option (Int32 × Sto)} : ∀ (k fu b : Nat) (σ : Sto), b + k = n_n N → a < b → k < fu → ModAt σ N → ∃ σ', ModAt σ' N ∧ Scr kH σ σ' ∧ L_Mo_turning_70 k55 fu (nI s) (nI m) (lN w) (nI mo) (nI (topN N s m w)) (nI a) (nI b) σ = match psI (tuB N s m w mo) a k b with | some x => some (nI x, σ') | none => k55 (nI s) (nI m) (lN w) (nI mo) (nI (topN N s m w)) (nI (a + 1)) σ' := by
  intro k
  have hn := wf.1
  have hw64 := lt64 wf hw
  have htl := topN_le wf s m w
  induction k with
  | zero =>
    intro fu b σ hb hab hf h
    obtain ⟨fu, rfl⟩ : ∃ z, fu = z + 1 := ⟨fu - 1, by omega⟩
    refine ⟨σ, h, Scr.rf, ?_⟩
    show B_Mo_turning_70 k55 (L_Mo_turning_70 k55 fu) _ _ _ _ _ _ _ _ = _
    unfold B_Mo_turning_70
    rw [h.1, if_pos (nI_le (by omega) (by omega)), nI_1]; rfl
  | succ k ih =>
    intro fu b σ hb hab hf h
    obtain ⟨fu, rfl⟩ : ∃ z, fu = z + 1 := ⟨fu - 1, by omega⟩
    have hbn : b < n_n N := by omega
    have hne : a ≠ b := by omega
    rw [show psI (tuB N s m w mo) a (k + 1) b = if tuB N s m w mo a b = true then some (40 * a + b) else psI (tuB N s m w mo) a k (b + 1) from rfl]
    have e00 : L_Mo_turning_70 k55 (fu + 1) (nI s) (nI m) (lN w) (nI mo) (nI (topN N s m w)) (nI a) (nI b) σ = if w.testBit a = false then L_Mo_turning_70 k55 fu (nI s) (nI m) (lN w) (nI mo) (nI (topN N s m w)) (nI a) (nI (b + 1)) σ else if w.testBit b = false then L_Mo_turning_70 k55 fu (nI s) (nI m) (lN w) (nI mo) (nI (topN N s m w)) (nI a) (nI (b + 1)) σ else ((f_Mo_flips (nI a) (nI b) σ).bind fun q9 => ((f_Mo_topOf (nI s) (nI m) (lN w) q9.2).bind fun q10 => ((f_Mo_flips (nI a) (nI b) q10.2).bind fun q11 => (if mo = 1 then (if q10.1 ≤ nI (topN N s m w) then L_Mo_turning_70 k55 fu (nI s) (nI m) (lN w) (nI mo) (nI (topN N s m w)) (nI a) (nI (b + 1)) q11.2 else some (nI (40 * a + b), q11.2)) else (if nI (topN N s m w) ≤ q10.1 then L_Mo_turning_70 k55 fu (nI s) (nI m) (lN w) (nI mo) (nI (topN N s m w)) (nI a) (nI (b + 1)) q11.2 else some (nI (40 * a + b), q11.2)))))) := by
      show B_Mo_turning_70 k55 (L_Mo_turning_70 k55 fu) _ _ _ _ _ _ _ _ = _
      unfold B_Mo_turning_70
      rw [h.1, if_neg (nI_ge hbn (by omega)), has_eq hw64 (by omega), Option.bind_some]
      simp only [b2i_eq0, has_eq hw64 (show b < 64 by omega), Option.bind_some, show (1 : Int32) = nI 1 from rfl, nI_eq (show mo < 2 ^ 31 by omega) (show 1 < 2 ^ 31 by decide), show (40 : Int32) = nI 40 from rfl, nI_mul, nI_add]
    rw [e00]
    by_cases c1 : w.testBit a = false
    · rw [if_pos c1, show tuB N s m w mo a b = false by unfold tuB; rw [c1]; rfl, if_neg (by decide)]
      exact ih fu (b + 1) σ (by omega) (by omega) (by omega) h
    rw [if_neg c1]
    by_cases c2 : w.testBit b = false
    · rw [if_pos c2, show tuB N s m w mo a b = false by unfold tuB; rw [c2]; simp, if_neg (by decide)]
      exact ih fu (b + 1) σ (by omega) (by omega) (by omega) h
    rw [if_neg c2]
    obtain ⟨f1, f2⟩ := mo_flS h wf ha hbn hne
    have fw := fl_wf wf ha hbn hne
    obtain ⟨σ2, e2, r2⟩ := mo_topOf fw hs hm (show w < 2 ^ n_n (flipN N a b) from hw) h16 f2
    have m2 := f2.kH r2
    obtain ⟨f3, f4⟩ := mo_flS m2 fw ha hbn hne
    have m3 : ModAt (flS σ2 (flipN N a b) a b) N := f4.cg rfl (fun p hp => ⟨rfl, rfl, (fl_fl wf ha hbn hne p).symm⟩)
    have scr : Scr kH σ (flS σ2 (flipN N a b) a b) := fun c j hc => by
      refine ⟨by rw [flS_I, (r2 c j hc).1, flS_I], ?_⟩
      by_cases hz : c = 51
      · subst hz
        by_cases ej : j = a
        · rw [ej, (h.2 a ha).2.2, (m3.2 a ha).2.2]
        · by_cases ej2 : j = b
          · rw [ej2, (h.2 b hbn).2.2, (m3.2 b hbn).2.2]
          · rw [flS_o ej ej2, (r2 51 j hc).2, flS_o ej ej2]
      · rw [flS_L hz, (r2 c j hc).2, flS_L hz]
    have htf := topN_le fw s m w
    have hP : tuB N s m w mo a b = if mo = 1 then decide (topN N s m w < topN (flipN N a b) s m w) else decide (topN (flipN N a b) s m w < topN N s m w) := by
      unfold tuB
      rw [Bool.not_eq_false] at c1 c2
      rw [c1, c2, Bool.true_and, Bool.true_and]
    obtain ⟨σ', g1, g2, g3⟩ := ih fu (b + 1) (flS σ2 (flipN N a b) a b) (by omega) (by omega) (by omega) m3
    rw [f1, Option.bind_some]
    simp only []
    rw [e2, Option.bind_some]
    simp only []
    rw [f3, Option.bind_some, hP]
    simp only [nI_leI (show topN (flipN N a b) s m w < 2 ^ 31 by omega) (show topN N s m w < 2 ^ 31 by omega), nI_leI (show topN N s m w < 2 ^ 31 by omega) (show topN (flipN N a b) s m w < 2 ^ 31 by omega)]
    by_cases hz : mo = 1
    · simp only [if_pos hz]
      by_cases hy : topN N s m w < topN (flipN N a b) s m w
      · refine ⟨_, m3, scr, ?_⟩
        rw [if_neg (show ¬ topN (flipN N a b) s m w ≤ topN N s m w by omega), if_pos (decide_eq_true hy)]
      · refine ⟨σ', g1, scr.tr g2, ?_⟩
        rw [if_pos (show topN (flipN N a b) s m w ≤ topN N s m w by omega), if_neg (by rw [decide_eq_false hy]; decide)]
        exact g3
    · simp only [if_neg hz]
      by_cases hy : topN (flipN N a b) s m w < topN N s m w
      · refine ⟨_, m3, scr, ?_⟩
        rw [if_neg (show ¬ topN N s m w ≤ topN (flipN N a b) s m w by omega), if_pos (decide_eq_true hy)]
      · refine ⟨σ', g1, scr.tr g2, ?_⟩
        rw [if_pos (show topN N s m w ≤ topN (flipN N a b) s m w by omega), if_neg (by rw [decide_eq_false hy]; decide)]
        exact g3
theorem mo_tu_loop {N : Nt} (wf : WfN N) {s m w mo : Nat} (hs : s < 2) (hm : m < 2) (hmo : mo < 2) (hw : w < 2 ^ n_n N) (h16 : pc w ≤ 16) : ∀ (k fu a : Nat) (σ : Sto), a + k = n_n N → k < fu → ModAt σ N → ∃ σ', Scr kH σ σ' ∧ L_Mo_turning_55 fu (nI s) (nI m) (lN w) (nI mo) (nI (topN N s m w)) (nI a) σ = some (match psO (tuB N s m w mo) k a with | some x => nI x | none => -1, σ') := by
  intro k
  have hn := wf.1
  induction k with
  | zero =>
    intro fu a σ ha hf h
    obtain ⟨fu, rfl⟩ : ∃ z, fu = z + 1 := ⟨fu - 1, by omega⟩
    refine ⟨σ, Scr.rf, ?_⟩
    show B_Mo_turning_55 (L_Mo_turning_55 fu) _ _ _ _ _ _ _ = _
    unfold B_Mo_turning_55
    rw [h.1, if_pos (nI_le (by omega) (by omega))]; rfl
  | succ k ih =>
    intro fu a σ ha hf h
    obtain ⟨fu, rfl⟩ : ∃ z, fu = z + 1 := ⟨fu - 1, by omega⟩
    obtain ⟨σ1, n1, f1, e1⟩ := mo_tu_in wf hs hm hmo hw h16 (show a < n_n N by omega) (k55 := L_Mo_turning_55 fu) k LF (a + 1) σ (by omega) (by omega) (by rw [LF_big]; omega) h
    have e0 : L_Mo_turning_55 (fu + 1) (nI s) (nI m) (lN w) (nI mo) (nI (topN N s m w)) (nI a) σ = L_Mo_turning_70 (L_Mo_turning_55 fu) LF (nI s) (nI m) (lN w) (nI mo) (nI (topN N s m w)) (nI a) (nI (a + 1)) σ := by
      show B_Mo_turning_55 (L_Mo_turning_55 fu) _ _ _ _ _ _ _ = _
      unfold B_Mo_turning_55
      rw [h.1, if_neg (nI_ge (by omega) (by omega)), nI_1]
    rw [e0, e1, show psO (tuB N s m w mo) (k + 1) a = match psI (tuB N s m w mo) a k (a + 1) with | some x => some x | none => psO (tuB N s m w mo) k (a + 1) from rfl]
    cases psI (tuB N s m w mo) a k (a + 1) with
    | some x => exact ⟨σ1, f1, rfl⟩
    | none =>
      obtain ⟨σ', g2, g3⟩ := ih fu (a + 1) σ1 (by omega) (by omega) n1
      exact ⟨σ', f1.tr g2, g3⟩
theorem op_turning (a0 : Int32) (b1 : Int32) (c2 : Int64) (d3 : Int32) : Op (f_FR_turning a0 b1 c2 d3) (f_Mo_turning a0 b1 c2 d3) := by
  obtain ⟨u, hu, rfl⟩ := wb_of c2
  cases h1 : oneB a0
  · refine Op.ask (fun _ => -2) (fun σ A wf h => ⟨σ, ?_, Scr.rf⟩) (fun σ A wf h => ⟨σ, ?_, Scr.rf⟩)
    · unfold f_FR_turning B_FR_turning_0
      simp [fr_isAsked h.net wf.1 a0 b1 hu, h1, ite_bf]
    · unfold f_Mo_turning B_Mo_turning_0
      simp [mo_isOne, h1, ite_bf]
  cases h2 : oneB b1
  · refine Op.ask (fun _ => -2) (fun σ A wf h => ⟨σ, ?_, Scr.rf⟩) (fun σ A wf h => ⟨σ, ?_, Scr.rf⟩)
    · unfold f_FR_turning B_FR_turning_0
      simp [fr_isAsked h.net wf.1 a0 b1 hu, h1, h2, ite_bf]
    · unfold f_Mo_turning B_Mo_turning_0
      simp [mo_isOne, h1, h2, ite_bf, ite_bt]
  obtain ⟨s, hs, rfl⟩ := oneB_of h1
  obtain ⟨m, hm, rfl⟩ := oneB_of h2
  cases hd : oneB d3
  · refine Op.ask (fun _ => -2) (fun σ A wf h => ⟨σ, ?_, Scr.rf⟩) (fun σ A wf h => ⟨σ, ?_, Scr.rf⟩)
    · unfold f_FR_turning B_FR_turning_0
      simp only [fr_isAsked h.net wf.1 (nI s) (nI m) hu, h1, h2, Bool.true_and, Option.bind_some, fr_isBit, hd, ite_bf]
      split <;> rfl
    · unfold f_Mo_turning B_Mo_turning_0
      simp only [mo_isOne, h1, h2, mo_isSet h.net wf.1 hu, Option.bind_some, ite_bt, hd, ite_bf]
      split <;> rfl
  obtain ⟨mo, hmo, rfl⟩ := oneB_of hd
  refine Op.mk (fun A => if u < 2 ^ n_n (s_N A) then (if pc u ≤ 16 then (match psO (tuB (s_N A) s m u mo) (n_n (s_N A)) 0 with | some x => nI x | none => -1) else -5) else -2) id (fun σ A wf h => ?_) (fun σ A wf h => ?_)
  · unfold f_FR_turning B_FR_turning_0
    simp only [fr_isAsked h.net wf.1 (nI s) (nI m) hu, h1, h2, Bool.true_and, Option.bind_some, fr_isBit, hd, ite_bt]
    by_cases h3 : u < 2 ^ n_n (s_N A)
    · simp only [decide_eq_true h3, ite_bt, if_pos h3, bitCount_eq hu, Option.bind_some, pc16]
      by_cases h4 : pc u ≤ 16
      · obtain ⟨σ1, e1, r1⟩ := fi_search wf.1 (o := 1) (by omega) (by decide +kernel) hs hm h3 h.net
        obtain ⟨σ', n1, f1, e2⟩ := fr_tu_loop wf.1 hs hm hmo h3 (n_n (s_N A)) LF 0 σ1 (by omega) (by have := wf.1.1; rw [LF_big]; omega) (h.net.kF (by omega) r1)
        have ft : FrT σ σ' := r1.frT.tr f1
        refine ⟨σ', ?_, wf, h.netU3 n1 ft, fun c j hc => ft c j (by omega) (kF_t (by omega))⟩
        rw [if_pos h4, if_pos h4, e1, Option.bind_some, nI_add]
        exact e2
      · refine ⟨σ, by rw [if_neg h4, if_neg h4], wf, h, fun _ _ _ => ⟨rfl, rfl⟩⟩
    · exact ⟨σ, by simp [h3, ite_bf], wf, h, fun _ _ _ => ⟨rfl, rfl⟩⟩
  · unfold f_Mo_turning B_Mo_turning_0
    simp only [mo_isOne, h1, h2, mo_isSet h.net wf.1 hu, Option.bind_some, ite_bt, hd, mo_isMuch hu]
    by_cases h3 : u < 2 ^ n_n (s_N A)
    · simp only [decide_eq_true h3, ite_bt, if_pos h3]
      by_cases h4 : pc u ≤ 16
      · obtain ⟨σ1, e1, r1⟩ := mo_topOf wf.1 hs hm h3 h4 h.net
        obtain ⟨σ', r2, e2⟩ := mo_tu_loop wf.1 hs hm hmo h3 h4 (n_n (s_N A)) LF 0 σ1 (by omega) (by have := wf.1.1; rw [LF_big]; omega) (h.net.kH r1)
        refine ⟨σ', ?_, h.scrM (r1.tr r2).kHM, fun c j hc => (r1.tr r2) c j (kH_t (by omega))⟩
        rw [decide_eq_false (by omega), ite_bf, if_pos h4, e1, Option.bind_some]
        exact e2
      · exact ⟨σ, by rw [decide_eq_true (by omega), ite_bt, if_neg h4], h, fun _ _ _ => ⟨rfl, rfl⟩⟩
    · exact ⟨σ, by simp [h3, ite_bf], h, fun _ _ _ => ⟨rfl, rfl⟩⟩
