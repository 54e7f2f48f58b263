/-! classes of those that do not fit -/
abbrev Gs : Type := Nat × (Nat → Nat)
def gfi (N : Nt) (s p : Nat) (G : Gs) : Nat := fa_first (fun i => decide (fit N s p (G.2 i) = 0)) G.1
def gin (N : Nt) (s p : Nat) (G : Gs) : Gs := if gfi N s p G < G.1 then (G.1, fun i => if i = gfi N s p G then G.2 i ||| 2 ^ p else G.2 i) else (G.1 + 1, fun i => if i = G.1 then 2 ^ p else G.2 i)
def grL (N : Nt) (s : Nat) : List Nat → Gs
  | [] => (0, fun _ => 0)
  | p :: l => gin N s p (grL N s l)
theorem first_at {p : Nat → Bool} {n g : Nat} (hg : g < n) (h : p g = true) (h2 : ∀ i, i < g → p i = false) : fa_first p n = g := by
  have hl := fa_first_le p n
  rcases Nat.lt_or_ge (fa_first p n) g with q | q
  · have := fa_first_yes p n (by omega)
    rw [h2 _ q] at this; cases this
  · rcases Nat.lt_or_ge g (fa_first p n) with q2 | q2
    · have := fa_first_no p n g q2
      rw [h] at this; cases this
    · omega
theorem first_end {p : Nat → Bool} {n : Nat} (h2 : ∀ i, i < n → p i = false) : fa_first p n = n := by
  have hl := fa_first_le p n
  rcases Nat.lt_or_ge (fa_first p n) n with q | q
  · have := fa_first_yes p n q
    rw [h2 _ q] at this; cases this
  · omega
theorem gfi_le (N : Nt) (s p : Nat) (G : Gs) : gfi N s p G ≤ G.1 := fa_first_le _ _
theorem grL_len (N : Nt) (s : Nat) : ∀ l : List Nat, (grL N s l).1 ≤ l.length
  | [] => Nat.le_refl _
  | p :: l => by
    have := grL_len N s l
    show (gin N s p (grL N s l)).1 ≤ l.length + 1
    unfold gin
    split
    · show (grL N s l).1 ≤ _; omega
    · show (grL N s l).1 + 1 ≤ _; omega
theorem grL_lt {N : Nt} {s n : Nat} : ∀ l : List Nat, (∀ p ∈ l, p < n) → ∀ i, i < (grL N s l).1 → (grL N s l).2 i < 2 ^ n
  | [], _, i, hi => absurd hi (Nat.not_lt_zero i)
  | p :: l, h, i, hi => by
    have h1 := grL_lt (N := N) (s := s) l (fun q hq => h q (List.mem_cons_of_mem _ hq))
    have h2 : 2 ^ p < 2 ^ n := Nat.pow_lt_pow_right (by decide) (h p (List.mem_cons_self))
    change i < (gin N s p (grL N s l)).1 at hi
    show (gin N s p (grL N s l)).2 i < 2 ^ n
    unfold gin at hi ⊢
    split
    · rename_i hq
      rw [if_pos hq] at hi
      show (if i = gfi N s p (grL N s l) then (grL N s l).2 i ||| 2 ^ p else (grL N s l).2 i) < 2 ^ n
      split
      · exact or_lt (h1 i hi) h2
      · exact h1 i hi
    · rename_i hq
      rw [if_neg hq] at hi
      show (if i = (grL N s l).1 then 2 ^ p else (grL N s l).2 i) < 2 ^ n
      split
      · exact h2
      · rename_i hne
        have hi' : i < (grL N s l).1 + 1 := hi
        exact h1 i (by omega)
def GrC (σ : Sto) (G : Gs) : Prop := gI σ 17 4 = nI G.1 ∧ ∀ i, i < G.1 → gL σ 19 i = lN (G.2 i)
def GrM (σ : Sto) (G : Gs) : Prop := gI σ 48 13 = nI G.1 ∧ ∀ i, i < G.1 → gL σ 56 i = lN (G.2 i)
theorem grp_find {N : Nt} (wf : WfN N) {s p : Nat} (hs : s < 2) (hp : p < n_n N) {G : Gs} (hG : ∀ i, i < G.1 → G.2 i < 2 ^ n_n N) (h40 : G.1 ≤ 40) {σ : Sto} (h : NetAt σ 1 N) (hg : GrC σ G) {v3 : Int32} {k12 : Nat → Int32 → Int32 → Sto → Option (Unit × Sto)} : ∀ (k fu g : Nat), g + k = G.1 → k < fu → (∀ i, i < g → fit N s p (G.2 i) ≠ 0) →
    L_Ranking_group_27 k12 fu 1 (nI s) v3 (nI p) (nI g) σ = B_Ranking_group_61 k12 1 (nI s) v3 (nI p) (nI (gfi N s p G)) σ := by
  intro k
  induction k with
  | zero =>
    intro fu g hgk hf hno
    obtain ⟨fu, rfl⟩ : ∃ f, fu = f + 1 := ⟨fu - 1, by omega⟩
    have e : gfi N s p G = g := by
      unfold gfi
      rw [show g = G.1 by omega]
      exact first_end (fun i hi => by simp [hno i (by omega)])
    show B_Ranking_group_27 k12 (L_Ranking_group_27 k12 fu) _ _ _ _ _ _ = _
    rw [e]
    unfold B_Ranking_group_27
    rw [hg.1, if_pos (nI_le (by omega) (by omega))]
  | succ k ih =>
    intro fu g hgk hf hno
    obtain ⟨fu, rfl⟩ : ∃ f, fu = f + 1 := ⟨fu - 1, by omega⟩
    have hgl : g < G.1 := by omega
    have hG64 := lt64 wf (hG g hgl)
    show B_Ranking_group_27 k12 (L_Ranking_group_27 k12 fu) _ _ _ _ _ _ = _
    unfold B_Ranking_group_27
    rw [hg.1, if_neg (nI_ge hgl (by omega))]
    simp only [inb_ok (show g < 40 by omega) (show 40 < 2 ^ 31 by decide), if_true, nI_clamp (show g < 2 ^ 31 by omega), hg.2 g hgl, nt_fitting h wf hs hp hG64, Option.bind_some, lN_eq0 (fit_lt (N := N) (s := s) (p := p) hG64), nI_1]
    by_cases hz : fit N s p (G.2 g) = 0
    · rw [if_pos hz]
      have e : gfi N s p G = g := first_at hgl (by simp [hz]) (fun i hi => by simp [hno i hi])
      rw [e]
    · rw [if_neg hz]
      refine ih fu (g + 1) (by omega) (by omega) (fun i hi => ?_)
      by_cases ei : i = g
      · rw [ei]; exact hz
      · exact hno i (by omega)
theorem grp_put {N : Nt} {s p : Nat} (hp : p < 64) {G : Gs} (h40 : G.1 < 40) {σ : Sto} (hg : GrC σ G) {v3 : Int32} {k12 : Nat → Int32 → Int32 → Sto → Option (Unit × Sto)} :
    ∃ σ', B_Ranking_group_61 k12 1 (nI s) v3 (nI p) (nI (gfi N s p G)) σ = k12 1 (nI s) (v3 + (-1)) σ' ∧ GrC σ' (gin N s p G) ∧ (∀ c j, ¬ (c = 17 ∧ j = 4) → gI σ' c j = gI σ c j) ∧ (∀ c j, c ≠ 19 → gL σ' c j = gL σ c j) := by
  have hle := gfi_le N s p G
  unfold B_Ranking_group_61 gin
  generalize hgf : gfi N s p G = g at *
  rw [hg.1]
  by_cases hlt : g < G.1
  · refine ⟨sL σ 19 g (lN (G.2 g ||| 2 ^ p)), ?_, ?_, fun _ _ _ => rfl, fun c j hc => g_sL_ne (by omega)⟩
    · rw [if_pos (nI_lt hlt (by omega)), show (40 : Int32) = nI 40 from rfl, if_neg (nI_ge (by omega) (by omega))]
      simp only [inb_ok (show g < 40 by omega) (show 40 < 2 ^ 31 by decide), if_true, nI_clamp (show g < 2 ^ 31 by omega), hg.2 g hlt, lt1_eq, lsh_1 hp, fb_orL]
    · rw [if_pos hlt]
      refine ⟨hg.1, fun i hi => ?_⟩
      have hi' : i < G.1 := hi
      show _ = lN (if i = g then G.2 i ||| 2 ^ p else G.2 i)
      by_cases ei : i = g
      · subst ei; rw [g_sL_eq, if_pos rfl]
      · rw [g_sL_ne (by omega), if_neg ei]; exact hg.2 i hi'
  · have eg : g = G.1 := by omega
    subst eg
    refine ⟨sL (sI (sL σ 19 G.1 0) 17 4 (nI (G.1 + 1))) 19 G.1 (lN (2 ^ p)), ?_, ?_, fun c j hc => by rw [gI_sL, g_sI_ne hc]; rfl, fun c j hc => by rw [g_sL_ne (by omega), gL_sI, g_sL_ne (by omega)]⟩
    · rw [if_neg (nI_nlt (by omega) (by omega)), show (40 : Int32) = nI 40 from rfl, if_neg (nI_ge (by omega) (by omega))]
      simp only [inb_ok (show G.1 < 40 by omega) (show 40 < 2 ^ 31 by decide), if_true, nI_clamp (show G.1 < 2 ^ 31 by omega), lt1_eq, lsh_1 hp, nI_1, gL_sI, g_sL_eq, if_neg (nI_ge (show G.1 < 40 by omega) (show 40 < 2 ^ 31 by decide))]
      rw [show (0 : Int64) ||| lN (2 ^ p) = lN (2 ^ p) by rw [show (0 : Int64) = lN 0 from rfl, fb_orL, Nat.zero_or]]
    · rw [if_neg hlt]
      refine ⟨by rw [gI_sL, g_sI_eq], fun i hi => ?_⟩
      have hi' : i < G.1 + 1 := hi
      show _ = lN (if i = G.1 then 2 ^ p else G.2 i)
      by_cases ei : i = G.1
      · subst ei; rw [g_sL_eq, if_pos rfl]
      · rw [g_sL_ne (by omega), gL_sI, g_sL_ne (by omega), if_neg ei]; exact hg.2 i (by omega)
theorem RkC.fr {σ σ' : Sto} {l : List Nat} {d : Nat} (h : RkC σ l d) (hf : ∀ c j, ¬ (c = 17 ∧ j = 4) → gI σ' c j = gI σ c j) : RkC σ' l d :=
  ⟨by rw [hf _ _ (by omega)]; exact h.1, by rw [hf _ _ (by omega)]; exact h.2.1, fun i hi => by rw [hf _ _ (by omega)]; exact h.2.2 i hi⟩
theorem grp_loop {N : Nt} (wf : WfN N) {s d : Nat} (hs : s < 2) {l : List Nat} (hl : l.length ≤ 40) (hp : ∀ p ∈ l, p < n_n N) : ∀ (k fu : Nat) (σ : Sto), k ≤ l.length → k < fu → NetAt σ 1 N → RkC σ l d → GrC σ (grL N s (l.drop k)) →
    ∃ σ', L_Ranking_group_12 fu 1 (nI s) (nI k - 1) σ = some ((), σ') ∧ GrC σ' (grL N s l) ∧ (∀ c j, ¬ (c = 17 ∧ j = 4) → gI σ' c j = gI σ c j) ∧ (∀ c j, c ≠ 19 → gL σ' c j = gL σ c j) := by
  intro k
  have hn := wf.1
  induction k with
  | zero =>
    intro fu σ hk hf h hr hg
    obtain ⟨fu, rfl⟩ : ∃ f, fu = f + 1 := ⟨fu - 1, by omega⟩
    refine ⟨σ, ?_, hg, fun _ _ _ => rfl, fun _ _ _ => rfl⟩
    show B_Ranking_group_12 (L_Ranking_group_12 fu) _ _ _ _ = _
    unfold B_Ranking_group_12
    rw [if_pos m1_neg]
  | succ k ih =>
    intro fu σ hk hf h hr hg
    obtain ⟨fu, rfl⟩ : ∃ f, fu = f + 1 := ⟨fu - 1, by omega⟩
    have hpn : l.getD k 0 < n_n N := getD_lt hp (by omega)
    have hlen := grL_len N s (l.drop (k + 1))
    rw [List.length_drop] at hlen
    have ef := grp_find wf hs hpn (grL_lt (N := N) (s := s) _ (drop_lt hp)) (by omega) h hg (v3 := nI k) (k12 := L_Ranking_group_12 fu) (grL N s (l.drop (k + 1))).1 LF 0 (by omega) (by rw [LF_big]; omega) (fun i hi => absurd hi (Nat.not_lt_zero i))
    obtain ⟨σ1, e1, g1, g2, g3⟩ := grp_put (N := N) (s := s) (p := l.getD k 0) (by omega) (by omega) hg (v3 := nI k) (k12 := L_Ranking_group_12 fu)
    obtain ⟨σ', e, a1, a2, a3⟩ := ih fu σ1 (by omega) (by omega) (h.scr (fun c j a b => g2 c j (by omega)) (fun j => g3 4 j (by omega))) (hr.fr g2) (by rw [drop_getD (show k < l.length by omega)]; exact g1)
    refine ⟨σ', ?_, a1, fun c j hc => by rw [a2 c j hc, g2 c j hc], fun c j hc => by rw [a3 c j hc, g3 c j hc]⟩
    show B_Ranking_group_12 (L_Ranking_group_12 fu) _ _ _ _ = _
    unfold B_Ranking_group_12
    rw [show nI (k + 1) - (1 : Int32) = nI k from nI_pred k, if_neg (nI_pos (by omega))]
    simp only [inb_ok (show k < 40 by omega) (show 40 < 2 ^ 31 by decide), if_true, nI_clamp (show k < 2 ^ 31 by omega), lt1_eq, hr.2.2 k (by omega)]
    rw [show (0 : Int32) = nI 0 from rfl, ef, e1, nI_m1]
    exact e
/-- the classes of a set -/
def grN (N : Nt) (s w : Nat) : Gs := grL N s (ordL N s 40 w)
theorem grN_len (N : Nt) (s w : Nat) : (grN N s w).1 ≤ 40 := Nat.le_trans (grL_len N s _) (ordL_len N s 40 w)
theorem grN_lt {N : Nt} {s w : Nat} (hw : w < 2 ^ n_n N) : ∀ i, i < (grN N s w).1 → (grN N s w).2 i < 2 ^ n_n N := grL_lt _ (ord_lt hw)
theorem rk_grouped {σ : Sto} {N : Nt} (h : NetAt σ 1 N) (wf : WfN N) {s w : Nat} (hs : s < 2) (hw : w < 2 ^ n_n N) : ∃ σ1 σ', f_Ranking_rank 1 (nI s) (lN w) σ = some ((), σ1) ∧ f_Ranking_group 1 (nI s) σ1 = some ((), σ') ∧ GrC σ' (grN N s w) ∧ Scr kR σ σ' := by
  obtain ⟨σ1, e, hr, r4⟩ := rk_rank h wf hs hw
  have hl := ordL_len N s 40 w
  have hs1 : Scr kR σ1 (sI σ1 17 4 0) := Scr.sI (kR_f (by omega))
  obtain ⟨σ', e2, a1, a2, a3⟩ := grp_loop wf (s := s) (d := depL N s 40 w) hs hl (ord_lt hw) (ordL N s 40 w).length LF (sI σ1 17 4 0) (Nat.le_refl _) (by rw [LF_big]; omega) (h.kR (by omega) (r4.tr hs1)) (hr.fr (fun c j hc => g_sI_ne hc)) (by
    rw [List.drop_length]
    exact ⟨by rw [g_sI_eq]; rfl, fun i hi => absurd hi (Nat.not_lt_zero i)⟩)
  refine ⟨σ1, σ', e, ?_, a1, (r4.tr hs1).tr (fun c j hc => ⟨a2 c j (by rintro ⟨rfl, rfl⟩; revert hc; decide), a3 c j (by rintro rfl; rw [kR_f (by omega)] at hc; cases hc)⟩)⟩
  unfold f_Ranking_group B_Ranking_group_0
  rw [lt1_eq, g_sI_ne (show ¬ (17 = 17 ∧ 1 = 4) by omega), hr.1]
  exact e2
theorem mg_find {N : Nt} (wf : WfN N) {s p q : Nat} (hs : s < 2) (hp : p < n_n N) (hq : q < 40) {G : Gs} (hG : ∀ i, i < G.1 → G.2 i < 2 ^ n_n N) (h40 : G.1 ≤ 40) {σ : Sto} (h : ModAt σ N) (hg : GrM σ G) (hrow : gI σ 55 q = nI p) {k19 : Int32 → Int32 → Sto → Option (Unit × Sto)} : ∀ (k fu g : Nat), g + k = G.1 → k < fu → (∀ i, i < g → fit N s p (G.2 i) ≠ 0) →
    L_Mo_parts_27 k19 fu (nI s) (nI q) (nI g) σ = B_Mo_parts_66 k19 (nI s) (nI q) (nI (gfi N s p G)) σ := by
  intro k
  induction k with
  | zero =>
    intro fu g hgk hf hno
    obtain ⟨fu, rfl⟩ : ∃ f, fu = f + 1 := ⟨fu - 1, by omega⟩
    have e : gfi N s p G = g := by
      unfold gfi
      rw [show g = G.1 by omega]
      exact first_end (fun i hi => by simp [hno i (by omega)])
    show B_Mo_parts_27 k19 (L_Mo_parts_27 k19 fu) _ _ _ _ = _
    rw [e]
    unfold B_Mo_parts_27
    rw [hg.1, if_pos (nI_le (by omega) (by omega))]
  | succ k ih =>
    intro fu g hgk hf hno
    obtain ⟨fu, rfl⟩ : ∃ f, fu = f + 1 := ⟨fu - 1, by omega⟩
    have hgl : g < G.1 := by omega
    have hG64 := lt64 wf (hG g hgl)
    show B_Mo_parts_27 k19 (L_Mo_parts_27 k19 fu) _ _ _ _ = _
    unfold B_Mo_parts_27
    rw [hg.1, if_neg (nI_ge hgl (by omega))]
    simp only [inb_ok (show g < 40 by omega) (show 40 < 2 ^ 31 by decide), inb_ok hq (show 40 < 2 ^ 31 by decide), if_true, nI_clamp (show g < 2 ^ 31 by omega), nI_clamp (show q < 2 ^ 31 by omega), hg.2 g hgl, hrow, mo_fits h wf hs hp hG64, Option.bind_some, lN_eq0 (fit_lt (N := N) (s := s) (p := p) hG64), nI_1]
    by_cases hz : fit N s p (G.2 g) = 0
    · rw [if_pos hz]
      have e : gfi N s p G = g := first_at hgl (by simp [hz]) (fun i hi => by simp [hno i hi])
      rw [e]
    · rw [if_neg hz]
      refine ih fu (g + 1) (by omega) (by omega) (fun i hi => ?_)
      by_cases ei : i = g
      · rw [ei]; exact hz
      · exact hno i (by omega)
theorem mg_put {N : Nt} {s p q : Nat} (hp : p < 64) (hq : q < 40) {G : Gs} (h40 : G.1 < 40) {σ : Sto} (hg : GrM σ G) (hrow : gI σ 55 q = nI p) {k19 : Int32 → Int32 → Sto → Option (Unit × Sto)} :
    ∃ σ', B_Mo_parts_66 k19 (nI s) (nI q) (nI (gfi N s p G)) σ = k19 (nI s) (nI q + (-1)) σ' ∧ GrM σ' (gin N s p G) ∧ (∀ c j, ¬ (c = 48 ∧ j = 13) → gI σ' c j = gI σ c j) ∧ (∀ c j, c ≠ 56 → gL σ' c j = gL σ c j) := by
  have hle := gfi_le N s p G
  unfold B_Mo_parts_66 gin
  generalize hgf : gfi N s p G = g at *
  rw [hg.1]
  by_cases hlt : g < G.1
  · refine ⟨sL σ 56 g (lN (G.2 g ||| 2 ^ p)), ?_, ?_, fun _ _ _ => rfl, fun c j hc => g_sL_ne (by omega)⟩
    · rw [if_neg (fun z => absurd ((nI_eq (show g < 2 ^ 31 by omega) (show G.1 < 2 ^ 31 by omega)).1 z) (by omega))]
      simp only [inb_ok (show g < 40 by omega) (show 40 < 2 ^ 31 by decide), inb_ok hq (show 40 < 2 ^ 31 by decide), if_true, nI_clamp (show g < 2 ^ 31 by omega), nI_clamp (show q < 2 ^ 31 by omega), hrow, bit_eq hp, Option.bind_some, hg.2 g hlt, lt1_eq, fb_orL]
    · rw [if_pos hlt]
      refine ⟨hg.1, fun i hi => ?_⟩
      have hi' : i < G.1 := hi
      show _ = lN (if i = g then G.2 i ||| 2 ^ p else G.2 i)
      by_cases ei : i = g
      · subst ei; rw [g_sL_eq, if_pos rfl]
      · rw [g_sL_ne (by omega), if_neg ei]; exact hg.2 i hi'
  · have eg : g = G.1 := by omega
    subst eg
    refine ⟨sL (sI (sL σ 56 G.1 0) 48 13 (nI (G.1 + 1))) 56 G.1 (lN (2 ^ p)), ?_, ?_, fun c j hc => by rw [gI_sL, g_sI_ne hc]; rfl, fun c j hc => by rw [g_sL_ne (by omega), gL_sI, g_sL_ne (by omega)]⟩
    · rw [if_pos rfl]
      simp only [inb_ok (show G.1 < 40 by omega) (show 40 < 2 ^ 31 by decide), inb_ok hq (show 40 < 2 ^ 31 by decide), if_true, nI_clamp (show G.1 < 2 ^ 31 by omega), nI_clamp (show q < 2 ^ 31 by omega), lt1_eq, gI_sL, hg.1, nI_1, g_sI_ne (show ¬ (55 = 48 ∧ q = 13) by omega), hrow, bit_eq hp, Option.bind_some, gL_sI, g_sL_eq]
      rw [show (0 : Int64) ||| lN (2 ^ p) = lN (2 ^ p) by rw [show (0 : Int64) = lN 0 from rfl, fb_orL, Nat.zero_or]]
    · rw [if_neg hlt]
      refine ⟨by rw [gI_sL, g_sI_eq], fun i hi => ?_⟩
      have hi' : i < G.1 + 1 := hi
      show _ = lN (if i = G.1 then 2 ^ p else G.2 i)
      by_cases ei : i = G.1
      · subst ei; rw [g_sL_eq, if_pos rfl]
      · rw [g_sL_ne (by omega), gL_sI, g_sL_ne (by omega), if_neg ei]; exact hg.2 i (by omega)
theorem RkM.fr {σ σ' : Sto} {l : List Nat} {d : Nat} (h : RkM σ l d) (hf : ∀ c j, ¬ (c = 48 ∧ j = 13) → gI σ' c j = gI σ c j) : RkM σ' l d :=
  ⟨by rw [hf _ _ (by omega)]; exact h.1, by rw [hf _ _ (by omega)]; exact h.2.1, fun i hi => by rw [hf _ _ (by omega)]; exact h.2.2 i hi⟩
theorem mg_loop {N : Nt} (wf : WfN N) {s d : Nat} (hs : s < 2) {l : List Nat} (hl : l.length ≤ 40) (hp : ∀ p ∈ l, p < n_n N) : ∀ (k fu : Nat) (σ : Sto), k ≤ l.length → k < fu → ModAt σ N → RkM σ l d → GrM σ (grL N s (l.drop k)) →
    ∃ σ', L_Mo_parts_19 fu (nI s) (nI k - 1) σ = some ((), σ') ∧ GrM σ' (grL N s l) ∧ (∀ c j, ¬ (c = 48 ∧ j = 13) → gI σ' c j = gI σ c j) ∧ (∀ c j, c ≠ 56 → gL σ' c j = gL σ c j) := by
  intro k
  have hn := wf.1
  induction k with
  | zero =>
    intro fu σ hk hf h hr hg
    obtain ⟨fu, rfl⟩ : ∃ f, fu = f + 1 := ⟨fu - 1, by omega⟩
    refine ⟨σ, ?_, hg, fun _ _ _ => rfl, fun _ _ _ => rfl⟩
    show B_Mo_parts_19 (L_Mo_parts_19 fu) _ _ _ = _
    unfold B_Mo_parts_19
    rw [if_pos m1_neg]
  | succ k ih =>
    intro fu σ hk hf h hr hg
    obtain ⟨fu, rfl⟩ : ∃ f, fu = f + 1 := ⟨fu - 1, by omega⟩
    have hpn : l.getD k 0 < n_n N := getD_lt hp (by omega)
    have hlen := grL_len N s (l.drop (k + 1))
    rw [List.length_drop] at hlen
    have hrow := hr.2.2 k (by omega)
    have ef := mg_find wf hs hpn (show k < 40 by omega) (grL_lt (N := N) (s := s) _ (drop_lt hp)) (by omega) h hg hrow (k19 := L_Mo_parts_19 fu) (grL N s (l.drop (k + 1))).1 LF 0 (by omega) (by rw [LF_big]; omega) (fun i hi => absurd hi (Nat.not_lt_zero i))
    obtain ⟨σ1, e1, g1, g2, g3⟩ := mg_put (N := N) (s := s) (p := l.getD k 0) (by omega) (show k < 40 by omega) (by omega) hg hrow (k19 := L_Mo_parts_19 fu)
    obtain ⟨σ', e, a1, a2, a3⟩ := ih fu σ1 (by omega) (by omega) ⟨by rw [g2 _ _ (by omega)]; exact h.1, fun x hx => by
      obtain ⟨x1, x2, x3⟩ := h.2 x hx
      exact ⟨by rw [g2 _ _ (by omega)]; exact x1, by rw [g2 _ _ (by omega)]; exact x2, by rw [g3 _ _ (by omega)]; exact x3⟩⟩ (hr.fr g2) (by rw [drop_getD (show k < l.length by omega)]; exact g1)
    refine ⟨σ', ?_, a1, fun c j hc => by rw [a2 c j hc, g2 c j hc], fun c j hc => by rw [a3 c j hc, g3 c j hc]⟩
    show B_Mo_parts_19 (L_Mo_parts_19 fu) _ _ _ = _
    unfold B_Mo_parts_19
    rw [show nI (k + 1) - (1 : Int32) = nI k from nI_pred k, if_neg (nI_pos (by omega)), show (0 : Int32) = nI 0 from rfl, ef, e1, nI_m1]
    exact e
theorem mo_parts {σ : Sto} {N : Nt} (h : ModAt σ N) (wf : WfN N) {s w : Nat} (hs : s < 2) (hw : w < 2 ^ n_n N) : ∃ σ', f_Mo_parts (nI s) (lN w) σ = some ((), σ') ∧ GrM σ' (grN N s w) ∧ Scr kL σ σ' := by
  obtain ⟨σ1, e, hr, r4⟩ := mo_lines h wf hs hw
  have hl := ordL_len N s 40 w
  have hs1 : Scr kL σ1 (sI σ1 48 13 0) := Scr.sI (kL_f (by omega))
  obtain ⟨σ', e2, a1, a2, a3⟩ := mg_loop wf (s := s) (d := depL N s 40 w) hs hl (ord_lt hw) (ordL N s 40 w).length LF (sI σ1 48 13 0) (Nat.le_refl _) (by rw [LF_big]; omega) (h.kL (r4.tr hs1)) (hr.fr (fun c j hc => g_sI_ne hc)) (by
    rw [List.drop_length]
    exact ⟨by rw [g_sI_eq]; rfl, fun i hi => absurd hi (Nat.not_lt_zero i)⟩)
  refine ⟨σ', ?_, a1, (r4.tr hs1).tr (fun c j hc => ⟨a2 c j (by rintro ⟨rfl, rfl⟩; revert hc; decide), a3 c j (by rintro rfl; rw [kL_f (by omega)] at hc; cases hc)⟩)⟩
  unfold f_Mo_parts B_Mo_parts_0
  rw [e, Option.bind_some, lt1_eq, g_sI_ne (show ¬ (48 = 48 ∧ 10 = 13) by omega), hr.1]
  exact e2
theorem op_classes (a0 : Int32) (b1 : Int64) (c2 : Int32) : Op (f_FR_classes a0 b1 c2) (f_Mo_classes a0 b1 c2) := by
  obtain ⟨u, hu, rfl⟩ := wb_of b1
  cases h1 : oneB a0
  · refine Op.ask (fun _ => -2) (fun σ A wf h => ⟨σ, ?_, Scr.rf⟩) (fun σ A wf h => ⟨σ, ?_, Scr.rf⟩)
    · unfold f_FR_classes B_FR_classes_0
      simp [fr_isSideAndSet h.net wf.1 a0 hu, h1, ite_bf]
    · unfold f_Mo_classes B_Mo_classes_0
      simp [mo_isOne, h1, ite_bf]
  obtain ⟨s, hs, rfl⟩ := oneB_of h1
  refine Op.ask (fun A => if u < 2 ^ n_n (s_N A) then (if c2 = -1 then lN (grN (s_N A) s u).1 else if ptB c2 (grN (s_N A) s u).1 = true then lN ((grN (s_N A) s u).2 c2.toInt.toNat) else -12) else -2) (fun σ A wf h => ?_) (fun σ A wf h => ?_)
  · unfold f_FR_classes B_FR_classes_0
    simp only [fr_isSideAndSet h.net wf.1 (nI s) hu, h1, Bool.true_and, Option.bind_some]
    by_cases h3 : u < 2 ^ n_n (s_N A)
    · obtain ⟨σ1, σ', e1, e2, ⟨r1, r2⟩, r4⟩ := rk_grouped h.net wf.1 hs h3
      have hl := grN_len (s_N A) s u
      refine ⟨σ', ?_, r4.kRC⟩
      simp only [decide_eq_true h3, ite_bt, if_pos h3]
      unfold f_Judge_grouped B_Judge_grouped_0
      rw [e1, Option.bind_some, e2, Option.bind_some, Option.bind_some, r1]
      by_cases h4 : c2 = -1
      · rw [if_pos h4, if_pos h4, nI_l (by omega)]
      · rw [if_neg h4, if_neg h4, fr_place (by omega)]
        cases h5 : ptB c2 (grN (s_N A) s u).1
        · rw [if_neg (by decide), if_neg (by decide)]
        · obtain ⟨k, hk, rfl⟩ := ptB_of h5
          rw [if_pos rfl, if_pos rfl, nI_toInt (by omega)]
          simp only [inb_ok (show k < 40 by omega) (show 40 < 2 ^ 31 by decide), if_true, nI_clamp (show k < 2 ^ 31 by omega), Int.toNat_natCast, r2 k hk]
    · exact ⟨σ, by simp [h3, ite_bf], Scr.rf⟩
  · unfold f_Mo_classes B_Mo_classes_0
    simp only [mo_isOne, h1, mo_isSet h.net wf.1 hu, Option.bind_some, ite_bt]
    by_cases h3 : u < 2 ^ n_n (s_N A)
    · obtain ⟨σ', e, ⟨r1, r2⟩, r4⟩ := mo_parts h.net wf.1 hs h3
      have hl := grN_len (s_N A) s u
      refine ⟨σ', ?_, r4.kLM⟩
      simp only [decide_eq_true h3, ite_bt, if_pos h3]
      rw [e, Option.bind_some, r1]
      by_cases h4 : c2 = -1
      · rw [if_pos h4, if_pos h4, nI_l (by omega)]
      · rw [if_neg h4, if_neg h4, mo_inN (by omega), Option.bind_some]
        cases h5 : ptB c2 (grN (s_N A) s u).1
        · rw [ite_bf, if_neg (by decide)]
        · obtain ⟨k, hk, rfl⟩ := ptB_of h5
          rw [ite_bt, if_pos rfl, nI_toInt (by omega)]
          simp only [inb_ok (show k < 40 by omega) (show 40 < 2 ^ 31 by decide), if_true, nI_clamp (show k < 2 ^ 31 by omega), Int.toNat_natCast, r2 k hk]
    · exact ⟨σ, by simp [h3, ite_bf], Scr.rf⟩
