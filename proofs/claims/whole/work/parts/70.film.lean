/-! film: the classes told in a row -/
theorem ordL_nodup {N : Nt} {s : Nat} : ∀ k w, w < 2 ^ n_n N → (ordL N s k w).Nodup
  | 0, _, _ => List.nodup_nil
  | k + 1, w, hw => by
    by_cases h : w = 0
    · rw [h, ordL_0]; exact List.nodup_nil
    · rw [ordL_s h]
      refine List.nodup_cons.mpr ⟨fun hm => ?_, ordL_nodup k _ (nd_lt hw)⟩
      have := (ordL_mem k _ (nd_lt hw) _ hm).2
      rw [nd1_bit] at this
      simp at this
theorem grL_in {N : Nt} {s : Nat} : ∀ l : List Nat, l.Nodup → (∀ i, i < (grL N s l).1 → ∀ p, ((grL N s l).2 i).testBit p = true → p ∈ l) ∧ (∀ i j p, i < (grL N s l).1 → j < (grL N s l).1 → ((grL N s l).2 i).testBit p = true → ((grL N s l).2 j).testBit p = true → i = j)
  | [], _ => ⟨fun i hi => absurd hi (Nat.not_lt_zero i), fun i _ _ hi => absurd hi (Nat.not_lt_zero i)⟩
  | q :: l, hnd => by
    obtain ⟨hq, hnd'⟩ := List.nodup_cons.mp hnd
    obtain ⟨h1, h2⟩ := grL_in (N := N) (s := s) l hnd'
    show (∀ i, i < (gin N s q (grL N s l)).1 → ∀ p, ((gin N s q (grL N s l)).2 i).testBit p = true → p ∈ q :: l) ∧ (∀ i j p, i < (gin N s q (grL N s l)).1 → j < (gin N s q (grL N s l)).1 → ((gin N s q (grL N s l)).2 i).testBit p = true → ((gin N s q (grL N s l)).2 j).testBit p = true → i = j)
    generalize grL N s l = G at *
    unfold gin
    by_cases hlt : gfi N s q G < G.1
    · rw [if_pos hlt]
      have hb : ∀ i p, (if i = gfi N s q G then G.2 i ||| 2 ^ q else G.2 i).testBit p = true → (G.2 i).testBit p = true ∨ (i = gfi N s q G ∧ p = q) := fun i p hp => by
        by_cases e : i = gfi N s q G
        · rw [if_pos e, or1_bit, Bool.or_eq_true, decide_eq_true_eq] at hp
          rcases hp with hp | hp
          · exact Or.inl hp
          · exact Or.inr ⟨e, hp⟩
        · rw [if_neg e] at hp; exact Or.inl hp
      refine ⟨fun i hi p hp => ?_, fun i j p hi hj hpi hpj => ?_⟩
      · rcases hb i p hp with hp | ⟨_, hp⟩
        · exact List.mem_cons_of_mem _ (h1 i hi p hp)
        · rw [hp]; exact List.mem_cons_self
      · rcases hb i p hpi with hpi | ⟨ei, epi⟩
        · rcases hb j p hpj with hpj | ⟨ej, epj⟩
          · exact h2 i j p hi hj hpi hpj
          · exact absurd (h1 i hi p hpi) (by rw [epj]; exact hq)
        · rcases hb j p hpj with hpj | ⟨ej, epj⟩
          · exact absurd (h1 j hj p hpj) (by rw [epi]; exact hq)
          · omega
    · rw [if_neg hlt]
      have hb : ∀ i p, (if i = G.1 then 2 ^ q else G.2 i).testBit p = true → i < G.1 + 1 → (i < G.1 ∧ (G.2 i).testBit p = true) ∨ (i = G.1 ∧ p = q) := fun i p hp hi => by
        by_cases e : i = G.1
        · rw [if_pos e, Nat.testBit_two_pow, decide_eq_true_eq] at hp
          exact Or.inr ⟨e, hp.symm⟩
        · rw [if_neg e] at hp; exact Or.inl ⟨by omega, hp⟩
      refine ⟨fun i hi p hp => ?_, fun i j p hi hj hpi hpj => ?_⟩
      · rcases hb i p hp hi with ⟨hi, hp⟩ | ⟨_, hp⟩
        · exact List.mem_cons_of_mem _ (h1 i hi p hp)
        · rw [hp]; exact List.mem_cons_self
      · rcases hb i p hpi hi with ⟨hi, hpi⟩ | ⟨ei, epi⟩
        · rcases hb j p hpj hj with ⟨hj, hpj⟩ | ⟨ej, epj⟩
          · exact h2 i j p hi hj hpi hpj
          · exact absurd (h1 i hi p hpi) (by rw [epj]; exact hq)
        · rcases hb j p hpj hj with ⟨hj, hpj⟩ | ⟨ej, epj⟩
          · exact absurd (h1 j hj p hpj) (by rw [epi]; exact hq)
          · omega
def fmC (G : Gs) (p : Nat) : Int32 := if fa_first (fun g => (G.2 g).testBit p) G.1 < G.1 then nI (fa_first (fun g => (G.2 g).testBit p) G.1) else -1
def lsC (G : Gs) (p : Nat) : Nat → Int32
  | 0 => -1
  | g + 1 => if (G.2 g).testBit p then nI g else lsC G p g
theorem lsC_fm {G : Gs} {p : Nat} (hd : ∀ i j, i < G.1 → j < G.1 → (G.2 i).testBit p = true → (G.2 j).testBit p = true → i = j) : lsC G p G.1 = fmC G p := by
  unfold fmC
  have no : ∀ k, (∀ i, i < k → (G.2 i).testBit p = false) → lsC G p k = -1 := by
    intro k
    induction k with
    | zero => intro _; rfl
    | succ k ih =>
      intro h
      show (if (G.2 k).testBit p then nI k else lsC G p k) = -1
      rw [h k (by omega), if_neg (by decide)]
      exact ih (fun i hi => h i (by omega))
  by_cases hlt : fa_first (fun g => (G.2 g).testBit p) G.1 < G.1
  · rw [if_pos hlt]
    have hy := fa_first_yes (fun g => (G.2 g).testBit p) G.1 hlt
    generalize fa_first (fun g => (G.2 g).testBit p) G.1 = f at *
    have up : ∀ d, f + 1 + d ≤ G.1 → lsC G p (f + 1 + d) = nI f := by
      intro d
      induction d with
      | zero =>
        intro _
        show (if (G.2 f).testBit p then nI f else lsC G p f) = nI f
        rw [if_pos hy]
      | succ d ih =>
        intro hle
        show (if (G.2 (f + 1 + d)).testBit p then nI (f + 1 + d) else lsC G p (f + 1 + d)) = nI f
        cases hb : (G.2 (f + 1 + d)).testBit p with
        | false => rw [if_neg (by decide)]; exact ih (by omega)
        | true =>
          have := hd f (f + 1 + d) hlt (by omega) hy hb
          omega
    have := up (G.1 - (f + 1)) (by omega)
    rwa [show f + 1 + (G.1 - (f + 1)) = G.1 by omega] at this
  · rw [if_neg hlt]
    have hl := fa_first_le (fun g => (G.2 g).testBit p) G.1
    exact no G.1 (fun i hi => fa_first_no (fun g => (G.2 g).testBit p) G.1 i (by omega))
theorem fmC_ok {G : Gs} (h40 : G.1 ≤ 40) (p : Nat) : fmC G p = -1 ∨ ∃ g, g < 40 ∧ fmC G p = nI g := by
  unfold fmC
  split
  · exact Or.inr ⟨_, by omega, rfl⟩
  · exact Or.inl rfl
theorem i2b_ok {v : Int32} (h : v = -1 ∨ ∃ p, p < 40 ∧ v = nI p) : i2b v = v := by
  rcases h with rfl | ⟨p, hp, rfl⟩
  · decide +kernel
  · have : ∀ p, p < 40 → i2b (nI p) = nI p := by decide +kernel
    exact this p hp
theorem rk_groupOf {N : Nt} (wf : WfN N) {G : Gs} (hG : ∀ i, i < G.1 → G.2 i < 2 ^ n_n N) (h40 : G.1 ≤ 40) {σ : Sto} (hg : GrC σ G) {p : Nat} (hp : p < 40) : ∀ (k fu g : Nat), g + k = G.1 → k < fu → (∀ i, i < g → (G.2 i).testBit p = false) → L_Ranking_groupOf_2 fu (nI p) (nI g) σ = some (fmC G p, σ) := by
  intro k
  induction k with
  | zero =>
    intro fu g hgk hf hno
    obtain ⟨fu, rfl⟩ : ∃ f, fu = f + 1 := ⟨fu - 1, by omega⟩
    show B_Ranking_groupOf_2 (L_Ranking_groupOf_2 fu) _ _ _ = _
    unfold B_Ranking_groupOf_2 fmC
    rw [hg.1, if_pos (nI_le (by omega) (by omega)), first_end (fun i hi => hno i (by omega)), if_neg (by omega)]
  | succ k ih =>
    intro fu g hgk hf hno
    obtain ⟨fu, rfl⟩ : ∃ f, fu = f + 1 := ⟨fu - 1, by omega⟩
    have hgl : g < G.1 := by omega
    have e := ih fu (g + 1) (by omega) (by omega)
    show B_Ranking_groupOf_2 (L_Ranking_groupOf_2 fu) _ _ _ = _
    unfold B_Ranking_groupOf_2
    rw [hg.1, if_neg (nI_ge hgl (by omega))]
    simp only [inb_ok (show g < 40 by omega) (show 40 < 2 ^ 31 by decide), if_true, nI_clamp (show g < 2 ^ 31 by omega), hg.2 g hgl, nt_isOf (lt64 wf (hG g hgl)) hp, Option.bind_some, b2i_eq0, nI_1]
    cases hb : (G.2 g).testBit p with
    | false =>
      rw [if_pos rfl]
      refine e (fun i hi => ?_)
      by_cases ei : i = g
      · rw [ei]; exact hb
      · exact hno i (by omega)
    | true =>
      rw [if_neg (by decide)]
      unfold fmC
      rw [first_at hgl hb hno, if_pos hgl]
theorem fr_film_loop {N : Nt} (wf : WfN N) {G : Gs} (hG : ∀ i, i < G.1 → G.2 i < 2 ^ n_n N) (h40 : G.1 ≤ 40) {q : Nat} (hq : q < 4) : ∀ (r fu p : Nat) (σ : Sto), p + r = n_n N → r < fu → gI σ 1 0 = nI (n_n N) → GrC σ G → gI σ (36 + 2 * q) 0 = 0 → gI σ (36 + 2 * q) 1 = nI (n_n N) → (∀ j, j < p → gI σ (37 + 2 * q) j = fmC G j) →
    ∃ σ', L_FR_film_54 fu (36 + 2 * q) (nI p) σ = some (nI G.1, σ') ∧ (∀ j, j < n_n N → gI σ' (37 + 2 * q) j = fmC G j) ∧ (∀ c j, c ≠ 37 + 2 * q → gI σ' c j = gI σ c j) ∧ (∀ c j, gL σ' c j = gL σ c j) := by
  intro r
  have hn := wf.1
  induction r with
  | zero =>
    intro fu p σ hp hf h0 hg h3 h4 h5
    obtain ⟨fu, rfl⟩ : ∃ f, fu = f + 1 := ⟨fu - 1, by omega⟩
    refine ⟨σ, ?_, fun j hj => h5 j (by omega), fun _ _ _ => rfl, fun _ _ => rfl⟩
    show B_FR_film_54 (L_FR_film_54 fu) _ _ _ = _
    unfold B_FR_film_54
    rw [h0, if_pos (nI_le (by omega) (by omega)), hg.1]
  | succ r ih =>
    intro fu p σ hp hf h0 hg h3 h4 h5
    obtain ⟨fu, rfl⟩ : ∃ f, fu = f + 1 := ⟨fu - 1, by omega⟩
    obtain ⟨σ', e, g1, g2, g3⟩ := ih fu (p + 1) (sI σ (37 + 2 * q) p (fmC G p)) (by omega) (by omega) (by rw [g_sI_ne (by omega)]; exact h0) ⟨by rw [g_sI_ne (by omega)]; exact hg.1, hg.2⟩ (by rw [g_sI_ne (by omega)]; exact h3) (by rw [g_sI_ne (by omega)]; exact h4) (fun j hj => by
      by_cases ej : j = p
      · subst ej; rw [g_sI_eq]
      · rw [g_sI_ne (by omega)]; exact h5 j (by omega))
    refine ⟨σ', ?_, g1, fun c j hc => by rw [g2 c j hc, g_sI_ne (by omega)], fun c j => by rw [g3]; rfl⟩
    have eg := rk_groupOf wf hG h40 hg (show p < 40 by omega) G.1 LF 0 (by omega) (by rw [LF_big]; omega) (fun i hi => absurd hi (Nat.not_lt_zero i))
    show B_FR_film_54 (L_FR_film_54 fu) _ _ _ = _
    unfold B_FR_film_54 f_Ranking_groupOf B_Ranking_groupOf_0
    rw [h0, if_neg (nI_ge (by omega) (by omega)), show (0 : Int32) = nI 0 from rfl, eg, Option.bind_some]
    unfold f_Sheet_put B_Sheet_put_0
    simp only [sh_room h4 (show n_n N ≤ 60 by omega), roomB_1, ptB_nI (show p < 2 ^ 31 by omega), decide_eq_true (show p < n_n N by omega), Option.bind_some, ite_bt, h3, if_true, inb_ok (show p < 60 by omega) (show 60 < 2 ^ 31 by decide), nI_clamp (show p < 2 ^ 31 by omega), i2b_ok (fmC_ok h40 p), nI_1, show 36 + 2 * q + 1 = 37 + 2 * q by omega]
    exact e
theorem mo_film_in {N : Nt} (wf : WfN N) {G : Gs} (hG : ∀ i, i < G.1 → G.2 i < 2 ^ n_n N) (h40 : G.1 ≤ 40) {q p : Nat} (hq : q < 4) (hp : p < 40) {σ : Sto} (hg : GrM σ G) {k44 : Int32 → Int32 → Sto → Option (Int32 × Sto)} : ∀ (k fu g : Nat), g + k = G.1 → k < fu → L_Mo_film_59 k44 fu (nI q) (nI p) (lsC G p g) (nI g) σ = k44 (nI q) (nI (p + 1)) (sI σ 71 (60 * q + p) (lsC G p G.1)) := by
  intro k
  induction k with
  | zero =>
    intro fu g hgk hf
    obtain ⟨fu, rfl⟩ : ∃ f, fu = f + 1 := ⟨fu - 1, by omega⟩
    show B_Mo_film_59 k44 (L_Mo_film_59 k44 fu) _ _ _ _ _ = _
    unfold B_Mo_film_59
    rw [hg.1, if_pos (nI_le (by omega) (by omega)), show g = G.1 by omega]
    simp only [mo_place hq (show p < 60 by omega), inb_ok (show 60 * q + p < 240 by omega) (show 240 < 2 ^ 31 by decide), if_true, nI_clamp (show 60 * q + p < 2 ^ 31 by omega), lt1_eq, nI_1]
  | succ k ih =>
    intro fu g hgk hf
    obtain ⟨fu, rfl⟩ : ∃ f, fu = f + 1 := ⟨fu - 1, by omega⟩
    have hgl : g < G.1 := by omega
    have e := ih fu (g + 1) (by omega) (by omega)
    show B_Mo_film_59 k44 (L_Mo_film_59 k44 fu) _ _ _ _ _ = _
    unfold B_Mo_film_59
    rw [hg.1, if_neg (nI_ge hgl (by omega))]
    simp only [inb_ok (show g < 40 by omega) (show 40 < 2 ^ 31 by decide), if_true, nI_clamp (show g < 2 ^ 31 by omega), hg.2 g hgl, has_eq (lt64 wf (hG g hgl)) (show p < 64 by omega), Option.bind_some, b2i_eq0]
    rw [show nI g + (1 : Int32) = nI (g + 1) from nI_1 g]
    rw [show lsC G p (g + 1) = if (G.2 g).testBit p then nI g else lsC G p g from rfl] at e
    cases hb : (G.2 g).testBit p with
    | false =>
      rw [if_pos rfl]
      rw [hb, if_neg (by decide)] at e
      exact e
    | true =>
      rw [if_neg (by decide)]
      rw [hb, if_pos rfl] at e
      exact e
theorem mo_film_loop {N : Nt} (wf : WfN N) {G : Gs} (hG : ∀ i, i < G.1 → G.2 i < 2 ^ n_n N) (h40 : G.1 ≤ 40) (hd : ∀ p, lsC G p G.1 = fmC G p) {q : Nat} (hq : q < 4) : ∀ (r fu p : Nat) (σ : Sto), p + r = n_n N → r < fu → gI σ 48 0 = nI (n_n N) → GrM σ G → (∀ j, j < p → gI σ 71 (60 * q + j) = fmC G j) →
    ∃ σ', L_Mo_film_44 fu (nI q) (nI p) σ = some (nI G.1, σ') ∧ (∀ j, j < n_n N → gI σ' 71 (60 * q + j) = fmC G j) ∧ (∀ j, ¬ (60 * q ≤ j ∧ j < 60 * q + 60) → gI σ' 71 j = gI σ 71 j) ∧ (∀ c j, c ≠ 71 → gI σ' c j = gI σ c j) ∧ (∀ c j, gL σ' c j = gL σ c j) := by
  intro r
  have hn := wf.1
  induction r with
  | zero =>
    intro fu p σ hp hf h0 hg h5
    obtain ⟨fu, rfl⟩ : ∃ f, fu = f + 1 := ⟨fu - 1, by omega⟩
    refine ⟨σ, ?_, fun j hj => h5 j (by omega), fun _ _ => rfl, fun _ _ _ => rfl, fun _ _ => rfl⟩
    show B_Mo_film_44 (L_Mo_film_44 fu) _ _ _ = _
    unfold B_Mo_film_44
    rw [h0, if_pos (nI_le (by omega) (by omega)), hg.1]
  | succ r ih =>
    intro fu p σ hp hf h0 hg h5
    obtain ⟨fu, rfl⟩ : ∃ f, fu = f + 1 := ⟨fu - 1, by omega⟩
    have ei := mo_film_in wf hG h40 hq (show p < 40 by omega) hg (k44 := L_Mo_film_44 fu) G.1 LF 0 (by omega) (by rw [LF_big]; omega)
    rw [hd p] at ei
    obtain ⟨σ', e, g1, g2, g3, g4⟩ := ih fu (p + 1) (sI σ 71 (60 * q + p) (fmC G p)) (by omega) (by omega) (by rw [g_sI_ne (by omega)]; exact h0) ⟨by rw [g_sI_ne (by omega)]; exact hg.1, hg.2⟩ (fun j hj => by
      by_cases ej : j = p
      · subst ej; rw [g_sI_eq]
      · rw [g_sI_ne (by omega)]; exact h5 j (by omega))
    refine ⟨σ', ?_, g1, fun j hj => by rw [g2 j hj, g_sI_ne (by omega)], fun c j hc => by rw [g3 c j hc, g_sI_ne (by omega)], fun c j => by rw [g4]; rfl⟩
    show B_Mo_film_44 (L_Mo_film_44 fu) _ _ _ = _
    unfold B_Mo_film_44
    rw [h0, if_neg (nI_ge (by omega) (by omega))]
    exact ei.trans e
theorem op_film (a0 : Int32) (b1 : Int32) (c2 : Int64) : Op (f_FR_film a0 b1 c2) (f_Mo_film a0 b1 c2) := by
  obtain ⟨u, hu, rfl⟩ := wb_of c2
  cases h0 : ptB a0 4
  · refine Op.ask (fun _ => -2) (fun σ A wf h => ⟨σ, ?_, Scr.rf⟩) (fun σ A wf h => ⟨σ, ?_, Scr.rf⟩)
    · unfold f_FR_film B_FR_film_0
      simp [fr_isSheet, h0, ite_bf]
    · unfold f_Mo_film B_Mo_film_0
      simp [mo_isSheet, h0, ite_bf]
  cases h1 : oneB b1
  · refine Op.ask (fun _ => -2) (fun σ A wf h => ⟨σ, ?_, Scr.rf⟩) (fun σ A wf h => ⟨σ, ?_, Scr.rf⟩)
    · unfold f_FR_film B_FR_film_0
      simp [fr_isSheet, h0, fr_isSideAndSet h.net wf.1 b1 hu, h1, ite_bf, ite_bt]
    · unfold f_Mo_film B_Mo_film_0
      simp [mo_isSheet, h0, mo_isOne, h1, ite_bf, ite_bt]
  obtain ⟨q, hq, rfl⟩ := ptB_of h0
  obtain ⟨s, hs, rfl⟩ := oneB_of h1
  refine Op.mk (fun A => if u < 2 ^ n_n (s_N A) then nI (grN (s_N A) s u).1 else -2) (fun A => if u < 2 ^ n_n (s_N A) then setS A q (0, n_n (s_N A), fmC (grN (s_N A) s u)) else A) (fun σ A wf h => ?_) (fun σ A wf h => ?_)
  · have hn := wf.1.1
    unfold f_FR_film B_FR_film_0
    simp only [fr_isSheet, h0, fr_isSideAndSet h.net wf.1 (nI s) hu, h1, Bool.true_and, Option.bind_some, ite_bt]
    by_cases h3 : u < 2 ^ n_n (s_N A)
    · obtain ⟨σ0, σ1, e1, e2, hg, r4⟩ := rk_grouped h.net wf.1 hs h3
      have hC1 := h.scrC r4.kRC
      have hl := grN_len (s_N A) s u
      obtain ⟨σ2, e3, k1, k2, k3, k4⟩ := sh_remake hq 0 (nI (n_n (s_N A))) σ1
      have em : mxI 0 (mnI (nI (n_n (s_N A))) 60) = nI (n_n (s_N A)) := by
        have : ∀ m, m < 61 → mxI 0 (mnI (nI m) 60) = nI m := by decide +kernel
        exact this _ (by omega)
      rw [em] at k2
      obtain ⟨σ3, e4, f1, f2, f3⟩ := fr_film_loop wf.1 (grN_lt h3) hl hq (n_n (s_N A)) LF 0 σ2 (by omega) (by rw [LF_big]; omega) (by rw [(k4 1 0 (by omega) (by omega)).1]; exact hC1.net.1) ⟨by rw [(k4 17 4 (by omega) (by omega)).1]; exact hg.1, fun i hi => by rw [(k4 19 i (by omega) (by omega)).2]; exact hg.2 i hi⟩ k1 k2 (fun j hj => absurd hj (by omega))
      simp only [if_pos h3]
      refine ⟨σ3, ?_, setS_wf wf ⟨show n_n (s_N A) ≤ 60 by omega, Or.inr (Or.inl rfl)⟩, hC1.shU (fun c j x y => ⟨by rw [f2 c j y]; exact (k4 c j x y).1, by rw [f3]; exact (k4 c j x y).2⟩) hq (by rw [f2 _ _ (by omega)]; exact k1) (by rw [f2 _ _ (by omega)]; exact k2) f1, fun c j hc => ⟨by rw [f2 c j (by omega), (k4 c j (by omega) (by omega)).1, (r4 c j (kR_t (by omega))).1], by rw [f3, (k4 c j (by omega) (by omega)).2, (r4 c j (kR_t (by omega))).2]⟩⟩
      simp only [decide_eq_true h3, ite_bt]
      unfold f_Judge_grouped B_Judge_grouped_0
      rw [e1, Option.bind_some]
      simp only []
      rw [e2, Option.bind_some, Option.bind_some]
      simp only [inb_ok (show q < 4 by omega) (show 4 < 2 ^ 31 by decide), if_true, nI_clamp (show q < 2 ^ 31 by omega), hC1.net.1]
      rw [e3, Option.bind_some, show (0 : Int32) = nI 0 from rfl]
      exact e4
    · refine ⟨σ, by simp [h3, ite_bf], by rw [if_neg h3]; exact wf, by rw [if_neg h3]; exact h, fun _ _ _ => ⟨rfl, rfl⟩⟩
  · have hn := wf.1.1
    unfold f_Mo_film B_Mo_film_0
    simp only [mo_isSheet, h0, mo_isOne, h1, mo_isSet h.net wf.1 hu, Option.bind_some, ite_bt]
    by_cases h3 : u < 2 ^ n_n (s_N A)
    · obtain ⟨σ1, e1, hg, r4⟩ := mo_parts h.net wf.1 hs h3
      have hM1 := h.scrM r4.kLM
      have hl := grN_len (s_N A) s u
      have hdd := grL_in (N := s_N A) (s := s) (ordL (s_N A) s 40 u) (ordL_nodup 40 u h3)
      obtain ⟨σ2, e3, k1, k2, k3, k4, k5, k6⟩ := mo_row hq 0 (nI (n_n (s_N A))) σ1
      obtain ⟨σ3, e4, f1, f2, f3, f4⟩ := mo_film_loop wf.1 (grN_lt h3) hl (fun p => lsC_fm (fun i j hi hj => hdd.2 i j p hi hj)) hq (n_n (s_N A)) LF 0 σ2 (by omega) (by rw [LF_big]; omega) (by rw [k5 48 0 (by omega) (by omega) (by omega)]; exact hM1.net.1) ⟨by rw [k5 48 13 (by omega) (by omega) (by omega)]; exact hg.1, fun i hi => by rw [k6]; exact hg.2 i hi⟩ (fun j hj => absurd hj (by omega))
      simp only [if_pos h3]
      refine ⟨σ3, ?_, hM1.shU (fun c j x y z => by rw [f3 c j z]; exact k5 c j z (by omega) (by omega)) (fun c j => by rw [f4]; exact k6 c j) (fun j hj => by rw [f3 _ _ (by omega)]; exact k5 69 j (by omega) (by omega) (by omega)) (fun j hj => by rw [f3 _ _ (by omega)]; exact k5 70 j (by omega) (by omega) (by omega)) (fun j hj => by rw [f2 j hj]; exact k4 j hj) wf (by rw [f3 _ _ (by omega)]; exact k1) (by rw [f3 _ _ (by omega), k2]; rfl) f1, fun c j hc => ⟨by rw [f3 c j (by omega), k5 c j (by omega) (by omega) (by omega), (r4 c j (kL_t (by omega))).1], by rw [f4, k6, (r4 c j (kL_t (by omega))).2]⟩⟩
      simp only [decide_eq_true h3, ite_bt]
      rw [e1, Option.bind_some]
      simp only [hM1.net.1]
      rw [e3, Option.bind_some, show (0 : Int32) = nI 0 from rfl]
      exact e4
    · refine ⟨σ, by simp [h3, ite_bf], by rw [if_neg h3]; exact h, fun _ _ _ => ⟨rfl, rfl⟩⟩
