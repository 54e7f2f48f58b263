/-! the reference's order -/
def kL (c j : Nat) : Bool := !((decide (c = 48) && (decide (j = 10) || decide (j = 11) || decide (j = 13))) || decide (c = 55) || decide (c = 56))
theorem kL_t {c j : Nat} (h : ¬ (c = 48 ∧ (j = 10 ∨ j = 11 ∨ j = 13)) ∧ c ≠ 55 ∧ c ≠ 56) : kL c j = true := by
  unfold kL
  simp only [Bool.not_eq_true', Bool.or_eq_false_iff, Bool.and_eq_false_iff, decide_eq_false_iff_not]
  omega
theorem kL_f {c j : Nat} (h : (c = 48 ∧ (j = 10 ∨ j = 11 ∨ j = 13)) ∨ c = 55 ∨ c = 56) : kL c j = false := by
  unfold kL
  simp only [Bool.not_eq_false', Bool.or_eq_true, Bool.and_eq_true, decide_eq_true_eq]
  omega
theorem ModAt.kL {σ σ' : Sto} {N : Nt} (h : ModAt σ N) (hs : Scr kL σ σ') : ModAt σ' N :=
  ⟨by rw [(hs 48 0 (kL_t (by omega))).1]; exact h.1, fun p hp => by
    obtain ⟨a1, a2, a3⟩ := h.2 p hp
    exact ⟨by rw [(hs 49 p (kL_t (by omega))).1]; exact a1, by rw [(hs 50 p (kL_t (by omega))).1]; exact a2, by rw [(hs 51 p (kL_t (by omega))).2]; exact a3⟩⟩
theorem Scr.kLM {σ σ' : Sto} (hs : Scr kL σ σ') : Scr kM σ σ' := fun c j h => hs c j (by
  apply kL_t
  revert h
  unfold kM
  simp only [Bool.or_eq_true, Bool.and_eq_true, decide_eq_true_eq]
  omega)
theorem bI_ok {b : Nat × Nat} (h : b.2 ≤ 64) : bI b = nI b.1 := by unfold bI; rw [if_neg (by omega)]
theorem ln_bare {σ : Sto} {N : Nt} (h : ModAt σ N) (wf : WfN N) {s w cnt dep : Nat} (hs : s < 2) (hw : w < 2 ^ n_n N) (h0 : w ≠ 0) (h1 : gI σ 48 10 = nI cnt) (hc : cnt < 40) (h2 : gI σ 48 11 = nI dep) (hd : dep ≤ 64) {k13 : Int32 → Int64 → Sto → Option (Unit × Sto)} : ∀ (k fu p : Nat), p + k = n_n N → k < fu →
    L_Mo_lines_30 k13 fu (nI s) (lN w) (bI (brF N s w p)) (nI (brF N s w p).2) (nI p) σ = k13 (nI s) (lN (nd w (2 ^ brP N s w))) (sI (sI (sI σ 48 11 (nI (max dep (brQ N s w)))) 55 cnt (nI (brP N s w))) 48 10 (nI (cnt + 1))) := by
  intro k
  have hn := wf.1
  have hw64 : w < 2 ^ 64 := Nat.lt_of_lt_of_le hw (two_pow_le (by omega))
  induction k with
  | zero =>
    intro fu p hp hf
    obtain ⟨fu, rfl⟩ : ∃ f, fu = f + 1 := ⟨fu - 1, by omega⟩
    obtain ⟨b1, b2, b3, b4⟩ := brP_ok (s := s) hw h0
    show B_Mo_lines_30 k13 (L_Mo_lines_30 k13 fu) _ _ _ _ _ _ = _
    unfold B_Mo_lines_30
    rw [h.1, if_pos (nI_le (by omega) (by omega)), h2, show p = n_n N by omega, show (brF N s w (n_n N)).2 = brQ N s w from rfl, mo_most (by omega) (by omega), Option.bind_some]
    simp only [g_sI_ne (show ¬ (48 = 48 ∧ 10 = 11) by omega), h1, inb_ok (show cnt < 40 by omega) (show 40 < 2 ^ 31 by decide), if_true, nI_clamp (show cnt < 2 ^ 31 by omega), lt1_eq, g_sI_ne (show ¬ (48 = 55 ∧ 10 = cnt) by omega), nI_1]
    rw [bI_ok (b := brF N s w (n_n N)) b4, show (brF N s w (n_n N)).1 = brP N s w from rfl, bit_eq (by omega), Option.bind_some]
    simp only []
    rw [lN_nd hw64]
  | succ k ih =>
    intro fu p hp hf
    obtain ⟨fu, rfl⟩ : ∃ f, fu = f + 1 := ⟨fu - 1, by omega⟩
    have e := ih fu (p + 1) (by omega) (by omega)
    have hl := brF_le N s w p
    have hpc := pc_le (fit N s p w)
    show B_Mo_lines_30 k13 (L_Mo_lines_30 k13 fu) _ _ _ _ _ _ = _
    unfold B_Mo_lines_30
    rw [h.1, if_neg (nI_ge (by omega) (by omega)), has_eq hw64 (by omega), Option.bind_some]
    simp only [b2i_eq0]
    cases hb : w.testBit p with
    | false =>
      rw [if_pos rfl]
      rw [brF_no hb] at e
      unfold B_Mo_lines_66
      rw [show (99 : Int32) = nI 99 from rfl, if_pos (nI_le hl (by omega)), if_pos (nI_le hl (by omega)), nI_1]
      exact e
    | true =>
      rw [if_neg (by decide), mo_fits h wf hs (by omega) hw64, Option.bind_some]
      simp only []
      rw [many_eq (fit_lt hw64), Option.bind_some]
      simp only []
      rw [brF_yes hb] at e
      unfold B_Mo_lines_66
      rw [nI_1]
      simp only [nI_leI (show (brF N s w p).2 < 2 ^ 31 by omega) (show pc (fit N s p w) < 2 ^ 31 by omega)]
      by_cases hlt : pc (fit N s p w) < (brF N s w p).2
      · rw [if_neg (by omega), if_neg (by omega)]
        rw [if_pos hlt, bI_ok (b := (p, pc (fit N s p w))) hpc] at e
        exact e
      · rw [if_pos (by omega), if_pos (by omega)]
        rw [if_neg hlt] at e
        exact e
theorem ln_loop {N : Nt} (wf : WfN N) {s : Nat} (hs : s < 2) : ∀ (k fu cnt w dep : Nat) (σ : Sto), pc w ≤ k → k < fu → cnt + pc w ≤ 40 → w < 2 ^ n_n N → ModAt σ N → gI σ 48 10 = nI cnt → gI σ 48 11 = nI dep → dep ≤ 64 →
    ∃ σ', L_Mo_lines_13 fu (nI s) (lN w) σ = some ((), σ') ∧ gI σ' 48 10 = nI (cnt + (ordL N s k w).length) ∧ gI σ' 48 11 = nI (max dep (depL N s k w)) ∧ (∀ i, i < cnt → gI σ' 55 i = gI σ 55 i) ∧ (∀ i, i < (ordL N s k w).length → gI σ' 55 (cnt + i) = nI ((ordL N s k w).getD i 0)) ∧ Scr kL σ σ' := by
  intro k
  have hn := wf.1
  induction k with
  | zero =>
    intro fu cnt w dep σ hk hf hpl hw h h1 h2 hd
    obtain ⟨fu, rfl⟩ : ∃ f, fu = f + 1 := ⟨fu - 1, by omega⟩
    have hw64 : w < 2 ^ 64 := Nat.lt_of_lt_of_le hw (two_pow_le (by omega))
    have w0 : w = 0 := pc_z hw64 (by omega)
    subst w0
    refine ⟨σ, ?_, by rw [h1]; rfl, by rw [h2]; simp [depL], fun _ _ => rfl, fun i hi => absurd hi (Nat.not_lt_zero i), Scr.rf⟩
    show B_Mo_lines_13 (L_Mo_lines_13 fu) _ _ _ = _
    unfold B_Mo_lines_13
    rw [if_pos (show lN 0 = (0 : Int64) from rfl)]
  | succ k ih =>
    intro fu cnt w dep σ hk hf hpl hw h h1 h2 hd
    obtain ⟨fu, rfl⟩ : ∃ f, fu = f + 1 := ⟨fu - 1, by omega⟩
    have hw64 : w < 2 ^ 64 := Nat.lt_of_lt_of_le hw (two_pow_le (by omega))
    by_cases w0 : w = 0
    · subst w0
      refine ⟨σ, ?_, by rw [h1]; rfl, by rw [h2]; simp [depL], fun _ _ => rfl, fun i hi => absurd hi (Nat.not_lt_zero i), Scr.rf⟩
      show B_Mo_lines_13 (L_Mo_lines_13 fu) _ _ _ = _
      unfold B_Mo_lines_13
      rw [if_pos (show lN 0 = (0 : Int64) from rfl)]
    · obtain ⟨b1, b2, b3, b4⟩ := brP_ok (s := s) hw w0
      have hpc : pc (nd w (2 ^ brP N s w)) + 1 = pc w := pc_nd (by omega) b2
      rw [ordL_s w0, depL_s w0]
      have eb := ln_bare h wf hs hw w0 h1 (by omega) h2 hd (k13 := L_Mo_lines_13 fu) (n_n N) LF 0 (by omega) (by rw [LF_big]; omega)
      obtain ⟨τ, hτ⟩ : ∃ τ, τ = sI (sI (sI σ 48 11 (nI (max dep (brQ N s w)))) 55 cnt (nI (brP N s w))) 48 10 (nI (cnt + 1)) := ⟨_, rfl⟩
      rw [← hτ] at eb
      have hsτ : Scr kL σ τ := by rw [hτ]; exact ((Scr.sI (kL_f (by omega))).tr (Scr.sI (kL_f (by omega)))).tr (Scr.sI (kL_f (by omega)))
      obtain ⟨σ', e, a1, a2, a3, a4, a5⟩ := ih fu (cnt + 1) (nd w (2 ^ brP N s w)) (max dep (brQ N s w)) τ (by omega) (by omega) (by omega) (nd_lt hw) (h.kL hsτ) (by rw [hτ, g_sI_eq]) (by rw [hτ, g_sI_ne (by omega), g_sI_ne (by omega), g_sI_eq]) (by omega)
      refine ⟨σ', ?_, ?_, ?_, ?_, ?_, hsτ.tr a5⟩
      · show B_Mo_lines_13 (L_Mo_lines_13 fu) _ _ _ = _
        unfold B_Mo_lines_13
        rw [if_neg (fun q => w0 ((lN_eq0 hw64).1 q))]
        exact eb.trans e
      · rw [a1, List.length_cons]; congr 1; omega
      · rw [a2]; congr 1; omega
      · intro i hi
        rw [a3 i (by omega), hτ, g_sI_ne (by omega), g_sI_ne (by omega), g_sI_ne (by omega)]
      · intro i hi
        cases i with
        | zero => rw [Nat.add_zero, a3 cnt (by omega), hτ, g_sI_ne (by omega), g_sI_eq]; rfl
        | succ i =>
          rw [List.length_cons] at hi
          have := a4 i (by omega)
          rw [show cnt + 1 + i = cnt + (i + 1) by omega] at this
          rw [this]; rfl
def RkM (σ : Sto) (l : List Nat) (d : Nat) : Prop := gI σ 48 10 = nI l.length ∧ gI σ 48 11 = nI d ∧ ∀ i, i < l.length → gI σ 55 i = nI (l.getD i 0)
theorem mo_lines {σ : Sto} {N : Nt} (h : ModAt σ N) (wf : WfN N) {s w : Nat} (hs : s < 2) (hw : w < 2 ^ n_n N) : ∃ σ', f_Mo_lines (nI s) (lN w) σ = some ((), σ') ∧ RkM σ' (ordL N s 40 w) (depL N s 40 w) ∧ Scr kL σ σ' := by
  have hn := wf.1
  have hpc : pc w ≤ 40 := by rw [pc_lt (Nat.lt_of_lt_of_le hw (two_pow_le hn)) (by decide)]; exact pcK_le 40 w
  have hs2 : Scr kL σ (sI (sI σ 48 10 0) 48 11 0) := (Scr.sI (kL_f (by omega))).tr (Scr.sI (kL_f (by omega)))
  obtain ⟨σ', e, a1, a2, a3, a4, a5⟩ := ln_loop wf hs 40 LF 0 w 0 (sI (sI σ 48 10 0) 48 11 0) hpc (by rw [LF_big]; omega) (by omega) hw (h.kL hs2) (by rw [g_sI_ne (by omega), g_sI_eq]; rfl) (by rw [g_sI_eq]; rfl) (by omega)
  refine ⟨σ', e, ⟨by rw [a1, Nat.zero_add], by rw [a2, Nat.zero_max], fun i hi => ?_⟩, hs2.tr a5⟩
  have := a4 i hi
  rwa [Nat.zero_add] at this
/-- a place in a row of so many, as the class and the reference ask for it -/
theorem fr_place {R : Type} {x : Int32} {m : Nat} (hm : m ≤ 1000) (a b : R) : (if x < 0 then a else if nI m ≤ x then a else b) = if ptB x m = true then b else a := by
  have e0 : x < 0 ↔ x.toInt < 0 := by rw [Int32.lt_iff_toInt_lt, Int32.toInt_zero]
  have e1 : nI m ≤ x ↔ (m : Int) ≤ x.toInt := by rw [Int32.le_iff_toInt_le, nI_toInt (by omega)]
  simp only [e0, e1, ptB]
  by_cases h1 : x.toInt < 0
  · simp [h1, show ¬ (0 ≤ x.toInt) by omega]
  · by_cases h2 : (m : Int) ≤ x.toInt
    · simp [h1, h2, show ¬ (x.toInt < (m : Int)) by omega]
    · simp [h1, h2, show (0 ≤ x.toInt) by omega, show (x.toInt < (m : Int)) by omega]
theorem mo_inN {x : Int32} {m : Nat} (hm : m ≤ 1000) (σ : Sto) : f_Mo_in (Int32.toInt64 x) 0 (Int32.toInt64 (nI m - 1)) σ = some (ptB x m, σ) := by
  rw [mo_inI]
  have el : (Int32.toInt64 (nI m - 1)).toInt = (m : Int) - 1 := by
    rw [Int32.toInt_toInt64, fb_subI] <;> rw [nI_toInt (by omega), show (1 : Int32).toInt = 1 by decide +kernel] <;> omega
  rw [el, show (0 : Int64).toInt = 0 by decide +kernel]
  unfold ptB
  congr 3
  congr 1
  apply propext
  constructor <;> intro q <;> omega
/-! order -/
theorem pcw40 {N : Nt} (wf : WfN N) {w : Nat} (hw : w < 2 ^ n_n N) : pc w ≤ 40 := by
  rw [pc_lt (Nat.lt_of_lt_of_le hw (two_pow_le wf.1)) (by decide)]; exact pcK_le 40 w
theorem lt64 {N : Nt} (wf : WfN N) {w : Nat} (hw : w < 2 ^ n_n N) : w < 2 ^ 64 := Nat.lt_of_lt_of_le hw (two_pow_le (by have := wf.1; omega))
theorem ord_lt {N : Nt} {s w : Nat} (hw : w < 2 ^ n_n N) : ∀ p ∈ ordL N s 40 w, p < n_n N := fun p hp => (ordL_mem 40 w hw p hp).1
theorem op_order (a0 : Int32) (b1 : Int64) (c2 : Int32) : Op (f_FR_order a0 b1 c2) (f_Mo_order a0 b1 c2) := by
  obtain ⟨u, hu, rfl⟩ := wb_of b1
  cases h1 : oneB a0
  · refine Op.ask (fun _ => -2) (fun σ A wf h => ⟨σ, ?_, Scr.rf⟩) (fun σ A wf h => ⟨σ, ?_, Scr.rf⟩)
    · unfold f_FR_order B_FR_order_0
      simp [fr_isSideAndSet h.net wf.1 a0 hu, h1, ite_bf]
    · unfold f_Mo_order B_Mo_order_0
      simp [mo_isOne, h1, ite_bf]
  obtain ⟨s, hs, rfl⟩ := oneB_of h1
  refine Op.ask (fun A => if u < 2 ^ n_n (s_N A) then (if c2 = -1 then nI (depL (s_N A) s 40 u) else if ptB c2 (ordL (s_N A) s 40 u).length = true then nI ((ordL (s_N A) s 40 u).getD c2.toInt.toNat 0) else -12) else -2) (fun σ A wf h => ?_) (fun σ A wf h => ?_)
  · unfold f_FR_order B_FR_order_0
    simp only [fr_isSideAndSet h.net wf.1 (nI s) hu, h1, Bool.true_and, Option.bind_some]
    by_cases h3 : u < 2 ^ n_n (s_N A)
    · obtain ⟨σ', e, ⟨r1, r2, r3⟩, r4⟩ := rk_rank h.net wf.1 hs h3
      have hl := ordL_len (s_N A) s 40 u
      refine ⟨σ', ?_, r4.kRC⟩
      simp only [decide_eq_true h3, ite_bt, if_pos h3]
      unfold f_Judge_ranked B_Judge_ranked_0
      rw [e, Option.bind_some, Option.bind_some, r1, r2]
      by_cases h4 : c2 = -1
      · rw [if_pos h4, if_pos h4]
      · rw [if_neg h4, if_neg h4]
        rw [fr_place (by omega)]
        cases h5 : ptB c2 (ordL (s_N A) s 40 u).length
        · rw [if_neg (by decide), if_neg (by decide)]
        · obtain ⟨k, hk, rfl⟩ := ptB_of h5
          rw [if_pos rfl, if_pos rfl, nI_toInt (by omega)]
          simp only [inb_ok (show k < 40 by omega) (show 40 < 2 ^ 31 by decide), if_true, nI_clamp (show k < 2 ^ 31 by omega), Int.toNat_natCast, r3 k hk]
    · exact ⟨σ, by simp [h3, ite_bf], Scr.rf⟩
  · unfold f_Mo_order B_Mo_order_0
    simp only [mo_isOne, h1, mo_isSet h.net wf.1 hu, Option.bind_some, ite_bt]
    by_cases h3 : u < 2 ^ n_n (s_N A)
    · obtain ⟨σ', e, ⟨r1, r2, r3⟩, r4⟩ := mo_lines h.net wf.1 hs h3
      have hl := ordL_len (s_N A) s 40 u
      refine ⟨σ', ?_, r4.kLM⟩
      simp only [decide_eq_true h3, ite_bt, if_pos h3]
      rw [e, Option.bind_some, r2]
      by_cases h4 : c2 = -1
      · rw [if_pos h4, if_pos h4]
      · rw [if_neg h4, if_neg h4, r1, mo_inN (by omega), Option.bind_some]
        cases h5 : ptB c2 (ordL (s_N A) s 40 u).length
        · rw [ite_bf, if_neg (by decide)]
        · obtain ⟨k, hk, rfl⟩ := ptB_of h5
          rw [ite_bt, if_pos rfl, nI_toInt (by omega)]
          simp only [inb_ok (show k < 40 by omega) (show 40 < 2 ^ 31 by decide), if_true, nI_clamp (show k < 2 ^ 31 by omega), Int.toNat_natCast, r3 k hk]
    · exact ⟨σ, by simp [h3, ite_bf], Scr.rf⟩
/-! what is taken -/
def tkL (N : Nt) (s : Nat) : List Nat → Nat
  | [] => 0
  | p :: l => if fit N s p (tkL N s l) = tkL N s l then tkL N s l ||| 2 ^ p else tkL N s l
theorem tkL_s (N : Nt) (s p : Nat) (l : List Nat) : tkL N s (p :: l) = if fit N s p (tkL N s l) = tkL N s l then tkL N s l ||| 2 ^ p else tkL N s l := rfl
theorem tkL_lt {N : Nt} {s n : Nat} : ∀ l : List Nat, (∀ p ∈ l, p < n) → tkL N s l < 2 ^ n
  | [], _ => Nat.two_pow_pos _
  | p :: l, h => by
    have h1 := tkL_lt (N := N) (s := s) l (fun q hq => h q (List.mem_cons_of_mem _ hq))
    have h2 : 2 ^ p < 2 ^ n := Nat.pow_lt_pow_right (by decide) (h p (List.mem_cons_self))
    unfold tkL
    split
    · exact or_lt h1 h2
    · exact h1
theorem drop_getD {l : List Nat} {k : Nat} (h : k < l.length) : l.drop k = l.getD k 0 :: l.drop (k + 1) := by
  rw [List.drop_eq_getElem_cons h, List.getD_eq_getElem?_getD, List.getElem?_eq_getElem h]
  rfl
theorem nI_m1 (k : Nat) : nI k + (-1) = nI k - 1 := by
  apply Int32.toBitVec_inj.mp
  simp [BitVec.sub_eq_add_neg]
theorem m1_neg : nI 0 - 1 < (0 : Int32) := by decide +kernel
theorem drop_lt {l : List Nat} {n k : Nat} (h : ∀ p ∈ l, p < n) : ∀ p ∈ l.drop k, p < n := fun p hp => h p (List.mem_of_mem_drop hp)
theorem rk_tk_loop {N : Nt} (wf : WfN N) {s d : Nat} (hs : s < 2) {l : List Nat} (hl : l.length ≤ 40) (hp : ∀ p ∈ l, p < n_n N) {σ : Sto} (h : NetAt σ 1 N) (hr : RkC σ l d) : ∀ (k fu : Nat), k ≤ l.length → k < fu → L_Ranking_greedyRing_10 fu 1 (nI s) (lN (tkL N s (l.drop k))) (nI k - 1) σ = some (lN (tkL N s l), σ) := by
  intro k
  have hn := wf.1
  induction k with
  | zero =>
    intro fu hk hf
    obtain ⟨fu, rfl⟩ : ∃ f, fu = f + 1 := ⟨fu - 1, by omega⟩
    show B_Ranking_greedyRing_10 (L_Ranking_greedyRing_10 fu) _ _ _ _ _ = _
    unfold B_Ranking_greedyRing_10
    rw [if_pos m1_neg]; rfl
  | succ k ih =>
    intro fu hk hf
    obtain ⟨fu, rfl⟩ : ∃ f, fu = f + 1 := ⟨fu - 1, by omega⟩
    have e := ih fu (by omega) (by omega)
    have hpn : l.getD k 0 < n_n N := getD_lt hp (by omega)
    have ht : tkL N s (l.drop (k + 1)) < 2 ^ n_n N := tkL_lt _ (drop_lt hp)
    have ht64 := lt64 wf ht
    rw [drop_getD (show k < l.length by omega)] at e
    show B_Ranking_greedyRing_10 (L_Ranking_greedyRing_10 fu) _ _ _ _ _ = _
    unfold B_Ranking_greedyRing_10
    rw [show nI (k + 1) - (1 : Int32) = nI k from nI_pred k, if_neg (nI_pos (by omega))]
    simp only [inb_ok (show k < 40 by omega) (show 40 < 2 ^ 31 by decide), if_true, nI_clamp (show k < 2 ^ 31 by omega), hr.2.2 k (by omega), nt_fitting h wf hs hpn ht64, Option.bind_some, lN_inj64 (fit_lt ht64) ht64, lt1_eq, lsh_1 (show l.getD k 0 < 64 by omega), fb_orL, nI_m1]
    rw [tkL_s] at e
    split
    · rename_i hq
      rw [if_pos hq] at e; exact e
    · rename_i hq
      rw [if_neg hq] at e; exact e
theorem rk_tk {N : Nt} (wf : WfN N) {s w d : Nat} (hs : s < 2) (hw : w < 2 ^ n_n N) {σ : Sto} (h : NetAt σ 1 N) (hr : RkC σ (ordL N s 40 w) d) : f_Ranking_greedyRing 1 (nI s) σ = some (lN (tkL N s (ordL N s 40 w)), σ) := by
  have hl := ordL_len N s 40 w
  have := rk_tk_loop wf hs hl (ord_lt hw) h hr (ordL N s 40 w).length LF (Nat.le_refl _) (by rw [LF_big]; omega)
  rw [List.drop_length] at this
  unfold f_Ranking_greedyRing B_Ranking_greedyRing_0
  rw [lt1_eq, hr.1]
  exact this
theorem mo_tk_loop {N : Nt} (wf : WfN N) {s d : Nat} (hs : s < 2) {l : List Nat} (hl : l.length ≤ 40) (hp : ∀ p ∈ l, p < n_n N) {σ : Sto} (h : ModAt σ N) (hr : RkM σ l d) : ∀ (k fu : Nat), k ≤ l.length → k < fu → L_Mo_takenOf_17 fu (nI s) (lN (tkL N s (l.drop k))) (nI k - 1) σ = some (lN (tkL N s l), σ) := by
  intro k
  have hn := wf.1
  induction k with
  | zero =>
    intro fu hk hf
    obtain ⟨fu, rfl⟩ : ∃ f, fu = f + 1 := ⟨fu - 1, by omega⟩
    show B_Mo_takenOf_17 (L_Mo_takenOf_17 fu) _ _ _ _ = _
    unfold B_Mo_takenOf_17
    rw [if_pos m1_neg]; rfl
  | succ k ih =>
    intro fu hk hf
    obtain ⟨fu, rfl⟩ : ∃ f, fu = f + 1 := ⟨fu - 1, by omega⟩
    have e := ih fu (by omega) (by omega)
    have hpn : l.getD k 0 < n_n N := getD_lt hp (by omega)
    have ht : tkL N s (l.drop (k + 1)) < 2 ^ n_n N := tkL_lt _ (drop_lt hp)
    have ht64 := lt64 wf ht
    rw [drop_getD (show k < l.length by omega)] at e
    show B_Mo_takenOf_17 (L_Mo_takenOf_17 fu) _ _ _ _ = _
    unfold B_Mo_takenOf_17
    rw [show nI (k + 1) - (1 : Int32) = nI k from nI_pred k, if_neg (nI_pos (by omega))]
    simp only [inb_ok (show k < 40 by omega) (show 40 < 2 ^ 31 by decide), if_true, nI_clamp (show k < 2 ^ 31 by omega), hr.2.2 k (by omega), mo_fitsAll h wf hs hpn ht64, Option.bind_some, bit_eq (show l.getD k 0 < 64 by omega), fb_orL, nI_m1, b2i_eq0]
    rw [show lN (tkL N s (l.drop (k + 1))) ||| (0 : Int64) = lN (tkL N s (l.drop (k + 1))) by rw [show (0 : Int64) = lN 0 from rfl, fb_orL, Nat.or_zero]]
    rw [tkL_s] at e
    by_cases hq : fit N s (l.getD k 0) (tkL N s (l.drop (k + 1))) = tkL N s (l.drop (k + 1))
    · rw [if_neg (by rw [decide_eq_true hq]; decide)]
      rw [if_pos hq] at e; exact e
    · rw [if_pos (by rw [decide_eq_false hq])]
      rw [if_neg hq] at e; exact e
/-- what is taken of a set -/
def tkN (N : Nt) (s w : Nat) : Nat := tkL N s (ordL N s 40 w)
theorem tkN_lt {N : Nt} {s w : Nat} (hw : w < 2 ^ n_n N) : tkN N s w < 2 ^ n_n N := tkL_lt _ (ord_lt hw)
theorem mo_takenOf {σ : Sto} {N : Nt} (h : ModAt σ N) (wf : WfN N) {s w : Nat} (hs : s < 2) (hw : w < 2 ^ n_n N) : ∃ σ', f_Mo_takenOf (nI s) (lN w) σ = some (lN (tkN N s w), σ') ∧ Scr kL σ σ' := by
  obtain ⟨σ', e, hr, r4⟩ := mo_lines h wf hs hw
  have hl := ordL_len N s 40 w
  have := mo_tk_loop wf hs hl (ord_lt hw) (h.kL r4) hr (ordL N s 40 w).length LF (Nat.le_refl _) (by rw [LF_big]; omega)
  rw [List.drop_length] at this
  refine ⟨σ', ?_, r4⟩
  unfold f_Mo_takenOf B_Mo_takenOf_0
  rw [e, Option.bind_some, lt1_eq, hr.1]
  exact this
theorem op_taken (a0 : Int32) (b1 : Int64) : Op (f_FR_taken a0 b1) (f_Mo_taken a0 b1) := by
  obtain ⟨u, hu, rfl⟩ := wb_of b1
  cases h1 : oneB a0
  · refine Op.ask (fun _ => -2) (fun σ A wf h => ⟨σ, ?_, Scr.rf⟩) (fun σ A wf h => ⟨σ, ?_, Scr.rf⟩)
    · unfold f_FR_taken B_FR_taken_0
      simp [fr_isSideAndSet h.net wf.1 a0 hu, h1, ite_bf]
    · unfold f_Mo_taken B_Mo_taken_0
      simp [mo_isOne, h1, ite_bf]
  obtain ⟨s, hs, rfl⟩ := oneB_of h1
  refine Op.ask (fun A => if u < 2 ^ n_n (s_N A) then lN (tkN (s_N A) s u) else -2) (fun σ A wf h => ?_) (fun σ A wf h => ?_)
  · unfold f_FR_taken B_FR_taken_0
    simp only [fr_isSideAndSet h.net wf.1 (nI s) hu, h1, Bool.true_and, Option.bind_some]
    by_cases h3 : u < 2 ^ n_n (s_N A)
    · obtain ⟨σ', e, hr, r4⟩ := rk_rank h.net wf.1 hs h3
      refine ⟨σ', ?_, r4.kRC⟩
      simp only [decide_eq_true h3, ite_bt, if_pos h3]
      unfold f_Judge_ranked B_Judge_ranked_0
      rw [e, Option.bind_some, Option.bind_some]
      simp only []
      rw [rk_tk wf.1 hs h3 (h.net.kR (by omega) r4) hr, Option.bind_some]; rfl
    · exact ⟨σ, by simp [h3, ite_bf], Scr.rf⟩
  · unfold f_Mo_taken B_Mo_taken_0
    simp only [mo_isOne, h1, mo_isSet h.net wf.1 hu, Option.bind_some, ite_bt]
    by_cases h3 : u < 2 ^ n_n (s_N A)
    · obtain ⟨σ', e, r4⟩ := mo_takenOf h.net wf.1 hs h3
      refine ⟨σ', ?_, r4.kLM⟩
      simp only [decide_eq_true h3, ite_bt, if_pos h3]
      rw [e, Option.bind_some]
    · exact ⟨σ, by simp [h3, ite_bf], Scr.rf⟩
