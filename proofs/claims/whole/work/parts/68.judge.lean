/-! rules: cores, colours, those that are left -/
theorem pc_mono {a b : Nat} (h : ∀ i, a.testBit i = true → b.testBit i = true) : pc a ≤ pc b := fb_ct_sub (fun i _ hi => h i hi)
theorem ex_bit {a : Nat} (h : a ≠ 0) : ∃ i, a.testBit i = true := by
  apply Classical.byContradiction
  intro q
  apply h
  apply bx
  intro i
  rw [Nat.zero_testBit]
  cases hb : a.testBit i with
  | false => rfl
  | true => exact absurd ⟨i, hb⟩ q
theorem bit_in {a n i : Nat} (h : a < 2 ^ n) (hb : a.testBit i = true) : i < n := by
  rcases Nat.lt_or_ge i n with q | q
  · exact q
  · rw [tb_out h q] at hb; cases hb
theorem pc_nd_lt {w b : Nat} (hw : w < 2 ^ 64) (hb : b ≠ 0) (hs : ∀ i, b.testBit i = true → w.testBit i = true) : pc (nd w b) < pc w := by
  obtain ⟨i, hi⟩ := ex_bit hb
  have h1 := pc_nd (w := w) (b := i) (bit_in hw (hs i hi)) (hs i hi)
  have h2 : pc (nd w b) ≤ pc (nd w (2 ^ i)) := pc_mono (fun j hj => by
    rw [nd_bit, Bool.and_eq_true] at hj
    rw [nd1_bit, Bool.and_eq_true]
    refine ⟨hj.1, ?_⟩
    by_cases e : j = i
    · subst e; rw [hi] at hj; exact absurd hj.2 (by decide)
    · simp [e])
  omega
theorem mea_or {N : Nt} (wf : WfN N) {m x p : Nat} (hp : p < n_n N) (hb : x.testBit p = false) : mea N m (x ||| 2 ^ p) = mea N m x + mea1 N m p := by
  have hn := wf.1
  unfold mea mea1
  by_cases hm : m = 0
  · rw [if_pos hm, if_pos hm, if_pos hm, pc_or (by omega) hb]
  · rw [if_neg hm, if_neg hm, if_neg hm]
    have u := fb_sm_upd (fun q => if x.testBit q then wt N q else 0) (wt N p) (i := p) (n := n_n N) hp
    rw [hb, if_neg (by decide), Nat.add_zero] at u
    rw [← u]
    refine fb_sm_cong (fun k _ => ?_)
    rw [or1_bit]
    by_cases e : k = p
    · subst e; simp
    · simp [e]
theorem mea_le {N : Nt} (wf : WfN N) (m w : Nat) : mea N m w ≤ 12000 := by
  have hn := wf.1
  unfold mea
  split
  · have := pc_le w; omega
  · have := fb_sm_bound (f := fun p => if w.testBit p then wt N p else 0) (c := 300) (n := n_n N) (fun k hk => by
      show (if w.testBit k then wt N k else 0) ≤ 300
      have := wt_lt wf hk
      split <;> omega)
    omega
theorem fit_self {N : Nt} (wf : WfN N) {s p w : Nat} (hp : p < n_n N) : (fit N s p w).testBit p = false := by
  rw [fit_rl, rl_irr wf hp, Bool.and_false]
theorem pow_lt {p n : Nat} (h : p < n) : 2 ^ p < 2 ^ n := Nat.pow_lt_pow_right (by decide) h
/-- those behind; what a point comes to with them -/
def bhL : List Nat → Nat
  | [] => 0
  | p :: l => bhL l ||| 2 ^ p
def coL (N : Nt) (s m : Nat) : List Nat → Nat
  | [] => 0
  | p :: l => max (coL N s m l) (mea N m (fit N s p (bhL l) ||| 2 ^ p))
theorem bhL_lt {n : Nat} : ∀ l : List Nat, (∀ p ∈ l, p < n) → bhL l < 2 ^ n
  | [], _ => Nat.two_pow_pos _
  | p :: l, h => or_lt (bhL_lt l (fun q hq => h q (List.mem_cons_of_mem _ hq))) (pow_lt (h p (List.mem_cons_self)))
theorem coL_le {N : Nt} (wf : WfN N) (s m : Nat) : ∀ l : List Nat, coL N s m l ≤ 12000
  | [] => Nat.zero_le _
  | p :: l => Nat.max_le.mpr ⟨coL_le wf s m l, mea_le wf m _⟩
theorem bhL_ord {N : Nt} {s : Nat} (hn : n_n N ≤ 40) : ∀ k w, pc w ≤ k → w < 2 ^ n_n N → bhL (ordL N s k w) = w
  | 0, w, hk, hw => by
    rw [pc_z (Nat.lt_of_lt_of_le hw (two_pow_le (by omega))) (by omega)]; rfl
  | k + 1, w, hk, hw => by
    by_cases h : w = 0
    · rw [h, ordL_0]; rfl
    · obtain ⟨b1, b2, _⟩ := brP_ok (s := s) hw h
      have hpc := pc_nd (w := w) (b := brP N s w) (by omega) b2
      rw [ordL_s h]
      show bhL (ordL N s k (nd w (2 ^ brP N s w))) ||| 2 ^ brP N s w = w
      rw [bhL_ord hn k _ (by omega) (nd_lt hw)]
      apply bx
      intro i
      rw [or1_bit, nd1_bit]
      by_cases e : i = brP N s w
      · rw [e, b2]; simp
      · simp [e]
theorem coL_dep {N : Nt} (wf : WfN N) {s : Nat} : ∀ k w, pc w ≤ k → w < 2 ^ n_n N → w ≠ 0 → coL N s 0 (ordL N s k w) = depL N s k w + 1
  | 0, w, hk, hw, h0 => absurd (pc_z (lt64 wf hw) (by omega)) h0
  | k + 1, w, hk, hw, h0 => by
    have hn := wf.1
    obtain ⟨b1, b2, b3, b4⟩ := brP_ok (s := s) hw h0
    have hpc := pc_nd (w := w) (b := brP N s w) (by omega) b2
    rw [ordL_s h0, depL_s h0]
    show max (coL N s 0 (ordL N s k (nd w (2 ^ brP N s w)))) (mea N 0 (fit N s (brP N s w) (bhL (ordL N s k (nd w (2 ^ brP N s w)))) ||| 2 ^ brP N s w)) = _
    rw [bhL_ord hn k _ (by omega) (nd_lt hw)]
    have e1 : mea N 0 (fit N s (brP N s w) (nd w (2 ^ brP N s w)) ||| 2 ^ brP N s w) = brQ N s w + 1 := by
      rw [mea_or wf b1 (fit_self wf b1), fit_nd, nd_no (fit_self wf b1), b3]; rfl
    rw [e1]
    by_cases h1 : nd w (2 ^ brP N s w) = 0
    · rw [h1, ordL_0, depL_0]
      show max 0 _ = _
      omega
    · rw [coL_dep wf k _ (by omega) (nd_lt hw) h1]
      omega
theorem ju_core_loop {N : Nt} (wf : WfN N) {s m d : Nat} (hs : s < 2) (hm : m < 2) {l : List Nat} (hl : l.length ≤ 40) (hp : ∀ p ∈ l, p < n_n N) {σ : Sto} (h : NetAt σ 1 N) (hr : RkC σ l d) : ∀ (k fu : Nat), k ≤ l.length → k < fu → L_Judge_byCore_30 fu (nI s) (nI m) (nI (coL N s m (l.drop k))) (lN (bhL (l.drop k))) (nI k - 1) σ = some (nI (coL N s m l), σ) := by
  intro k
  have hn := wf.1
  induction k with
  | zero =>
    intro fu hk hf
    obtain ⟨fu, rfl⟩ : ∃ f, fu = f + 1 := ⟨fu - 1, by omega⟩
    show B_Judge_byCore_30 (L_Judge_byCore_30 fu) _ _ _ _ _ _ = _
    unfold B_Judge_byCore_30
    rw [if_pos m1_neg]; rfl
  | succ k ih =>
    intro fu hk hf
    obtain ⟨fu, rfl⟩ : ∃ f, fu = f + 1 := ⟨fu - 1, by omega⟩
    have e := ih fu (by omega) (by omega)
    have hpn : l.getD k 0 < n_n N := getD_lt hp (by omega)
    have ht : bhL (l.drop (k + 1)) < 2 ^ n_n N := bhL_lt _ (drop_lt hp)
    have ht64 := lt64 wf ht
    have hc := coL_le wf s m (l.drop (k + 1))
    have hc2 := mea_le wf m (fit N s (l.getD k 0) (bhL (l.drop (k + 1))) ||| 2 ^ l.getD k 0)
    rw [drop_getD (show k < l.length by omega)] at e
    show B_Judge_byCore_30 (L_Judge_byCore_30 fu) _ _ _ _ _ _ = _
    unfold B_Judge_byCore_30
    rw [show nI (k + 1) - (1 : Int32) = nI k from nI_pred k, if_neg (nI_pos (by omega))]
    simp only [inb_ok (show k < 40 by omega) (show 40 < 2 ^ 31 by decide), if_true, nI_clamp (show k < 2 ^ 31 by omega), hr.2.2 k (by omega), nt_fitting h wf hs hpn ht64, Option.bind_some, lt1_eq, lsh_1 (show l.getD k 0 < 64 by omega), fb_orL, nI_m1]
    rw [nt_worth h wf hm (or_lt (fit_lt ht64) (pow_lt (show l.getD k 0 < 64 by omega))), Option.bind_some, mxI_N (by omega) (by omega)]
    exact e
/-- the core's rule -/
def coN (N : Nt) (s m w : Nat) : Nat := coL N s m (ordL N s 40 w)
theorem ju_core {σ : Sto} {N : Nt} (h : NetAt σ 1 N) (wf : WfN N) {s m w : Nat} (hs : s < 2) (hm : m < 2) (hw : w < 2 ^ n_n N) : ∃ σ', f_Judge_byCore (nI s) (nI m) (lN w) σ = some (nI (coN N s m w), σ') ∧ Scr kR σ σ' := by
  obtain ⟨σ', e, hr, r4⟩ := rk_rank h wf hs hw
  have hl := ordL_len N s 40 w
  have := ju_core_loop wf hs hm hl (ord_lt hw) (h.kR (by omega) r4) hr (ordL N s 40 w).length LF (Nat.le_refl _) (by rw [LF_big]; omega)
  rw [List.drop_length] at this
  refine ⟨σ', ?_, r4⟩
  unfold f_Judge_byCore B_Judge_byCore_0
  rw [e, Option.bind_some, lt1_eq, hr.1]
  exact this
theorem mo_core_loop {N : Nt} (wf : WfN N) {s d : Nat} (hs : s < 2) {l : List Nat} (hl : l.length ≤ 40) (hp : ∀ p ∈ l, p < n_n N) {σ : Sto} (h : ModAt σ N) (hr : RkM σ l d) : ∀ (k fu : Nat), k ≤ l.length → k < fu → L_Mo_coreOf_41 fu (nI s) (nI (coL N s 1 (l.drop k))) (lN (bhL (l.drop k))) (nI k - 1) σ = some (nI (coL N s 1 l), σ) := by
  intro k
  have hn := wf.1
  induction k with
  | zero =>
    intro fu hk hf
    obtain ⟨fu, rfl⟩ : ∃ f, fu = f + 1 := ⟨fu - 1, by omega⟩
    show B_Mo_coreOf_41 (L_Mo_coreOf_41 fu) _ _ _ _ _ = _
    unfold B_Mo_coreOf_41
    rw [if_pos m1_neg]; rfl
  | succ k ih =>
    intro fu hk hf
    obtain ⟨fu, rfl⟩ : ∃ f, fu = f + 1 := ⟨fu - 1, by omega⟩
    have e := ih fu (by omega) (by omega)
    have hpn : l.getD k 0 < n_n N := getD_lt hp (by omega)
    have ht : bhL (l.drop (k + 1)) < 2 ^ n_n N := bhL_lt _ (drop_lt hp)
    have ht64 := lt64 wf ht
    have hc := coL_le wf s 1 (l.drop (k + 1))
    have hc2 := mea_le wf 1 (fit N s (l.getD k 0) (bhL (l.drop (k + 1))) ||| 2 ^ l.getD k 0)
    have em := mea_or (N := N) wf (m := 1) hpn (fit_self (s := s) (w := bhL (l.drop (k + 1))) wf hpn)
    have em1 : mea1 N 1 (l.getD k 0) = wt N (l.getD k 0) := rfl
    rw [drop_getD (show k < l.length by omega)] at e
    show B_Mo_coreOf_41 (L_Mo_coreOf_41 fu) _ _ _ _ _ = _
    unfold B_Mo_coreOf_41
    rw [show nI (k + 1) - (1 : Int32) = nI k from nI_pred k, if_neg (nI_pos (by omega))]
    simp only [inb_ok (show k < 40 by omega) (show 40 < 2 ^ 31 by decide), if_true, nI_clamp (show k < 2 ^ 31 by omega), hr.2.2 k (by omega), mo_weight h wf hpn, mo_fits h wf hs hpn ht64, Option.bind_some, bit_eq (show l.getD k 0 < 64 by omega), fb_orL, nI_m1]
    rw [show (1 : Int32) = nI 1 from rfl, mo_measureOf h wf (by omega) (fit_lt ht), Option.bind_some]
    simp only []
    rw [nI_add, show wt N (l.getD k 0) + mea N 1 (fit N s (l.getD k 0) (bhL (l.drop (k + 1)))) = mea N 1 (fit N s (l.getD k 0) (bhL (l.drop (k + 1))) ||| 2 ^ l.getD k 0) by omega, mo_most (by omega) (by omega), Option.bind_some]
    simp only [hr.2.2 k (show k < l.length by omega), bit_eq (show l.getD k 0 < 64 by omega), Option.bind_some, fb_orL]
    exact e
theorem mo_coreOf {σ : Sto} {N : Nt} (h : ModAt σ N) (wf : WfN N) {s m w : Nat} (hs : s < 2) (hm : m < 2) (hw : w < 2 ^ n_n N) : ∃ σ', f_Mo_coreOf (nI s) (nI m) (lN w) σ = some (nI (coN N s m w), σ') ∧ Scr kL σ σ' := by
  obtain ⟨σ', e, hr, r4⟩ := mo_lines h wf hs hw
  have hl := ordL_len N s 40 w
  refine ⟨σ', ?_, r4⟩
  unfold f_Mo_coreOf B_Mo_coreOf_0
  rw [e, Option.bind_some, lt1_eq]
  simp only [nI_s0 hm, lN_eq0 (lt64 wf hw)]
  by_cases h0 : m = 0
  · rw [if_pos h0]
    subst h0
    by_cases w0 : w = 0
    · rw [if_pos w0]
      unfold coN
      rw [w0, ordL_0]; rfl
    · rw [if_neg w0, hr.2.1, nI_1]
      unfold coN
      rw [coL_dep wf 40 w (pcw40 wf hw) hw w0]
  · rw [if_neg h0]
    have hm1 : m = 1 := by omega
    subst hm1
    have := mo_core_loop wf hs hl (ord_lt hw) (h.kL r4) hr (ordL N s 40 w).length LF (Nat.le_refl _) (by rw [LF_big]; omega)
    rw [List.drop_length] at this
    rw [hr.1]
    exact this
/-! colours -/
def clG (N : Nt) (m : Nat) (G : Gs) : Nat := fb_sm (fun g => peakN N m (G.2 g) (n_n N)) G.1
theorem ju_cl_loop {N : Nt} (wf : WfN N) {m : Nat} (hm : m < 2) {G : Gs} (hG : ∀ i, i < G.1 → G.2 i < 2 ^ n_n N) (h40 : G.1 ≤ 40) {σ : Sto} (h : NetAt σ 1 N) (hg : GrC σ G) : ∀ (k fu g : Nat), g + k = G.1 → k < fu → L_Judge_byColours_31 fu (nI m) (nI (fb_sm (fun g => peakN N m (G.2 g) (n_n N)) g)) (nI g) σ = some (nI (clG N m G), σ) := by
  intro k
  induction k with
  | zero =>
    intro fu g hgk hf
    obtain ⟨fu, rfl⟩ : ∃ f, fu = f + 1 := ⟨fu - 1, by omega⟩
    show B_Judge_byColours_31 (L_Judge_byColours_31 fu) _ _ _ _ = _
    unfold B_Judge_byColours_31
    rw [hg.1, if_pos (nI_le (by omega) (by omega)), show g = G.1 by omega]; rfl
  | succ k ih =>
    intro fu g hgk hf
    obtain ⟨fu, rfl⟩ : ∃ f, fu = f + 1 := ⟨fu - 1, by omega⟩
    have e := ih fu (g + 1) (by omega) (by omega)
    rw [fb_sm_succ] at e
    show B_Judge_byColours_31 (L_Judge_byColours_31 fu) _ _ _ _ = _
    unfold B_Judge_byColours_31
    rw [hg.1, if_neg (nI_ge (by omega) (by omega))]
    simp only [inb_ok (show g < 40 by omega) (show 40 < 2 ^ 31 by decide), if_true, nI_clamp (show g < 2 ^ 31 by omega), hg.2 g (by omega), nt_peak h wf hm (lt64 wf (hG g (by omega))), Option.bind_some, nI_1, nI_add]
    exact e
/-- the colours' rule -/
def clN (N : Nt) (s m w : Nat) : Nat := clG N m (grN N s w)
theorem clN_le {N : Nt} (wf : WfN N) (s m w : Nat) : clN N s m w ≤ 12000 := by
  have h1 := grN_len N s w
  unfold clN clG
  have := fb_sm_bound (f := fun g => peakN N m ((grN N s w).2 g) (n_n N)) (c := 300) (n := (grN N s w).1) (fun k _ => by
    have := peakN_lt wf (m := m) (w := (grN N s w).2 k) (n_n N) (Nat.le_refl _)
    show peakN N m ((grN N s w).2 k) (n_n N) ≤ 300
    omega)
  omega
theorem ju_colours {σ : Sto} {N : Nt} (h : NetAt σ 1 N) (wf : WfN N) {s m w : Nat} (hs : s < 2) (hm : m < 2) (hw : w < 2 ^ n_n N) : ∃ σ', f_Judge_byColours (nI s) (nI m) (lN w) σ = some (nI (clN N s m w), σ') ∧ Scr kR σ σ' := by
  obtain ⟨σ1, σ', e1, e2, hg, r4⟩ := rk_grouped h wf hs hw
  have hl := grN_len N s w
  have := ju_cl_loop wf hm (grN_lt hw) hl (h.kR (by omega) r4) hg (grN N s w).1 LF 0 (by omega) (by rw [LF_big]; omega)
  refine ⟨σ', ?_, r4⟩
  unfold f_Judge_byColours B_Judge_byColours_0
  rw [e1, Option.bind_some]
  simp only []
  rw [e2, Option.bind_some]
  exact this
theorem mo_cl_in {N : Nt} (wf : WfN N) {m g W : Nat} {acc : Int32} (hm : m < 2) (hW : W < 2 ^ 64) (hg : g < 40) {σ : Sto} (h : ModAt σ N) (hG : gL σ 56 g = lN W) {k12 : Int32 → Int32 → Int32 → Sto → Option (Int32 × Sto)} : ∀ (k fu p : Nat), p + k = n_n N → k < fu → L_Mo_coloursOf_27 k12 fu (nI m) acc (nI g) (nI (peakN N m W p)) (nI p) σ = k12 (nI m) (acc + nI (peakN N m W (n_n N))) (nI g + 1) σ := by
  intro k
  have hn := wf.1
  induction k with
  | zero =>
    intro fu p hp hf
    obtain ⟨fu, rfl⟩ : ∃ f, fu = f + 1 := ⟨fu - 1, by omega⟩
    show B_Mo_coloursOf_27 k12 (L_Mo_coloursOf_27 k12 fu) _ _ _ _ _ _ = _
    unfold B_Mo_coloursOf_27
    rw [h.1, if_pos (nI_le (by omega) (by omega)), show p = n_n N by omega]
  | succ k ih =>
    intro fu p hp hf
    obtain ⟨fu, rfl⟩ : ∃ f, fu = f + 1 := ⟨fu - 1, by omega⟩
    have e := ih fu (p + 1) (by omega) (by omega)
    have h1 := peakN_lt wf (m := m) (w := W) p (by omega)
    have h2 := mea1_lt wf (m := m) (show p < n_n N by omega)
    rw [peakN_s] at e
    show B_Mo_coloursOf_27 k12 (L_Mo_coloursOf_27 k12 fu) _ _ _ _ _ _ = _
    unfold B_Mo_coloursOf_27
    rw [h.1, if_neg (nI_ge (by omega) (by omega))]
    simp only [inb_ok hg (show 40 < 2 ^ 31 by decide), if_true, nI_clamp (show g < 2 ^ 31 by omega), hG, has_eq hW (show p < 64 by omega), Option.bind_some, mo_worth h wf hm (show p < n_n N by omega), mo_most (show peakN N m W p < 2 ^ 31 by omega) (show mea1 N m p < 2 ^ 31 by omega), b2i_eq0]
    rw [show nI p + (1 : Int32) = nI (p + 1) from nI_1 p]
    cases hb : W.testBit p with
    | false =>
      rw [if_pos rfl]
      rw [hb] at e
      exact e
    | true =>
      rw [if_neg (by decide)]
      rw [hb] at e
      exact e
theorem mo_cl_loop {N : Nt} (wf : WfN N) {m : Nat} (hm : m < 2) {G : Gs} (hG : ∀ i, i < G.1 → G.2 i < 2 ^ n_n N) (h40 : G.1 ≤ 40) {σ : Sto} (h : ModAt σ N) (hg : GrM σ G) : ∀ (k fu g : Nat), g + k = G.1 → k < fu → L_Mo_coloursOf_12 fu (nI m) (nI (fb_sm (fun g => peakN N m (G.2 g) (n_n N)) g)) (nI g) σ = some (nI (clG N m G), σ) := by
  intro k
  have hn := wf.1
  induction k with
  | zero =>
    intro fu g hgk hf
    obtain ⟨fu, rfl⟩ : ∃ f, fu = f + 1 := ⟨fu - 1, by omega⟩
    show B_Mo_coloursOf_12 (L_Mo_coloursOf_12 fu) _ _ _ _ = _
    unfold B_Mo_coloursOf_12
    rw [hg.1, if_pos (nI_le (by omega) (by omega)), show g = G.1 by omega]; rfl
  | succ k ih =>
    intro fu g hgk hf
    obtain ⟨fu, rfl⟩ : ∃ f, fu = f + 1 := ⟨fu - 1, by omega⟩
    have e := ih fu (g + 1) (by omega) (by omega)
    rw [fb_sm_succ] at e
    have e2 := mo_cl_in wf (acc := nI (fb_sm (fun g => peakN N m (G.2 g) (n_n N)) g)) hm (lt64 wf (hG g (by omega))) (show g < 40 by omega) h (hg.2 g (by omega)) (k12 := L_Mo_coloursOf_12 fu) (n_n N) LF 0 (by omega) (by rw [LF_big]; omega)
    show B_Mo_coloursOf_12 (L_Mo_coloursOf_12 fu) _ _ _ _ = _
    unfold B_Mo_coloursOf_12
    rw [hg.1, if_neg (nI_ge (by omega) (by omega))]
    refine Eq.trans e2 ?_
    rw [nI_add, nI_1]
    exact e
theorem mo_coloursOf {σ : Sto} {N : Nt} (h : ModAt σ N) (wf : WfN N) {s m w : Nat} (hs : s < 2) (hm : m < 2) (hw : w < 2 ^ n_n N) : ∃ σ', f_Mo_coloursOf (nI s) (nI m) (lN w) σ = some (nI (clN N s m w), σ') ∧ Scr kL σ σ' := by
  obtain ⟨σ', e, hg, r4⟩ := mo_parts h wf hs hw
  have hl := grN_len N s w
  have := mo_cl_loop wf hm (grN_lt hw) hl (h.kL r4) hg (grN N s w).1 LF 0 (by omega) (by rw [LF_big]; omega)
  refine ⟨σ', ?_, r4⟩
  unfold f_Mo_coloursOf B_Mo_coloursOf_0
  rw [e, Option.bind_some]
  exact this
/-! those that are left -/
def brN (N : Nt) (s m fl w : Nat) : Nat → Nat
  | 0 => 0
  | k + 1 => if (w.testBit k && decide (mea N m (fit N s k w ||| 2 ^ k) ≤ fl)) = true then brN N s m fl w k ||| 2 ^ k else brN N s m fl w k
theorem brN_s (N : Nt) (s m fl w k : Nat) : brN N s m fl w (k + 1) = if (w.testBit k && decide (mea N m (fit N s k w ||| 2 ^ k) ≤ fl)) = true then brN N s m fl w k ||| 2 ^ k else brN N s m fl w k := rfl
theorem brN_bit (N : Nt) (s m fl w i : Nat) : ∀ k, (brN N s m fl w k).testBit i = (decide (i < k) && (w.testBit i && decide (mea N m (fit N s i w ||| 2 ^ i) ≤ fl)))
  | 0 => by simp [brN]
  | k + 1 => by
    have ih := brN_bit N s m fl w i k
    rw [brN_s]
    by_cases e : i = k
    · subst e
      split
      · rename_i h
        rw [or1_bit, h]; simp
      · rename_i h
        rw [ih, Bool.eq_false_iff.mpr h]; simp
    · have e2 : decide (i < k + 1) = decide (i < k) := by
        congr 1
        apply propext
        constructor <;> intro q <;> omega
      rw [e2, ← ih]
      split
      · rw [or1_bit]; simp [e]
      · rfl
theorem brN_lt {N : Nt} {s m fl w n : Nat} (hw : w < 2 ^ n) (k : Nat) : brN N s m fl w k < 2 ^ n := bit_lt (fun i hi => by rw [brN_bit, tb_out hw hi]; simp)
theorem brN_sub {N : Nt} {s m fl w k i : Nat} (h : (brN N s m fl w k).testBit i = true) : w.testBit i = true := by
  rw [brN_bit] at h
  simp only [Bool.and_eq_true] at h
  exact h.2.1
def wbN (N : Nt) (s m fl : Nat) : Nat → Nat → Nat
  | 0, w => w
  | k + 1, w => if brN N s m fl w (n_n N) = 0 then w else wbN N s m fl k (nd w (brN N s m fl w (n_n N)))
theorem wbN_s (N : Nt) (s m fl k w : Nat) : wbN N s m fl (k + 1) w = if brN N s m fl w (n_n N) = 0 then w else wbN N s m fl k (nd w (brN N s m fl w (n_n N))) := rfl
theorem brN_0 (N : Nt) (s m fl k : Nat) : brN N s m fl 0 k = 0 := bx (fun i => by rw [brN_bit, Nat.zero_testBit]; simp)
theorem wbN_lt {N : Nt} {s m fl n : Nat} : ∀ k w, w < 2 ^ n → wbN N s m fl k w < 2 ^ n
  | 0, _, h => h
  | k + 1, w, h => by
    rw [wbN_s]
    split
    · exact h
    · exact wbN_lt k _ (nd_lt h)
theorem ju_wb_in {N : Nt} (wf : WfN N) {s m fl w : Nat} {v8 : Int32} (hs : s < 2) (hm : m < 2) (hfl : fl < 2 ^ 31) (hw : w < 2 ^ n_n N) {σ : Sto} (h : NetAt σ 1 N) {k6 : Int32 → Int32 → Int32 → Int64 → Int32 → Sto → Option (Int64 × Sto)} : ∀ (k fu p : Nat), p + k = n_n N → k < fu →
    L_Judge_withoutBare_26 k6 fu (nI s) (nI m) (nI fl) (lN w) v8 (lN (brN N s m fl w p)) (nI p) σ = if brN N s m fl w (n_n N) = 0 then some (lN w, σ) else k6 (nI s) (nI m) (nI fl) (lN (nd w (brN N s m fl w (n_n N)))) (v8 + 1) σ := by
  intro k
  have hn := wf.1
  have hw64 := lt64 wf hw
  induction k with
  | zero =>
    intro fu p hp hf
    obtain ⟨fu, rfl⟩ : ∃ f, fu = f + 1 := ⟨fu - 1, by omega⟩
    show B_Judge_withoutBare_26 k6 (L_Judge_withoutBare_26 k6 fu) _ _ _ _ _ _ _ _ = _
    unfold B_Judge_withoutBare_26
    rw [h.1, if_pos (nI_le (by omega) (by omega)), show p = n_n N by omega, lt1_eq, lN_nd hw64]
    simp only [lN_eq0 (brN_lt (N := N) (s := s) (m := m) (fl := fl) hw64 (n_n N))]
  | succ k ih =>
    intro fu p hp hf
    obtain ⟨fu, rfl⟩ : ∃ f, fu = f + 1 := ⟨fu - 1, by omega⟩
    have hpn : p < n_n N := by omega
    have e := ih fu (p + 1) (by omega) (by omega)
    rw [brN_s] at e
    have hme := mea_le wf m (fit N s p w ||| 2 ^ p)
    show B_Judge_withoutBare_26 k6 (L_Judge_withoutBare_26 k6 fu) _ _ _ _ _ _ _ _ = _
    unfold B_Judge_withoutBare_26
    rw [h.1, if_neg (nI_ge hpn (by omega)), nt_isOf hw64 (by omega), Option.bind_some]
    simp only [b2i_eq0, lt1_eq]
    rw [nt_fitting h wf hs hpn hw64, Option.bind_some, lsh_1 (by omega), fb_orL]
    simp only []
    rw [nt_worth h wf hm (or_lt (fit_lt hw64) (pow_lt (show p < 64 by omega))), Option.bind_some, fb_orL]
    simp only [nI_ltI hfl (show mea N m (fit N s p w ||| 2 ^ p) < 2 ^ 31 by omega)]
    rw [show nI p + (1 : Int32) = nI (p + 1) from nI_1 p]
    cases hb : w.testBit p with
    | false =>
      rw [if_pos rfl]
      rw [hb, Bool.false_and, if_neg (by decide)] at e
      exact e
    | true =>
      rw [if_neg (by decide)]
      rw [hb, Bool.true_and] at e
      by_cases hq : mea N m (fit N s p w ||| 2 ^ p) ≤ fl
      · rw [if_neg (by omega)]
        rw [if_pos (by simp [hq])] at e
        exact e
      · rw [if_pos (by omega)]
        rw [if_neg (by simp [hq])] at e
        exact e
theorem ju_wb_loop {N : Nt} (wf : WfN N) {s m fl : Nat} (hs : s < 2) (hm : m < 2) (hfl : fl < 2 ^ 31) {σ : Sto} (h : NetAt σ 1 N) : ∀ (k fu i w : Nat), pc w ≤ k → k < fu → i + pc w ≤ 40 → w < 2 ^ n_n N →
    L_Judge_withoutBare_6 fu (nI s) (nI m) (nI fl) (lN w) (nI i) σ = some (lN (wbN N s m fl k w), σ) := by
  intro k
  have hn := wf.1
  induction k with
  | zero =>
    intro fu i w hk hf hi hw
    obtain ⟨fu, rfl⟩ : ∃ f, fu = f + 1 := ⟨fu - 1, by omega⟩
    have w0 := pc_z (lt64 wf hw) (show pc w = 0 by omega)
    subst w0
    show B_Judge_withoutBare_6 (L_Judge_withoutBare_6 fu) _ _ _ _ _ _ = _
    unfold B_Judge_withoutBare_6
    rw [if_pos (show lN 0 = (0 : Int64) from rfl)]
    split <;> rfl
  | succ k ih =>
    intro fu i w hk hf hi hw
    obtain ⟨fu, rfl⟩ : ∃ f, fu = f + 1 := ⟨fu - 1, by omega⟩
    show B_Judge_withoutBare_6 (L_Judge_withoutBare_6 fu) _ _ _ _ _ _ = _
    unfold B_Judge_withoutBare_6
    rw [wbN_s]
    by_cases w0 : w = 0
    · subst w0
      rw [if_pos (show lN 0 = (0 : Int64) from rfl), if_pos (brN_0 _ _ _ _ _)]
      split <;> rfl
    · rw [show (40 : Int32) = nI 40 from rfl, if_neg (nI_nlt (by omega) (by omega)), if_neg (fun q => w0 ((lN_eq0 (lt64 wf hw)).1 q))]
      refine Eq.trans (ju_wb_in wf (v8 := nI i) hs hm hfl hw h (k6 := L_Judge_withoutBare_6 fu) (n_n N) LF 0 (by omega) (by rw [LF_big]; omega)) ?_
      by_cases hb : brN N s m fl w (n_n N) = 0
      · rw [if_pos hb, if_pos hb]
      · rw [if_neg hb, if_neg hb, nI_1]
        have hlt := pc_nd_lt (lt64 wf hw) hb (fun i hi => brN_sub hi)
        exact ih fu (i + 1) _ (by omega) (by omega) (by omega) (nd_lt hw)
theorem ju_without {σ : Sto} {N : Nt} (h : NetAt σ 1 N) (wf : WfN N) {s m fl w : Nat} (hs : s < 2) (hm : m < 2) (hfl : fl < 2 ^ 31) (hw : w < 2 ^ n_n N) : f_Judge_withoutBare (nI s) (nI m) (lN w) (nI fl) σ = some (lN (wbN N s m fl 40 w), σ) :=
  ju_wb_loop wf hs hm hfl h 40 LF 0 w (pcw40 wf hw) (by rw [LF_big]; omega) (by have := pcw40 wf hw; omega) hw
theorem or_z (x : Nat) : lN x ||| (0 : Int64) = lN x := by rw [show (0 : Int64) = lN 0 from rfl, fb_orL, Nat.or_zero]
theorem lf_107 {N : Nt} {s m fl w x p : Nat} (hw : w < 2 ^ 64) (hp : p < 64) {σ : Sto} (c : Bool) {k30 : Int32 → Int32 → Int32 → Int64 → Int64 → Int32 → Sto → Option (Int64 × Sto)} : B_Mo_leftOf_107 k30 (nI s) (nI m) (nI fl) (lN w) (lN x) (nI p) (b2i c) σ = k30 (nI s) (nI m) (nI fl) (lN w) (lN (if (w.testBit p && c) = true then x ||| 2 ^ p else x)) (nI (p + 1)) σ := by
  unfold B_Mo_leftOf_107
  rw [has_eq hw hp, Option.bind_some]
  simp only [b2i_eq0, or_z, bit_eq hp, Option.bind_some, fb_orL, nI_1]
  cases w.testBit p <;> cases c <;> rfl
theorem mo_lf_in {N : Nt} (wf : WfN N) {s m fl w : Nat} (hs : s < 2) (hm : m < 2) (hfl : fl < 2 ^ 31) (hw : w < 2 ^ n_n N) {σ : Sto} (h : ModAt σ N) {k19 : Int32 → Int32 → Int32 → Int64 → Int32 → Sto → Option (Int64 × Sto)} : ∀ (k fu p : Nat), p + k = n_n N → k < fu →
    L_Mo_leftOf_30 k19 fu (nI s) (nI m) (nI fl) (lN w) (lN (brN N s m fl w p)) (nI p) σ = k19 (nI s) (nI m) (nI fl) (lN (nd w (brN N s m fl w (n_n N)))) (if brN N s m fl w (n_n N) = 0 then 0 else 1) σ := by
  intro k
  have hn := wf.1
  have hw64 := lt64 wf hw
  induction k with
  | zero =>
    intro fu p hp hf
    obtain ⟨fu, rfl⟩ : ∃ f, fu = f + 1 := ⟨fu - 1, by omega⟩
    show B_Mo_leftOf_30 k19 (L_Mo_leftOf_30 k19 fu) _ _ _ _ _ _ _ = _
    unfold B_Mo_leftOf_30
    rw [h.1, if_pos (nI_le (by omega) (by omega)), show p = n_n N by omega, lt1_eq, lN_nd hw64]
    simp only [lN_eq0 (brN_lt (N := N) (s := s) (m := m) (fl := fl) hw64 (n_n N))]
    split <;> rfl
  | succ k ih =>
    intro fu p hp hf
    obtain ⟨fu, rfl⟩ : ∃ f, fu = f + 1 := ⟨fu - 1, by omega⟩
    have hpn : p < n_n N := by omega
    have e := ih fu (p + 1) (by omega) (by omega)
    rw [brN_s] at e
    have em := mea_or (N := N) wf (m := m) hpn (fit_self (s := s) (w := w) wf hpn)
    have hme := mea_le wf m (fit N s p w ||| 2 ^ p)
    have l107 := fun c => lf_107 (N := N) (s := s) (m := m) (fl := fl) (x := brN N s m fl w p) hw64 (show p < 64 by omega) (σ := σ) c (k30 := L_Mo_leftOf_30 k19 fu)
    have l0 := l107 false
    have l1 := l107 true
    rw [b2i_f] at l0
    rw [b2i_t] at l1
    have hwt := mo_weight h wf hpn
    show B_Mo_leftOf_30 k19 (L_Mo_leftOf_30 k19 fu) _ _ _ _ _ _ _ = _
    unfold B_Mo_leftOf_30
    rw [h.1, if_neg (nI_ge hpn (by omega)), has_eq hw64 (by omega), Option.bind_some]
    simp only [b2i_eq0, hwt, Option.bind_some, mo_fits h wf hs hpn hw64, mo_measureOf h wf hm (fit_lt hw), l0, l1]
    cases hb : w.testBit p with
    | false =>
      rw [if_pos rfl]
      rw [hb, Bool.false_and, if_neg (by decide)] at e
      simp only [Bool.false_and, if_neg (show ¬ (false = true) by decide)]
      split <;> split <;> exact e
    | true =>
      rw [if_neg (by decide)]
      rw [hb, Bool.true_and] at e
      simp only [Bool.true_and, if_neg (show ¬ (false = true) by decide), if_true]
      rcases (show m = 0 ∨ m = 1 by omega) with rfl | rfl
      · rw [if_pos (show nI 0 = (0 : Int32) from rfl)]
        have e1 : mea1 N 0 p = 1 := rfl
        simp only [nI_leI hfl (show mea N 0 (fit N s p w) < 2 ^ 31 by omega)]
        by_cases hq : mea N 0 (fit N s p w ||| 2 ^ p) ≤ fl
        · rw [if_neg (by omega)]
          rw [if_pos (by simp [hq])] at e
          exact e
        · rw [if_pos (by omega)]
          rw [if_neg (by simp [hq])] at e
          exact e
      · rw [if_neg (show ¬ (nI 1 = (0 : Int32)) by decide +kernel)]
        have e1 : mea1 N 1 p = wt N p := rfl
        rw [nI_add]
        simp only [nI_ltI hfl (show mea N 1 (fit N s p w) + wt N p < 2 ^ 31 by omega)]
        by_cases hq : mea N 1 (fit N s p w ||| 2 ^ p) ≤ fl
        · rw [if_neg (by omega)]
          rw [if_pos (by simp [hq])] at e
          exact e
        · rw [if_pos (by omega)]
          rw [if_neg (by simp [hq])] at e
          exact e
theorem nd_0 (w : Nat) : nd w 0 = w := by unfold nd; simp
theorem mo_lf_loop {N : Nt} (wf : WfN N) {s m fl : Nat} (hs : s < 2) (hm : m < 2) (hfl : fl < 2 ^ 31) {σ : Sto} (h : ModAt σ N) : ∀ (k fu w : Nat), pc w ≤ k → k + 1 < fu → w < 2 ^ n_n N →
    L_Mo_leftOf_19 fu (nI s) (nI m) (nI fl) (lN w) 1 σ = some (lN (wbN N s m fl k w), σ) := by
  intro k
  have hn := wf.1
  have stop : ∀ fu w, L_Mo_leftOf_19 (fu + 1) (nI s) (nI m) (nI fl) (lN w) 0 σ = some (lN w, σ) := fun fu w => by
    show B_Mo_leftOf_19 (L_Mo_leftOf_19 fu) _ _ _ _ _ _ = _
    unfold B_Mo_leftOf_19
    rw [if_pos rfl]
  have go : ∀ fu w, w < 2 ^ n_n N → L_Mo_leftOf_19 (fu + 1) (nI s) (nI m) (nI fl) (lN w) 1 σ = L_Mo_leftOf_19 fu (nI s) (nI m) (nI fl) (lN (nd w (brN N s m fl w (n_n N)))) (if brN N s m fl w (n_n N) = 0 then 0 else 1) σ := fun fu w hw => by
    show B_Mo_leftOf_19 (L_Mo_leftOf_19 fu) _ _ _ _ _ _ = _
    unfold B_Mo_leftOf_19
    rw [if_neg (show ¬ ((1 : Int32) = 0) by decide +kernel)]
    exact mo_lf_in wf hs hm hfl hw h (k19 := L_Mo_leftOf_19 fu) (n_n N) LF 0 (by omega) (by rw [LF_big]; omega)
  induction k with
  | zero =>
    intro fu w hk hf hw
    obtain ⟨fu, rfl⟩ : ∃ f, fu = f + 1 + 1 := ⟨fu - 2, by omega⟩
    have w0 := pc_z (lt64 wf hw) (show pc w = 0 by omega)
    subst w0
    rw [go _ _ hw, brN_0, nd_0, if_pos rfl, stop]; rfl
  | succ k ih =>
    intro fu w hk hf hw
    obtain ⟨fu, rfl⟩ : ∃ f, fu = f + 1 + 1 := ⟨fu - 2, by omega⟩
    rw [go _ _ hw, wbN_s]
    by_cases hb : brN N s m fl w (n_n N) = 0
    · rw [if_pos hb, if_pos hb, hb, nd_0, stop]
    · rw [if_neg hb, if_neg hb]
      have hlt := pc_nd_lt (lt64 wf hw) hb (fun i hi => brN_sub hi)
      exact ih (fu + 1) _ (by omega) (by omega) (nd_lt hw)
/-- those that are left -/
def lfN (N : Nt) (s m w : Nat) : Nat := wbN N s m (mea N m (tkN N s w)) 40 w
theorem lfN_lt {N : Nt} {s m w : Nat} (hw : w < 2 ^ n_n N) : lfN N s m w < 2 ^ n_n N := wbN_lt 40 w hw
theorem mo_leftOf {σ : Sto} {N : Nt} (h : ModAt σ N) (wf : WfN N) {s m w : Nat} (hs : s < 2) (hm : m < 2) (hw : w < 2 ^ n_n N) : ∃ σ', f_Mo_leftOf (nI s) (nI m) (lN w) σ = some (lN (lfN N s m w), σ') ∧ Scr kL σ σ' := by
  obtain ⟨σ', e, r4⟩ := mo_takenOf h wf hs hw
  refine ⟨σ', ?_, r4⟩
  have hme := mea_le wf m (tkN N s w)
  unfold f_Mo_leftOf B_Mo_leftOf_0
  rw [e, Option.bind_some]
  simp only []
  rw [mo_measureOf (h.kL r4) wf hm (tkN_lt hw), Option.bind_some]
  exact mo_lf_loop wf hs hm (by omega) (h.kL r4) 40 LF w (pcw40 wf hw) (by rw [LF_big]; omega) hw
