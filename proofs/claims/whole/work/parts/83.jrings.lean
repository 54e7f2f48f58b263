/-! what the reference answers of its list; grown, greatest, all -/
def topN (N : Nt) (s m w : Nat) : Nat := mwI N m (fun i => (rgL N s w).getD i 0) (rgL N s w).length
def gtN (N : Nt) (s m w : Nat) : Nat := fsI N m (topN N s m w) (rgL N s w)
/-- the best of the rings, the least of those -/
def Bst (N : Nt) (s m w R : Nat) : Prop := Mx N s w R ∧ (∀ Q, Mx N s w Q → mea N m Q ≤ mea N m R) ∧ ∀ Q, Mx N s w Q → mea N m Q = mea N m R → R ≤ Q
theorem bst_one {N : Nt} {s m w R Q : Nat} (h1 : Bst N s m w R) (h2 : Bst N s m w Q) : R = Q := by
  have e : mea N m R = mea N m Q := Nat.le_antisymm (h2.2.1 R h1.1) (h1.2.1 Q h2.1)
  exact Nat.le_antisymm (h1.2.2 Q h2.1 e.symm) (h2.2.2 R h1.1 e)
theorem top_ok {N : Nt} (wf : WfN N) {s m w : Nat} (hw : w < 2 ^ n_n N) : (∃ R, Mx N s w R ∧ mea N m R = topN N s m w) ∧ ∀ R, Mx N s w R → mea N m R ≤ topN N s m w := by
  constructor
  · obtain ⟨i, hi, e⟩ := mwI_at N m (fun i => (rgL N s w).getD i 0) (rgL N s w).length (rg_ne wf hw)
    exact ⟨_, rg_mx wf hw hi, e⟩
  · intro R hR
    obtain ⟨i, hi, e⟩ := mem_getD ((rgL_mem wf hw R).2 hR)
    have := mwI_ge N m (fun i => (rgL N s w).getD i 0) (rgL N s w).length i hi
    rw [← e]; exact this
theorem gt_bst {N : Nt} (wf : WfN N) {s m w : Nat} (hw : w < 2 ^ n_n N) : Bst N s m w (gtN N s m w) ∧ mea N m (gtN N s m w) = topN N s m w := by
  have hlt : fa_first (fun i => decide (mea N m ((rgL N s w).getD i 0) = topN N s m w)) (rgL N s w).length < (rgL N s w).length := by
    obtain ⟨i, hi, e⟩ := mwI_at N m (fun i => (rgL N s w).getD i 0) (rgL N s w).length (rg_ne wf hw)
    rcases Nat.lt_or_ge (fa_first (fun i => decide (mea N m ((rgL N s w).getD i 0) = topN N s m w)) (rgL N s w).length) (rgL N s w).length with y | y
    · exact y
    · have := fa_first_no (fun i => decide (mea N m ((rgL N s w).getD i 0) = topN N s m w)) (rgL N s w).length i (by omega)
      rw [decide_eq_true (show mea N m ((rgL N s w).getD i 0) = topN N s m w from e)] at this
      cases this
  have hy := of_decide_eq_true (fa_first_yes (fun i => decide (mea N m ((rgL N s w).getD i 0) = topN N s m w)) (rgL N s w).length hlt)
  have eg : gtN N s m w = (rgL N s w).getD (fa_first (fun i => decide (mea N m ((rgL N s w).getD i 0) = topN N s m w)) (rgL N s w).length) 0 := if_pos hlt
  have et : mea N m (gtN N s m w) = topN N s m w := by rw [eg]; exact hy
  refine ⟨⟨by rw [eg]; exact rg_mx wf hw hlt, fun Q hQ => by rw [et]; exact (top_ok wf hw).2 Q hQ, fun Q hQ hm => ?_⟩, et⟩
  obtain ⟨j, hj, e⟩ := mem_getD ((rgL_mem wf hw Q).2 hQ)
  rw [et] at hm
  rw [eg, ← e]
  rcases Nat.lt_trichotomy j (fa_first (fun i => decide (mea N m ((rgL N s w).getD i 0) = topN N s m w)) (rgL N s w).length) with y | y | y
  · have := fa_first_no (fun i => decide (mea N m ((rgL N s w).getD i 0) = topN N s m w)) (rgL N s w).length j y
    rw [decide_eq_true (show mea N m ((rgL N s w).getD j 0) = topN N s m w by rw [e]; exact hm)] at this
    cases this
  · rw [← y]; exact Nat.le_refl _
  · exact Nat.le_of_lt (rg_lt wf hw y hj)
theorem mo_gt_loop {N : Nt} (wf : WfN N) {s m w : Nat} (hm : m < 2) (hw : w < 2 ^ n_n N) (h16 : pc w ≤ 16) {A : Gs} (hL : LsP N s w A) {σ : Sto} (h : ModAt σ N) (hA : RgM σ A) : ∀ (k fu r b : Nat), r + k = A.1 → k < fu → b < r → (∀ i, i < r → mea N m (A.2 i) ≤ mea N m (A.2 b) ∧ (mea N m (A.2 i) = mea N m (A.2 b) → A.2 b ≤ A.2 i)) → ∃ c, L_Mo_greatestOf_17 fu (nI m) (lN (A.2 b)) (nI r) σ = some (lN (A.2 c), σ) ∧ c < A.1 ∧ ∀ i, i < A.1 → mea N m (A.2 i) ≤ mea N m (A.2 c) ∧ (mea N m (A.2 i) = mea N m (A.2 c) → A.2 c ≤ A.2 i) := by
  intro k
  have hl := inj_len wf hw h16 hL.1 hL.2.1
  have hlt : ∀ i, i < A.1 → A.2 i < 2 ^ n_n N := fun i hi => mx_lt hw (hL.2.1 i hi)
  have hn := wf.1
  have h63 : ∀ i, i < A.1 → A.2 i < 2 ^ 63 := fun i hi => Nat.lt_of_lt_of_le (hlt i hi) (two_pow_le (by omega))
  induction k with
  | zero =>
    intro fu r b hr hf hb hbest
    obtain ⟨fu, rfl⟩ : ∃ z, fu = z + 1 := ⟨fu - 1, by omega⟩
    refine ⟨b, ?_, by omega, fun i hi => hbest i (by omega)⟩
    show B_Mo_greatestOf_17 (L_Mo_greatestOf_17 fu) _ _ _ _ = _
    unfold B_Mo_greatestOf_17
    rw [hA.1, if_pos (nI_le (by omega) (by omega))]
  | succ k ih =>
    intro fu r b hr hf hb hbest
    obtain ⟨fu, rfl⟩ : ∃ z, fu = z + 1 := ⟨fu - 1, by omega⟩
    have hr0 : r < A.1 := by omega
    have m1 := mea_le wf m (A.2 r)
    have m2 := mea_le wf m (A.2 b)
    have e0 : L_Mo_greatestOf_17 (fu + 1) (nI m) (lN (A.2 b)) (nI r) σ = if mea N m (A.2 b) < mea N m (A.2 r) then L_Mo_greatestOf_17 fu (nI m) (lN (A.2 r)) (nI (r + 1)) σ else if mea N m (A.2 r) = mea N m (A.2 b) then (if A.2 b ≤ A.2 r then L_Mo_greatestOf_17 fu (nI m) (lN (A.2 b)) (nI (r + 1)) σ else L_Mo_greatestOf_17 fu (nI m) (lN (A.2 r)) (nI (r + 1)) σ) else L_Mo_greatestOf_17 fu (nI m) (lN (A.2 b)) (nI (r + 1)) σ := by
      show B_Mo_greatestOf_17 (L_Mo_greatestOf_17 fu) _ _ _ _ = _
      unfold B_Mo_greatestOf_17
      rw [hA.1, if_neg (nI_ge hr0 (by omega))]
      simp only [inb_ok (show r < 400 by omega) (show 400 < 2 ^ 31 by decide), if_true, nI_clamp (show r < 2 ^ 31 by omega), hA.2 r hr0, mo_measureOf h wf hm (hlt r hr0), mo_measureOf h wf hm (hlt b (by omega)), Option.bind_some, nI_ltI (show mea N m (A.2 b) < 2 ^ 31 by omega) (show mea N m (A.2 r) < 2 ^ 31 by omega), nI_eq (show mea N m (A.2 r) < 2 ^ 31 by omega) (show mea N m (A.2 b) < 2 ^ 31 by omega), lt1_eq, leL (h63 b (by omega)) (h63 r hr0), nI_1]
    rw [e0]
    have keep : (mea N m (A.2 r) ≤ mea N m (A.2 b) ∧ (mea N m (A.2 r) = mea N m (A.2 b) → A.2 b ≤ A.2 r)) → ∀ i, i < r + 1 → mea N m (A.2 i) ≤ mea N m (A.2 b) ∧ (mea N m (A.2 i) = mea N m (A.2 b) → A.2 b ≤ A.2 i) := fun hz i hi => by
      by_cases e : i = r
      · rw [e]; exact hz
      · exact hbest i (by omega)
    have take : (mea N m (A.2 b) < mea N m (A.2 r) ∨ (mea N m (A.2 r) = mea N m (A.2 b) ∧ A.2 r < A.2 b)) → ∀ i, i < r + 1 → mea N m (A.2 i) ≤ mea N m (A.2 r) ∧ (mea N m (A.2 i) = mea N m (A.2 r) → A.2 r ≤ A.2 i) := fun hz i hi => by
      by_cases e : i = r
      · rw [e]; exact ⟨Nat.le_refl _, fun _ => Nat.le_refl _⟩
      · have := hbest i (by omega)
        refine ⟨by omega, fun hq => ?_⟩
        rcases hz with hz | hz
        · omega
        · have := this.2 (by omega)
          omega
    by_cases c1 : mea N m (A.2 b) < mea N m (A.2 r)
    · rw [if_pos c1]
      exact ih fu (r + 1) r (by omega) (by omega) (by omega) (take (Or.inl c1))
    · rw [if_neg c1]
      by_cases c2 : mea N m (A.2 r) = mea N m (A.2 b)
      · rw [if_pos c2]
        by_cases c3 : A.2 b ≤ A.2 r
        · rw [if_pos c3]
          exact ih fu (r + 1) b (by omega) (by omega) (by omega) (keep ⟨by omega, fun _ => c3⟩)
        · rw [if_neg c3]
          exact ih fu (r + 1) r (by omega) (by omega) (by omega) (take (Or.inr ⟨c2, by omega⟩))
      · rw [if_neg c2]
        exact ih fu (r + 1) b (by omega) (by omega) (by omega) (keep ⟨by omega, fun z => absurd z c2⟩)
theorem mo_greatestOf {N : Nt} (wf : WfN N) {s m w : Nat} (hs : s < 2) (hm : m < 2) (hw : w < 2 ^ n_n N) (h16 : pc w ≤ 16) {σ : Sto} (h : ModAt σ N) : ∃ σ' A, f_Mo_greatestOf (nI s) (nI m) (lN w) σ = some (lN (gtN N s m w), σ') ∧ RgM σ' A ∧ LsP N s w A ∧ Scr kH σ σ' := by
  obtain ⟨σ', A, e, a1, a2, a3⟩ := mo_lists wf hs hw h16 h
  have hl := inj_len wf hw h16 a2.1 a2.2.1
  have h0 : 0 < A.1 := by rw [ls_len wf hw a2]; exact rg_ne wf hw
  obtain ⟨c, e2, c1, c2⟩ := mo_gt_loop wf hm hw h16 a2 (h.kH a3) a1 (A.1 - 1) LF 1 0 (by omega) (by rw [LF_big]; omega) (by omega) (fun i hi => by
    rw [show i = 0 by omega]; exact ⟨Nat.le_refl _, fun _ => Nat.le_refl _⟩)
  have hb : Bst N s m w (A.2 c) := ⟨a2.2.1 c c1, fun Q hQ => by
    obtain ⟨i, hi, rfl⟩ := a2.2.2 Q hQ
    exact (c2 i hi).1, fun Q hQ hz => by
    obtain ⟨i, hi, rfl⟩ := a2.2.2 Q hQ
    exact (c2 i hi).2 hz⟩
  have eg := bst_one hb (gt_bst wf hw).1
  refine ⟨σ', A, ?_, a1, a2, a3⟩
  unfold f_Mo_greatestOf B_Mo_greatestOf_0
  rw [e, Option.bind_some]
  simp only [show inb (0 : Int32) 400 = true by decide +kernel, if_true, show (0 : Int32).toNatClampNeg = 0 by decide +kernel, lt1_eq, a1.2 0 h0]
  rw [← eg]
  exact e2
theorem mo_isMuch {w : Nat} (hw : w < 2 ^ 64) (σ : Sto) : f_Mo_isMuch (lN w) σ = some (decide (16 < pc w), σ) := by
  unfold f_Mo_isMuch B_Mo_isMuch_0
  have := pc_le w
  rw [many_eq hw, Option.bind_some, show (16 : Int32) = nI 16 from rfl]
  simp only [nI_leI (show pc w < 2 ^ 31 by omega) (show 16 < 2 ^ 31 by decide)]
  by_cases h : pc w ≤ 16
  · rw [if_pos h, decide_eq_false (by omega)]
  · rw [if_neg h, decide_eq_true (by omega)]
theorem pc16 {w : Nat} : (nI (pc w) ≤ (16 : Int32)) ↔ pc w ≤ 16 := by
  have := pc_le w
  rw [show (16 : Int32) = nI 16 from rfl, nI_leI (by omega) (by decide)]
theorem rg_64 {N : Nt} (wf : WfN N) {s w : Nat} (hw : w < 2 ^ n_n N) : ∀ i, i < (rgL N s w).length → (rgL N s w).getD i 0 < 2 ^ 64 := fun i hi => lt64 wf (mx_lt hw (rg_mx wf hw hi))
theorem op_greatest (a0 : Int32) (b1 : Int32) (c2 : Int64) : Op (f_FR_greatest a0 b1 c2) (f_Mo_greatest a0 b1 c2) := by
  obtain ⟨u, hu, rfl⟩ := wb_of c2
  cases h1 : oneB a0
  · refine Op.ask (fun _ => -2) (fun σ A wf h => ⟨σ, ?_, Scr.rf⟩) (fun σ A wf h => ⟨σ, ?_, Scr.rf⟩)
    · unfold f_FR_greatest B_FR_greatest_0
      simp [fr_isAsked h.net wf.1 a0 b1 hu, h1, ite_bf]
    · unfold f_Mo_greatest B_Mo_greatest_0
      simp [mo_isOne, h1, ite_bf]
  cases h2 : oneB b1
  · refine Op.ask (fun _ => -2) (fun σ A wf h => ⟨σ, ?_, Scr.rf⟩) (fun σ A wf h => ⟨σ, ?_, Scr.rf⟩)
    · unfold f_FR_greatest B_FR_greatest_0
      simp [fr_isAsked h.net wf.1 a0 b1 hu, h1, h2, ite_bf]
    · unfold f_Mo_greatest B_Mo_greatest_0
      simp [mo_isOne, h1, h2, ite_bf, ite_bt]
  obtain ⟨s, hs, rfl⟩ := oneB_of h1
  obtain ⟨m, hm, rfl⟩ := oneB_of h2
  refine Op.ask (fun A => if u < 2 ^ n_n (s_N A) then (if pc u ≤ 16 then lN (gtN (s_N A) s m u) else -5) else -2) (fun σ A wf h => ?_) (fun σ A wf h => ?_)
  · unfold f_FR_greatest B_FR_greatest_0
    simp only [fr_isAsked h.net wf.1 (nI s) (nI m) hu, h1, h2, Bool.true_and, Option.bind_some]
    by_cases h3 : u < 2 ^ n_n (s_N A)
    · simp only [decide_eq_true h3, ite_bt, if_pos h3, bitCount_eq hu, Option.bind_some, pc16]
      by_cases h4 : pc u ≤ 16
      · obtain ⟨σ', e, hr, hN, r4⟩ := fi_gather wf.1 hs h3 h4 h.net
        have hN1 := h.net.kF (by omega) r4
        have hl := rgL_len (s := s) wf.1 h3 h4
        have htop := mwI_le wf.1 m (fun i => (rgL (s_N A) s u).getD i 0) (rgL (s_N A) s u).length
        refine ⟨σ', ?_, r4.kFC⟩
        rw [if_pos h4, if_pos h4, e, Option.bind_some]
        simp only []
        rw [fi_most wf.1 hm hl (rg_64 wf.1 h3) hN1 hN hr, Option.bind_some]
        simp only []
        rw [fi_first wf.1 hm (by omega) hl (rg_64 wf.1 h3) hN1 hN hr, Option.bind_some]; rfl
      · exact ⟨σ, by rw [if_neg h4, if_neg h4], Scr.rf⟩
    · exact ⟨σ, by simp [h3, ite_bf], Scr.rf⟩
  · unfold f_Mo_greatest B_Mo_greatest_0
    simp only [mo_isOne, h1, h2, mo_isSet h.net wf.1 hu, Option.bind_some, ite_bt, mo_isMuch hu]
    by_cases h3 : u < 2 ^ n_n (s_N A)
    · simp only [decide_eq_true h3, ite_bt, if_pos h3]
      by_cases h4 : pc u ≤ 16
      · obtain ⟨σ', B, e, _, _, r4⟩ := mo_greatestOf wf.1 hs hm h3 h4 h.net
        refine ⟨σ', ?_, r4.kHM⟩
        rw [decide_eq_false (by omega), ite_bf, if_pos h4, e, Option.bind_some]
      · exact ⟨σ, by rw [decide_eq_true (by omega), ite_bt, if_neg h4], Scr.rf⟩
    · exact ⟨σ, by simp [h3, ite_bf], Scr.rf⟩
/-! grown -/
theorem rk_ct {n : Nat} {g : Nat → Nat} (hg : ∀ i j, i < j → j < n → g i < g j) {k : Nat} (hk : k < n) : fb_ct (fun o => decide (g o < g k)) n = k := by
  have e : fb_ct (fun o => decide (g o < g k)) n = fb_ct (fun o => decide (o < k)) n := fb_ct_cong (fun o ho => by
    congr 1
    apply propext
    constructor
    · intro z
      rcases Nat.lt_trichotomy o k with y | y | y
      · exact y
      · rw [y] at z; omega
      · have := hg k o y ho; omega
    · intro z
      exact hg o k z hk)
  rw [e]
  have : ∀ j, fb_ct (fun o => decide (o < k)) j = min j k := by
    intro j
    induction j with
    | zero => show 0 = min 0 k; omega
    | succ j ih =>
      rw [fb_ct_succ, ih]
      by_cases hj : j < k
      · rw [if_pos (decide_eq_true hj)]; omega
      · rw [if_neg (by rw [decide_eq_false hj]; decide)]; omega
  rw [this]; omega
theorem mo_gr_in {A : Gs} (h324 : A.1 ≤ 324) (h63 : ∀ i, i < A.1 → A.2 i < 2 ^ 63) {σ : Sto} (hA : RgM σ A) {kk r : Nat} (hr : r < A.1) {k72 : Int32 → Int32 → Sto → Option (Int64 × Sto)} (hkk : kk < 2 ^ 31) : ∀ (k fu o : Nat), o + k = A.1 → k < fu → L_Mo_grown_87 k72 fu (nI kk) (nI r) (nI (fb_ct (fun o => decide (A.2 o < A.2 r)) o)) (nI o) σ = if fb_ct (fun o => decide (A.2 o < A.2 r)) A.1 = kk then some (lN (A.2 r), σ) else k72 (nI kk) (nI (r + 1)) σ := by
  intro k
  have hcl : ∀ o, fb_ct (fun o => decide (A.2 o < A.2 r)) o ≤ o := fun o => fb_ct_le _ o
  induction k with
  | zero =>
    intro fu o ho hf
    obtain ⟨fu, rfl⟩ : ∃ z, fu = z + 1 := ⟨fu - 1, by omega⟩
    have := hcl A.1
    show B_Mo_grown_87 k72 (L_Mo_grown_87 k72 fu) _ _ _ _ _ = _
    unfold B_Mo_grown_87
    rw [hA.1, if_pos (nI_le (by omega) (by omega)), show o = A.1 by omega]
    simp only [nI_eq (show fb_ct (fun o => decide (A.2 o < A.2 r)) A.1 < 2 ^ 31 by omega) hkk, inb_ok (show r < 400 by omega) (show 400 < 2 ^ 31 by decide), if_true, nI_clamp (show r < 2 ^ 31 by omega), hA.2 r hr, nI_1]
  | succ k ih =>
    intro fu o ho hf
    obtain ⟨fu, rfl⟩ : ∃ z, fu = z + 1 := ⟨fu - 1, by omega⟩
    have e := ih fu (o + 1) (by omega) (by omega)
    rw [fb_ct_succ] at e
    show B_Mo_grown_87 k72 (L_Mo_grown_87 k72 fu) _ _ _ _ _ = _
    unfold B_Mo_grown_87
    rw [hA.1, if_neg (nI_ge (by omega) (by omega))]
    simp only [inb_ok (show r < 400 by omega) (show 400 < 2 ^ 31 by decide), inb_ok (show o < 400 by omega) (show 400 < 2 ^ 31 by decide), if_true, nI_clamp (show r < 2 ^ 31 by omega), nI_clamp (show o < 2 ^ 31 by omega), hA.2 r hr, hA.2 o (by omega), leL (h63 r hr) (h63 o (by omega))]
    rw [show nI o + (1 : Int32) = nI (o + 1) from nI_1 o, show nI (fb_ct (fun o => decide (A.2 o < A.2 r)) o) + (0 : Int32) = nI (fb_ct (fun o => decide (A.2 o < A.2 r)) o) from nI_add _ 0, show nI (fb_ct (fun o => decide (A.2 o < A.2 r)) o) + (1 : Int32) = nI (fb_ct (fun o => decide (A.2 o < A.2 r)) o + 1) from nI_1 _]
    by_cases hc : A.2 o < A.2 r
    · rw [if_neg (by omega)]
      rw [if_pos (decide_eq_true hc)] at e
      exact e
    · rw [if_pos (by omega)]
      rw [if_neg (by rw [decide_eq_false hc]; decide)] at e
      exact e
theorem mo_gr_loop {A : Gs} (h324 : A.1 ≤ 324) (h63 : ∀ i, i < A.1 → A.2 i < 2 ^ 63) {σ : Sto} (hA : RgM σ A) {kk R : Nat} (hkk : kk < 2 ^ 31) (hex : ∃ i, i < A.1 ∧ A.2 i = R ∧ fb_ct (fun o => decide (A.2 o < A.2 i)) A.1 = kk) (hun : ∀ i, i < A.1 → fb_ct (fun o => decide (A.2 o < A.2 i)) A.1 = kk → A.2 i = R) : ∀ (k fu r : Nat), r + k = A.1 → k < fu → (∀ i, i < r → fb_ct (fun o => decide (A.2 o < A.2 i)) A.1 ≠ kk) → L_Mo_grown_72 fu (nI kk) (nI r) σ = some (lN R, σ) := by
  intro k
  induction k with
  | zero =>
    intro fu r hr hf hno
    obtain ⟨i, hi, _, h3⟩ := hex
    exact absurd h3 (hno i (by omega))
  | succ k ih =>
    intro fu r hr hf hno
    obtain ⟨fu, rfl⟩ : ∃ z, fu = z + 1 := ⟨fu - 1, by omega⟩
    show B_Mo_grown_72 (L_Mo_grown_72 fu) _ _ _ = _
    unfold B_Mo_grown_72
    rw [hA.1, if_neg (nI_ge (by omega) (by omega))]
    refine Eq.trans (mo_gr_in h324 h63 hA (show r < A.1 by omega) hkk (k72 := L_Mo_grown_72 fu) A.1 LF 0 (by omega) (by rw [LF_big]; omega)) ?_
    by_cases hc : fb_ct (fun o => decide (A.2 o < A.2 r)) A.1 = kk
    · rw [if_pos hc, hun r (by omega) hc]
    · rw [if_neg hc]
      refine ih fu (r + 1) (by omega) (by omega) (fun i hi => ?_)
      by_cases e : i = r
      · rw [e]; exact hc
      · exact hno i (by omega)
theorem op_grown (a0 : Int32) (b1 : Int64) (c2 : Int32) : Op (f_FR_grown a0 b1 c2) (f_Mo_grown a0 b1 c2) := by
  obtain ⟨u, hu, rfl⟩ := wb_of b1
  cases h1 : oneB a0
  · refine Op.ask (fun _ => -2) (fun σ A wf h => ⟨σ, ?_, Scr.rf⟩) (fun σ A wf h => ⟨σ, ?_, Scr.rf⟩)
    · unfold f_FR_grown B_FR_grown_0
      simp [fr_isSideAndSet h.net wf.1 a0 hu, h1, ite_bf]
    · unfold f_Mo_grown B_Mo_grown_0
      simp [mo_isOne, h1, ite_bf]
  obtain ⟨s, hs, rfl⟩ := oneB_of h1
  refine Op.ask (fun A => if u < 2 ^ n_n (s_N A) then (if pc u ≤ 16 then (if c2 = -1 then lN (rgL (s_N A) s u).length else if ptB c2 (rgL (s_N A) s u).length = true then lN ((rgL (s_N A) s u).getD c2.toInt.toNat 0) else -12) else -5) else -2) (fun σ A wf h => ?_) (fun σ A wf h => ?_)
  · unfold f_FR_grown B_FR_grown_0
    simp only [fr_isSideAndSet h.net wf.1 (nI s) hu, h1, Bool.true_and, Option.bind_some]
    by_cases h3 : u < 2 ^ n_n (s_N A)
    · simp only [decide_eq_true h3, ite_bt, if_pos h3, bitCount_eq hu, Option.bind_some, pc16]
      by_cases h4 : pc u ≤ 16
      · obtain ⟨σ', e, hr, hN, r4⟩ := fi_gather wf.1 hs h3 h4 h.net
        have hl := rgL_len (s := s) wf.1 h3 h4
        refine ⟨σ', ?_, r4.kFC⟩
        rw [if_pos h4, if_pos h4, e, Option.bind_some, hr.1]
        by_cases h5 : c2 = -1
        · rw [if_pos h5, if_pos h5, nI_l (by omega)]
        · rw [if_neg h5, if_neg h5, fr_place (by omega)]
          cases h6 : ptB c2 (rgL (s_N A) s u).length
          · rw [if_neg (by decide), if_neg (by decide)]
          · obtain ⟨k, hk, rfl⟩ := ptB_of h6
            rw [if_pos rfl, if_pos rfl, nI_toInt (by omega)]
            simp only [inb_ok (show k < 324 by omega) (show 324 < 2 ^ 31 by decide), if_true, nI_clamp (show k < 2 ^ 31 by omega), Int.toNat_natCast, hr.2 k hk]
      · exact ⟨σ, by rw [if_neg h4, if_neg h4], Scr.rf⟩
    · exact ⟨σ, by simp [h3, ite_bf], Scr.rf⟩
  · unfold f_Mo_grown B_Mo_grown_0
    simp only [mo_isOne, h1, mo_isSet h.net wf.1 hu, Option.bind_some, ite_bt, mo_isMuch hu]
    by_cases h3 : u < 2 ^ n_n (s_N A)
    · simp only [decide_eq_true h3, ite_bt, if_pos h3]
      by_cases h4 : pc u ≤ 16
      · obtain ⟨σ', B, e, b1, b2, r4⟩ := mo_lists wf.1 hs h3 h4 h.net
        have hl := inj_len wf.1 h3 h4 b2.1 b2.2.1
        have hn := wf.1.1
        have h63 : ∀ i, i < B.1 → B.2 i < 2 ^ 63 := fun i hi => Nat.lt_of_lt_of_le (mx_lt h3 (b2.2.1 i hi)) (two_pow_le (by omega))
        have elen := ls_len wf.1 h3 b2
        refine ⟨σ', ?_, r4.kHM⟩
        rw [decide_eq_false (by omega), ite_bf, if_pos h4, e, Option.bind_some, b1.1, elen]
        by_cases h5 : c2 = -1
        · rw [if_pos h5, if_pos h5, nI_l (by omega)]
        · rw [if_neg h5, if_neg h5, mo_inN (by omega), Option.bind_some]
          cases h6 : ptB c2 (rgL (s_N A) s u).length
          · rw [ite_bf, if_neg (by decide)]
          · obtain ⟨k, hk, rfl⟩ := ptB_of h6
            rw [ite_bt, if_pos rfl, nI_toInt (by omega)]
            have hct : ∀ i, i < B.1 → ∀ j, j < (rgL (s_N A) s u).length → B.2 i = (rgL (s_N A) s u).getD j 0 → fb_ct (fun o => decide (B.2 o < B.2 i)) B.1 = j := fun i hi j hj hz => by
              rw [hz, ls_ct wf.1 h3 b2 (fun x => decide (x < (rgL (s_N A) s u).getD j 0))]
              exact rk_ct (g := fun i => (rgL (s_N A) s u).getD i 0) (fun a b hab hb => rg_lt wf.1 h3 hab hb) hj
            refine mo_gr_loop hl h63 b1 (by omega) ?_ ?_ B.1 LF 0 (by omega) (by rw [LF_big]; omega) (fun i hi => absurd hi (Nat.not_lt_zero i))
            · obtain ⟨i, hi, hz⟩ := b2.2.2 _ (rg_mx wf.1 h3 hk)
              exact ⟨i, hi, hz, hct i hi k hk hz⟩
            · intro i hi hz
              obtain ⟨j, hj, ej⟩ := mem_getD ((rgL_mem wf.1 h3 (B.2 i)).2 (b2.2.1 i hi))
              have := hct i hi j hj ej.symm
              rw [← ej, show j = k by omega]; rfl
      · exact ⟨σ, by rw [decide_eq_true (by omega), ite_bt, if_neg h4], Scr.rf⟩
    · exact ⟨σ, by simp [h3, ite_bf], Scr.rf⟩
