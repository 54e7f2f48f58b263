/-! what is asked of the rings: grown, greatest, all -/
theorem lN_ti63 {a : Nat} (h : a < 2 ^ 63) : (lN a).toInt = (a : Int) := by
  have h64 : a < 2 ^ 64 := by omega
  show (lN a).toBitVec.toInt = (a : Int)
  rw [BitVec.toInt_eq_toNat_of_lt (by rw [wb_tn h64]; omega), wb_tn h64]
theorem leL {a b : Nat} (ha : a < 2 ^ 63) (hb : b < 2 ^ 63) : lN a ≤ lN b ↔ a ≤ b := by
  rw [Int64.le_iff_toInt_le, lN_ti63 ha, lN_ti63 hb]; omega
theorem ct_cp (P : Nat → Bool) (f : Nat → Nat) : ∀ n, fb_ct (fun i => P (f i)) n = ((List.range n).map f).countP P
  | 0 => rfl
  | n + 1 => by
    rw [fb_ct_succ, ct_cp P f n, List.range_succ, List.map_append, List.countP_append]
    simp only [List.map_cons, List.map_nil, List.countP_cons, List.countP_nil]
    split <;> simp_all
theorem rg_list (l : List Nat) : (List.range l.length).map (fun i => l.getD i 0) = l := by
  apply List.ext_getElem
  · simp
  · intro i h1 h2
    simp only [List.getElem_map, List.getElem_range, List.getD_eq_getElem?_getD, List.getElem?_eq_getElem h2, Option.getD_some]
theorem getD_mem {l : List Nat} {i : Nat} (h : i < l.length) : l.getD i 0 ∈ l := by
  rw [List.getD_eq_getElem?_getD, List.getElem?_eq_getElem h]
  exact List.getElem_mem h
theorem mem_getD {l : List Nat} {R : Nat} (h : R ∈ l) : ∃ i, i < l.length ∧ l.getD i 0 = R := by
  obtain ⟨i, hi, e⟩ := List.getElem_of_mem h
  exact ⟨i, hi, by rw [List.getD_eq_getElem?_getD, List.getElem?_eq_getElem hi]; exact e⟩
/-- the reference's list and the class's hold the same rings -/
theorem ls_perm {N : Nt} (wf : WfN N) {s w : Nat} (hw : w < 2 ^ n_n N) {A : Gs} (h : LsP N s w A) : List.Perm ((List.range A.1).map A.2) (rgL N s w) := by
  refine (List.perm_ext_iff_of_nodup ?_ (rgL_nodup wf hw)).2 (fun R => ?_)
  · refine List.pairwise_map.2 (List.Pairwise.imp_of_mem (fun {a b} ha hb hab => ?_) (List.pairwise_lt_range (n := A.1)))
    exact h.1 a b hab (List.mem_range.1 hb)
  · rw [rgL_mem wf hw, List.mem_map]
    constructor
    · rintro ⟨i, hi, rfl⟩
      exact h.2.1 i (List.mem_range.1 hi)
    · intro hR
      obtain ⟨i, hi, e⟩ := h.2.2 R hR
      exact ⟨i, List.mem_range.2 hi, e⟩
theorem ls_len {N : Nt} (wf : WfN N) {s w : Nat} (hw : w < 2 ^ n_n N) {A : Gs} (h : LsP N s w A) : A.1 = (rgL N s w).length := by
  have := (ls_perm wf hw h).length_eq
  rwa [List.length_map, List.length_range] at this
theorem ls_ct {N : Nt} (wf : WfN N) {s w : Nat} (hw : w < 2 ^ n_n N) {A : Gs} (h : LsP N s w A) (P : Nat → Bool) : fb_ct (fun i => P (A.2 i)) A.1 = fb_ct (fun i => P ((rgL N s w).getD i 0)) (rgL N s w).length := by
  rw [ct_cp, ct_cp P (fun i => (rgL N s w).getD i 0), rg_list, (ls_perm wf hw h).countP_eq]
theorem rg_ne {N : Nt} (wf : WfN N) {s w : Nat} (hw : w < 2 ^ n_n N) : 0 < (rgL N s w).length := by
  obtain ⟨M, hM, _⟩ := mx_ext wf hw (pc w) 0 (by rw [pc_zero]; omega) (fun i hi => by rw [Nat.zero_testBit] at hi; cases hi) (fun p q hp => by
    rw [Nat.zero_testBit] at hp
    exact absurd hp (by decide)) (s := s)
  exact List.length_pos_of_mem ((rgL_mem wf hw M).2 hM)
theorem mx_lt {N : Nt} {s w R n : Nat} (hw : w < 2 ^ n) (h : Mx N s w R) : R < 2 ^ n := bit_lt (fun i hi => by
  cases hb : R.testBit i with
  | false => rfl
  | true => have := h.1 i hb; rw [tb_out hw hi] at this; cases this)
theorem rg_mx {N : Nt} (wf : WfN N) {s w i : Nat} (hw : w < 2 ^ n_n N) (hi : i < (rgL N s w).length) : Mx N s w ((rgL N s w).getD i 0) := (rgL_mem wf hw _).1 (getD_mem hi)
theorem rg_lt {N : Nt} (wf : WfN N) {s w i j : Nat} (hw : w < 2 ^ n_n N) (hij : i < j) (hj : j < (rgL N s w).length) : (rgL N s w).getD i 0 < (rgL N s w).getD j 0 := by
  rw [List.getD_eq_getElem?_getD, List.getD_eq_getElem?_getD, List.getElem?_eq_getElem (show i < (rgL N s w).length by omega), List.getElem?_eq_getElem hj]
  exact List.pairwise_iff_getElem.1 (rgL_sorted wf hw) i j (by omega) hj hij
/-! the class's loops -/
def mwI (N : Nt) (m : Nat) (g : Nat → Nat) : Nat → Nat
  | 0 => 0
  | k + 1 => max (mwI N m g k) (mea N m (g k))
theorem mwI_le {N : Nt} (wf : WfN N) (m : Nat) (g : Nat → Nat) : ∀ k, mwI N m g k ≤ 12000
  | 0 => Nat.zero_le _
  | k + 1 => Nat.max_le.mpr ⟨mwI_le wf m g k, mea_le wf m _⟩
theorem mwI_ge (N : Nt) (m : Nat) (g : Nat → Nat) : ∀ k i, i < k → mea N m (g i) ≤ mwI N m g k
  | 0, i, h => absurd h (Nat.not_lt_zero i)
  | k + 1, i, h => by
    show _ ≤ max _ _
    by_cases e : i = k
    · rw [e]; exact Nat.le_max_right _ _
    · exact Nat.le_trans (mwI_ge N m g k i (by omega)) (Nat.le_max_left _ _)
theorem mwI_at (N : Nt) (m : Nat) (g : Nat → Nat) : ∀ k, 0 < k → ∃ i, i < k ∧ mea N m (g i) = mwI N m g k
  | 0, h => absurd h (Nat.lt_irrefl 0)
  | k + 1, _ => by
    show ∃ i, i < k + 1 ∧ mea N m (g i) = max (mwI N m g k) (mea N m (g k))
    by_cases hk : mwI N m g k ≤ mea N m (g k)
    · exact ⟨k, by omega, by rw [Nat.max_eq_right hk]⟩
    · rcases Nat.eq_zero_or_pos k with e | e
      · subst e
        exact absurd (Nat.zero_le _) hk
      · obtain ⟨i, hi, h2⟩ := mwI_at N m g k e
        exact ⟨i, by omega, by rw [Nat.max_eq_left (by omega), h2]⟩
theorem fi_most {N : Nt} (wf : WfN N) {m : Nat} (hm : m < 2) {l : List Nat} (hl : l.length ≤ 324) (hg : ∀ i, i < l.length → l.getD i 0 < 2 ^ 64) {σ : Sto} (h : NetAt σ 1 N) (hN : gN σ = 1) (hr : RgC σ l) : f_Finder_mostWorth (nI m) σ = some (nI (mwI N m (fun i => l.getD i 0) l.length), σ) := by
  have lp : ∀ (k fu i : Nat), i + k = l.length → k < fu → L_Finder_mostWorth_4 fu (nI m) (nI (mwI N m (fun i => l.getD i 0) i)) (nI i) σ = some (nI (mwI N m (fun i => l.getD i 0) l.length), σ) := by
    intro k
    induction k with
    | zero =>
      intro fu i hi hf
      obtain ⟨fu, rfl⟩ : ∃ z, fu = z + 1 := ⟨fu - 1, by omega⟩
      show B_Finder_mostWorth_4 (L_Finder_mostWorth_4 fu) _ _ _ _ = _
      unfold B_Finder_mostWorth_4
      rw [hr.1, if_pos (nI_le (by omega) (by omega)), show i = l.length by omega]
    | succ k ih =>
      intro fu i hi hf
      obtain ⟨fu, rfl⟩ : ∃ z, fu = z + 1 := ⟨fu - 1, by omega⟩
      have e := ih fu (i + 1) (by omega) (by omega)
      have h1 := mwI_le wf m (fun i => l.getD i 0) i
      have h2 := mea_le wf m (l.getD i 0)
      show B_Finder_mostWorth_4 (L_Finder_mostWorth_4 fu) _ _ _ _ = _
      unfold B_Finder_mostWorth_4
      rw [hr.1, if_neg (nI_ge (by omega) (by omega)), hN, if_pos (show cls 1 = 4 by decide +kernel)]
      simp only [inb_ok (show i < 324 by omega) (show 324 < 2 ^ 31 by decide), if_true, nI_clamp (show i < 2 ^ 31 by omega), hr.2 i (by omega), nt_worth h wf hm (hg i (by omega)), Option.bind_some, mxI_N (show mwI N m (fun i => l.getD i 0) i < 2 ^ 31 by omega) (show mea N m (l.getD i 0) < 2 ^ 31 by omega), nI_1]
      exact e
  exact lp l.length LF 0 (by omega) (by rw [LF_big]; omega)
def fsI (N : Nt) (m wo : Nat) (l : List Nat) : Nat := if fa_first (fun i => decide (mea N m (l.getD i 0) = wo)) l.length < l.length then l.getD (fa_first (fun i => decide (mea N m (l.getD i 0) = wo)) l.length) 0 else 0
theorem fi_first {N : Nt} (wf : WfN N) {m wo : Nat} (hm : m < 2) (hwo : wo < 2 ^ 31) {l : List Nat} (hl : l.length ≤ 324) (hg : ∀ i, i < l.length → l.getD i 0 < 2 ^ 64) {σ : Sto} (h : NetAt σ 1 N) (hN : gN σ = 1) (hr : RgC σ l) : f_Finder_firstOf (nI m) (nI wo) σ = some (lN (fsI N m wo l), σ) := by
  have lp : ∀ (k fu i : Nat), i + k = l.length → k < fu → (∀ j, j < i → decide (mea N m (l.getD j 0) = wo) = false) → L_Finder_firstOf_2 fu (nI m) (nI wo) (nI i) σ = some (lN (fsI N m wo l), σ) := by
    intro k
    induction k with
    | zero =>
      intro fu i hi hf hno
      obtain ⟨fu, rfl⟩ : ∃ z, fu = z + 1 := ⟨fu - 1, by omega⟩
      show B_Finder_firstOf_2 (L_Finder_firstOf_2 fu) _ _ _ _ = _
      unfold B_Finder_firstOf_2 fsI
      rw [hr.1, if_pos (nI_le (by omega) (by omega)), first_end (fun j hj => hno j (by omega)), if_neg (by omega)]; rfl
    | succ k ih =>
      intro fu i hi hf hno
      obtain ⟨fu, rfl⟩ : ∃ z, fu = z + 1 := ⟨fu - 1, by omega⟩
      have h2 := mea_le wf m (l.getD i 0)
      show B_Finder_firstOf_2 (L_Finder_firstOf_2 fu) _ _ _ _ = _
      unfold B_Finder_firstOf_2
      rw [hr.1, if_neg (nI_ge (by omega) (by omega)), hN, if_pos (show cls 1 = 4 by decide +kernel)]
      simp only [inb_ok (show i < 324 by omega) (show 324 < 2 ^ 31 by decide), if_true, nI_clamp (show i < 2 ^ 31 by omega), hr.2 i (by omega), nt_worth h wf hm (hg i (by omega)), Option.bind_some, nI_eq (show mea N m (l.getD i 0) < 2 ^ 31 by omega) hwo, nI_1]
      by_cases hc : mea N m (l.getD i 0) = wo
      · rw [if_pos hc]
        unfold fsI
        rw [first_at (show i < l.length by omega) (decide_eq_true hc) hno, if_pos (by omega)]
      · rw [if_neg hc]
        refine ih fu (i + 1) (by omega) (by omega) (fun j hj => ?_)
        by_cases e : j = i
        · rw [e]; exact decide_eq_false hc
        · exact hno j (by omega)
  exact lp l.length LF 0 (by omega) (by rw [LF_big]; omega) (fun j hj => absurd hj (Nat.not_lt_zero j))
def eaI (N : Nt) (m wo w0 : Nat) (g : Nat → Nat) : Nat → Nat
  | 0 => w0
  | k + 1 => if mea N m (g k) = wo then eaI N m wo w0 g k &&& g k else eaI N m wo w0 g k
def anI (N : Nt) (m wo : Nat) (g : Nat → Nat) : Nat → Nat
  | 0 => 0
  | k + 1 => if mea N m (g k) = wo then anI N m wo g k ||| g k else anI N m wo g k
theorem eaI_bit (N : Nt) (m wo w0 : Nat) (g : Nat → Nat) (i : Nat) : ∀ k, (eaI N m wo w0 g k).testBit i = true ↔ (w0.testBit i = true ∧ ∀ j, j < k → mea N m (g j) = wo → (g j).testBit i = true)
  | 0 => ⟨fun h => ⟨h, fun j hj => absurd hj (Nat.not_lt_zero j)⟩, fun h => h.1⟩
  | k + 1 => by
    have ih := eaI_bit N m wo w0 g i k
    show (if mea N m (g k) = wo then eaI N m wo w0 g k &&& g k else eaI N m wo w0 g k).testBit i = true ↔ _
    by_cases hc : mea N m (g k) = wo
    · rw [if_pos hc, Nat.testBit_and, Bool.and_eq_true, ih]
      constructor
      · rintro ⟨⟨h1, h2⟩, h3⟩
        refine ⟨h1, fun j hj hm => ?_⟩
        by_cases e : j = k
        · rw [e]; exact h3
        · exact h2 j (by omega) hm
      · rintro ⟨h1, h2⟩
        exact ⟨⟨h1, fun j hj hm => h2 j (by omega) hm⟩, h2 k (by omega) hc⟩
    · rw [if_neg hc, ih]
      constructor
      · rintro ⟨h1, h2⟩
        refine ⟨h1, fun j hj hm => ?_⟩
        by_cases e : j = k
        · rw [e] at hm; exact absurd hm hc
        · exact h2 j (by omega) hm
      · rintro ⟨h1, h2⟩
        exact ⟨h1, fun j hj hm => h2 j (by omega) hm⟩
theorem anI_bit (N : Nt) (m wo : Nat) (g : Nat → Nat) (i : Nat) : ∀ k, (anI N m wo g k).testBit i = true ↔ ∃ j, j < k ∧ mea N m (g j) = wo ∧ (g j).testBit i = true
  | 0 => by
    constructor
    · intro h
      rw [show anI N m wo g 0 = 0 from rfl, Nat.zero_testBit] at h
      exact absurd h (by decide)
    · rintro ⟨j, hj, _⟩
      exact absurd hj (Nat.not_lt_zero j)
  | k + 1 => by
    have ih := anI_bit N m wo g i k
    show (if mea N m (g k) = wo then anI N m wo g k ||| g k else anI N m wo g k).testBit i = true ↔ _
    by_cases hc : mea N m (g k) = wo
    · rw [if_pos hc, Nat.testBit_or, Bool.or_eq_true, ih]
      constructor
      · rintro (⟨j, h1, h2⟩ | h3)
        · exact ⟨j, by omega, h2⟩
        · exact ⟨k, by omega, hc, h3⟩
      · rintro ⟨j, h1, h2, h3⟩
        by_cases e : j = k
        · rw [e] at h3; exact Or.inr h3
        · exact Or.inl ⟨j, by omega, h2, h3⟩
    · rw [if_neg hc, ih]
      constructor
      · rintro ⟨j, h1, h2⟩
        exact ⟨j, by omega, h2⟩
      · rintro ⟨j, h1, h2, h3⟩
        by_cases e : j = k
        · rw [e] at h2; exact absurd h2 hc
        · exact ⟨j, by omega, h2, h3⟩
theorem fi_each {N : Nt} (wf : WfN N) {m wo w0 : Nat} (hm : m < 2) (hwo : wo < 2 ^ 31) {l : List Nat} (hl : l.length ≤ 324) (hg : ∀ i, i < l.length → l.getD i 0 < 2 ^ 64) {σ : Sto} (h : NetAt σ 1 N) (hN : gN σ = 1) (hr : RgC σ l) : f_Finder_inEach (nI m) (nI wo) (lN w0) σ = some (lN (eaI N m wo w0 (fun i => l.getD i 0) l.length), σ) := by
  have lp : ∀ (k fu i : Nat), i + k = l.length → k < fu → L_Finder_inEach_6 fu (nI m) (nI wo) (lN (eaI N m wo w0 (fun i => l.getD i 0) i)) (nI i) σ = some (lN (eaI N m wo w0 (fun i => l.getD i 0) l.length), σ) := by
    intro k
    induction k with
    | zero =>
      intro fu i hi hf
      obtain ⟨fu, rfl⟩ : ∃ z, fu = z + 1 := ⟨fu - 1, by omega⟩
      show B_Finder_inEach_6 (L_Finder_inEach_6 fu) _ _ _ _ _ = _
      unfold B_Finder_inEach_6
      rw [hr.1, if_pos (nI_le (by omega) (by omega)), show i = l.length by omega]
    | succ k ih =>
      intro fu i hi hf
      obtain ⟨fu, rfl⟩ : ∃ z, fu = z + 1 := ⟨fu - 1, by omega⟩
      have e := ih fu (i + 1) (by omega) (by omega)
      have h2 := mea_le wf m (l.getD i 0)
      rw [show eaI N m wo w0 (fun i => l.getD i 0) (i + 1) = if mea N m (l.getD i 0) = wo then eaI N m wo w0 (fun i => l.getD i 0) i &&& l.getD i 0 else eaI N m wo w0 (fun i => l.getD i 0) i from rfl] at e
      show B_Finder_inEach_6 (L_Finder_inEach_6 fu) _ _ _ _ _ = _
      unfold B_Finder_inEach_6
      rw [hr.1, if_neg (nI_ge (by omega) (by omega)), hN, if_pos (show cls 1 = 4 by decide +kernel)]
      simp only [inb_ok (show i < 324 by omega) (show 324 < 2 ^ 31 by decide), if_true, nI_clamp (show i < 2 ^ 31 by omega), hr.2 i (by omega), nt_worth h wf hm (hg i (by omega)), Option.bind_some, nI_eq (show mea N m (l.getD i 0) < 2 ^ 31 by omega) hwo, lt1_eq, fb_andL, nI_1]
      by_cases hc : mea N m (l.getD i 0) = wo
      · rw [if_pos hc]
        rw [if_pos hc] at e
        exact e
      · rw [if_neg hc]
        rw [if_neg hc] at e
        exact e
  exact lp l.length LF 0 (by omega) (by rw [LF_big]; omega)
theorem fi_any {N : Nt} (wf : WfN N) {m wo : Nat} (hm : m < 2) (hwo : wo < 2 ^ 31) {l : List Nat} (hl : l.length ≤ 324) (hg : ∀ i, i < l.length → l.getD i 0 < 2 ^ 64) {σ : Sto} (h : NetAt σ 1 N) (hN : gN σ = 1) (hr : RgC σ l) : f_Finder_inAny (nI m) (nI wo) σ = some (lN (anI N m wo (fun i => l.getD i 0) l.length), σ) := by
  have lp : ∀ (k fu i : Nat), i + k = l.length → k < fu → L_Finder_inAny_5 fu (nI m) (nI wo) (lN (anI N m wo (fun i => l.getD i 0) i)) (nI i) σ = some (lN (anI N m wo (fun i => l.getD i 0) l.length), σ) := by
    intro k
    induction k with
    | zero =>
      intro fu i hi hf
      obtain ⟨fu, rfl⟩ : ∃ z, fu = z + 1 := ⟨fu - 1, by omega⟩
      show B_Finder_inAny_5 (L_Finder_inAny_5 fu) _ _ _ _ _ = _
      unfold B_Finder_inAny_5
      rw [hr.1, if_pos (nI_le (by omega) (by omega)), show i = l.length by omega]
    | succ k ih =>
      intro fu i hi hf
      obtain ⟨fu, rfl⟩ : ∃ z, fu = z + 1 := ⟨fu - 1, by omega⟩
      have e := ih fu (i + 1) (by omega) (by omega)
      have h2 := mea_le wf m (l.getD i 0)
      rw [show anI N m wo (fun i => l.getD i 0) (i + 1) = if mea N m (l.getD i 0) = wo then anI N m wo (fun i => l.getD i 0) i ||| l.getD i 0 else anI N m wo (fun i => l.getD i 0) i from rfl] at e
      show B_Finder_inAny_5 (L_Finder_inAny_5 fu) _ _ _ _ _ = _
      unfold B_Finder_inAny_5
      rw [hr.1, if_neg (nI_ge (by omega) (by omega)), hN, if_pos (show cls 1 = 4 by decide +kernel)]
      simp only [inb_ok (show i < 324 by omega) (show 324 < 2 ^ 31 by decide), if_true, nI_clamp (show i < 2 ^ 31 by omega), hr.2 i (by omega), nt_worth h wf hm (hg i (by omega)), Option.bind_some, nI_eq (show mea N m (l.getD i 0) < 2 ^ 31 by omega) hwo, lt1_eq, fb_orL, nI_1]
      by_cases hc : mea N m (l.getD i 0) = wo
      · rw [if_pos hc]
        rw [if_pos hc] at e
        exact e
      · rw [if_neg hc]
        rw [if_neg hc] at e
        exact e
  exact lp l.length LF 0 (by omega) (by rw [LF_big]; omega)
theorem fi_many {N : Nt} (wf : WfN N) {m wo : Nat} (hm : m < 2) (hwo : wo < 2 ^ 31) {l : List Nat} (hl : l.length ≤ 324) (hg : ∀ i, i < l.length → l.getD i 0 < 2 ^ 64) {σ : Sto} (h : NetAt σ 1 N) (hN : gN σ = 1) (hr : RgC σ l) : f_Finder_howMany (nI m) (nI wo) σ = some (nI (fb_ct (fun i => decide (mea N m (l.getD i 0) = wo)) l.length), σ) := by
  have lp : ∀ (k fu i : Nat), i + k = l.length → k < fu → L_Finder_howMany_5 fu (nI m) (nI wo) (nI (fb_ct (fun i => decide (mea N m (l.getD i 0) = wo)) i)) (nI i) σ = some (nI (fb_ct (fun i => decide (mea N m (l.getD i 0) = wo)) l.length), σ) := by
    intro k
    induction k with
    | zero =>
      intro fu i hi hf
      obtain ⟨fu, rfl⟩ : ∃ z, fu = z + 1 := ⟨fu - 1, by omega⟩
      show B_Finder_howMany_5 (L_Finder_howMany_5 fu) _ _ _ _ _ = _
      unfold B_Finder_howMany_5
      rw [hr.1, if_pos (nI_le (by omega) (by omega)), show i = l.length by omega]
    | succ k ih =>
      intro fu i hi hf
      obtain ⟨fu, rfl⟩ : ∃ z, fu = z + 1 := ⟨fu - 1, by omega⟩
      have e := ih fu (i + 1) (by omega) (by omega)
      have h2 := mea_le wf m (l.getD i 0)
      rw [fb_ct_succ] at e
      show B_Finder_howMany_5 (L_Finder_howMany_5 fu) _ _ _ _ _ = _
      unfold B_Finder_howMany_5
      rw [hr.1, if_neg (nI_ge (by omega) (by omega)), hN, if_pos (show cls 1 = 4 by decide +kernel)]
      simp only [inb_ok (show i < 324 by omega) (show 324 < 2 ^ 31 by decide), if_true, nI_clamp (show i < 2 ^ 31 by omega), hr.2 i (by omega), nt_worth h wf hm (hg i (by omega)), Option.bind_some, nI_eq (show mea N m (l.getD i 0) < 2 ^ 31 by omega) hwo, nI_1]
      by_cases hc : mea N m (l.getD i 0) = wo
      · rw [if_pos hc]
        rw [if_pos (decide_eq_true hc)] at e
        exact e
      · rw [if_neg hc]
        rw [if_neg (by rw [decide_eq_false hc]; decide)] at e
        exact e
  exact lp l.length LF 0 (by omega) (by rw [LF_big]; omega)
