/-! fewest: the least number of loose classes -/
def ColV (r : Nat → Nat → Bool) (v : Nat) (f : Nat → Nat) (m : Nat) : Prop := (∀ a, v.testBit a = true → f a < m) ∧ ∀ a b, v.testBit a = true → v.testBit b = true → r a b = true → f a ≠ f b
def ChiV (r : Nat → Nat → Bool) (v x : Nat) : Prop := (∃ f, ColV r v f x) ∧ ∀ f m, ColV r v f m → x ≤ m
theorem ChiV.uniq {r : Nat → Nat → Bool} {v x y : Nat} (h1 : ChiV r v x) (h2 : ChiV r v y) : x = y := by
  obtain ⟨⟨f, hf⟩, h1b⟩ := h1
  obtain ⟨⟨g, hg⟩, h2b⟩ := h2
  exact Nat.le_antisymm (h1b g y hg) (h2b f x hf)
/-- no more pigeons than holes -/
theorem pigeon : ∀ (m n : Nat) (φ : Nat → Nat), (∀ i j, i < n → j < n → φ i = φ j → i = j) → (∀ i, i < n → φ i < m) → n ≤ m := by
  intro m
  induction m with
  | zero =>
    intro n φ _ h2
    rcases Nat.eq_zero_or_pos n with h | h
    · omega
    · exact absurd (h2 0 h) (Nat.not_lt_zero _)
  | succ m ih =>
    intro n φ h1 h2
    rcases Nat.eq_zero_or_pos n with h | h
    · omega
    obtain ⟨n, rfl⟩ : ∃ z, n = z + 1 := ⟨n - 1, by omega⟩
    have := ih n (fun i => if φ i = m then φ n else φ i) (fun i j hi hj (e : (if φ i = m then φ n else φ i) = (if φ j = m then φ n else φ j)) => by
      have ii := h1 i n (by omega) (by omega)
      have jj := h1 j n (by omega) (by omega)
      have ij := h1 i j (by omega) (by omega)
      by_cases a : φ i = m
      · by_cases b : φ j = m
        · exact ij (by rw [a, b])
        · rw [if_pos a, if_neg b] at e
          have := jj e.symm; omega
      · by_cases b : φ j = m
        · rw [if_neg a, if_pos b] at e
          have := ii e; omega
        · rw [if_neg a, if_neg b] at e
          exact ij e) (fun i hi => by
      have ii := h1 i n (by omega) (by omega)
      have u1 := h2 i (by omega)
      have u2 := h2 n (by omega)
      show (if φ i = m then φ n else φ i) < m
      by_cases a : φ i = m
      · rw [if_pos a]
        by_cases b : φ n = m
        · have := ii (by rw [a, b]); omega
        · omega
      · rw [if_neg a]; omega)
    omega
theorem nI_ltN {a b : Nat} (ha : a < 2 ^ 31) (hb : b < 2 ^ 31) : (nI a < nI b) ↔ a < b := by
  rw [Int32.lt_iff_toInt_lt, nI_toInt ha, nI_toInt hb]; omega
/-- the members in their order -/
def mbL (w p : Nat) : List Nat := (List.range p).filter (fun i => w.testBit i)
theorem mbL_s (w p : Nat) : mbL w (p + 1) = if w.testBit p = true then mbL w p ++ [p] else mbL w p := by
  unfold mbL
  rw [List.range_succ, List.filter_append]
  by_cases h : w.testBit p = true
  · rw [if_pos h]; simp [h]
  · rw [if_neg h]; simp [h]
theorem mbL_le (w p : Nat) : ∀ k, (mbL w p).length ≤ (mbL w (p + k)).length := by
  intro k
  induction k with
  | zero => exact Nat.le_refl _
  | succ k ih =>
    rw [show p + (k + 1) = (p + k) + 1 by omega, mbL_s]
    split
    · rw [List.length_append]; omega
    · exact ih
theorem mbL_len (w : Nat) : ∀ p, (mbL w p).length = pcK p w := by
  intro p
  induction p with
  | zero => rfl
  | succ p ih =>
    rw [mbL_s]
    unfold pcK
    rw [fb_ct_succ]
    unfold pcK at ih
    by_cases h : w.testBit p = true
    · rw [if_pos h, if_pos h, List.length_append, ih]; rfl
    · rw [if_neg h, if_neg h, ih]; rfl
theorem mbL_lt {w p i : Nat} (h : i < (mbL w p).length) : (mbL w p).getD i 0 < p := by
  exact getD_lt (fun q hq => List.mem_range.1 (List.mem_filter.1 hq).1) h
/-- which members fit -/
def mR (N : Nt) (s w : Nat) (a b : Nat) : Bool := rl N s ((mbL w (n_n N)).getD a 0) ((mbL w (n_n N)).getD b 0)
theorem mR_sym {N : Nt} (wf : WfN N) {s w a b : Nat} (ha : a < (mbL w (n_n N)).length) (hb : b < (mbL w (n_n N)).length) : mR N s w a b = mR N s w b a := rl_sym wf (mbL_lt ha) (mbL_lt hb)
theorem mR_irr {N : Nt} (wf : WfN N) {s w a : Nat} (ha : a < (mbL w (n_n N)).length) : mR N s w a a = false := rl_irr wf (mbL_lt ha)
theorem all_bt {k a : Nat} : (2 ^ k - 1).testBit a = true ↔ a < k := by
  rw [Nat.testBit_two_pow_sub_one]; simp
/-! the class: parts tried one after the other -/
def k30 (c j : Nat) : Bool := !(decide (c = 26) && decide (j = 8) || decide (c = 30))
theorem k30_t {c j : Nat} (h : ¬ (c = 26 ∧ j = 8) ∧ c ≠ 30) : k30 c j = true := by
  unfold k30
  simp only [Bool.not_eq_true', Bool.or_eq_false_iff, Bool.and_eq_false_iff, decide_eq_false_iff_not]
  omega
theorem k30_f {c j : Nat} (h : (c = 26 ∧ j = 8) ∨ c = 30) : k30 c j = false := by
  unfold k30
  rcases h with ⟨rfl, rfl⟩ | rfl <;> simp
theorem Scr.k30F {σ σ' : Sto} (hs : Scr k30 σ σ') : Scr kF σ σ' := fun c j h => hs c j (by
  apply k30_t
  revert h
  unfold kF
  simp only [Bool.not_eq_true', Bool.and_eq_false_iff, decide_eq_false_iff_not]
  omega)
def FwS (N : Nt) (s w : Nat) (σ : Sto) : Prop := NetAt σ 1 N ∧ gN σ = 1 ∧ gI σ 26 3 = nI s ∧ gI σ 26 7 = nI (mbL w (n_n N)).length ∧ ∀ i, i < (mbL w (n_n N)).length → gI σ 29 i = nI ((mbL w (n_n N)).getD i 0)
theorem FwS.scr {N : Nt} {s w : Nat} {σ σ' : Sto} (h : FwS N s w σ) (hs : Scr k30 σ σ') (hg : gN σ' = gN σ) : FwS N s w σ' := by
  obtain ⟨h1, h2, h3, h4, h5⟩ := h
  exact ⟨h1.kF (by omega) hs.k30F, by rw [hg]; exact h2, by rw [(hs 26 3 (k30_t (by omega))).1]; exact h3, by rw [(hs 26 7 (k30_t (by omega))).1]; exact h4, fun i hi => by rw [(hs 29 i (k30_t (by omega))).1]; exact h5 i hi⟩
/-- a beginning of a parting: at members in pt parts -/
def Pt (N : Nt) (s w : Nat) (at_ pt : Nat) (c f : Nat → Nat) : Prop := (∀ i, i < pt → c i < 2 ^ 64 ∧ ∀ q, (c i).testBit q = true ↔ ∃ a, a < at_ ∧ f a = i ∧ (mbL w (n_n N)).getD a 0 = q) ∧ (∀ a, a < at_ → f a < pt) ∧ ∀ a b, a < at_ → b < at_ → mR N s w a b = true → f a ≠ f b
/-- a colouring that goes on from it -/
def Ext (N : Nt) (s w : Nat) (at_ pt : Nat) (f g φ : Nat → Nat) (m : Nat) : Prop := ColV (mR N s w) (2 ^ (mbL w (n_n N)).length - 1) g m ∧ (∀ i j, i < pt → j < pt → φ i = φ j → i = j) ∧ (∀ a, a < at_ → g a = φ (f a)) ∧ ∀ i, i < pt → φ i < m
/-- what one trial comes to -/
def Got (N : Nt) (s w : Nat) (b b' : Nat) : Prop := b' ≤ b ∧ (b' = b ∨ ∃ g, ColV (mR N s w) (2 ^ (mbL w (n_n N)).length - 1) g b')
theorem Got.rf {N : Nt} {s w b : Nat} : Got N s w b b := ⟨Nat.le_refl _, Or.inl rfl⟩
theorem Got.tr {N : Nt} {s w a b c : Nat} (h1 : Got N s w a b) (h2 : Got N s w b c) : Got N s w a c := by
  refine ⟨Nat.le_trans h2.1 h1.1, ?_⟩
  rcases h2.2 with e | e
  · rw [e]; exact h1.2
  · exact Or.inr e
/-- a member goes into part i -/
theorem Pt.put {N : Nt} (wf : WfN N) {s w at_ pt i ci : Nat} {c f : Nat → Nat} (h : Pt N s w at_ pt c f) (hk : at_ < (mbL w (n_n N)).length) (hi : i ≤ pt) (hci : ci = if i < pt then c i else 0) (hfit : fit N s ((mbL w (n_n N)).getD at_ 0) ci = 0) : Pt N s w (at_ + 1) (max pt (i + 1)) (fun j => if j = i then ci ||| 2 ^ (mbL w (n_n N)).getD at_ 0 else c j) (fun a => if a = at_ then i else f a) := by
  obtain ⟨h1, h2, h3⟩ := h
  have hn := wf.1
  have hlt := mbL_lt hk
  have key : ∀ a, a < at_ → f a = i → mR N s w at_ a = false := fun a ha e => by
    have hip : i < pt := by rw [← e]; exact h2 a ha
    have hb : ci.testBit ((mbL w (n_n N)).getD a 0) = true := by
      rw [hci, if_pos hip]; exact ((h1 i hip).2 _).2 ⟨a, ha, e, rfl⟩
    have := fit_rl (N := N) (s := s) (p := (mbL w (n_n N)).getD at_ 0) (w := ci) (i := (mbL w (n_n N)).getD a 0)
    rw [hfit, Nat.zero_testBit, hb, Bool.true_and] at this
    exact this.symm
  refine ⟨fun j hj => ?_, fun a ha => ?_, fun a b ha hb hr => ?_⟩
  · by_cases e : j = i
    · subst e
      simp only [if_true]
      refine ⟨or_lt ?_ (pow_lt (by omega)), fun q => ?_⟩
      · rw [hci]; split
        · rename_i z; exact (h1 _ z).1
        · exact Nat.two_pow_pos _
      · rw [or1_bit, Bool.or_eq_true, decide_eq_true_eq]
        constructor
        · rintro (z | z)
          · rw [hci] at z
            by_cases y : j < pt
            · rw [if_pos y] at z
              obtain ⟨a, a1, a2, a3⟩ := ((h1 j y).2 q).1 z
              exact ⟨a, by omega, by rw [if_neg (by omega)]; exact a2, a3⟩
            · rw [if_neg y, Nat.zero_testBit] at z; cases z
          · exact ⟨at_, by omega, if_pos rfl, z.symm⟩
        · rintro ⟨a, a1, a2, a3⟩
          by_cases y : a = at_
          · right; rw [← a3, y]
          · rw [if_neg y] at a2
            have hip : j < pt := by rw [← a2]; exact h2 a (by omega)
            left
            rw [hci, if_pos hip]; exact ((h1 j hip).2 q).2 ⟨a, by omega, a2, a3⟩
    · simp only [if_neg e]
      have hjp : j < pt := by omega
      refine ⟨(h1 j hjp).1, fun q => ?_⟩
      rw [(h1 j hjp).2 q]
      constructor
      · rintro ⟨a, a1, a2, a3⟩
        exact ⟨a, by omega, by rw [if_neg (by omega)]; exact a2, a3⟩
      · rintro ⟨a, a1, a2, a3⟩
        by_cases y : a = at_
        · rw [if_pos y] at a2; exact absurd a2.symm e
        · rw [if_neg y] at a2; exact ⟨a, by omega, a2, a3⟩
  · show (if a = at_ then i else f a) < _
    by_cases e : a = at_
    · rw [if_pos e]; omega
    · rw [if_neg e]; have := h2 a (by omega); omega
  · show (if a = at_ then i else f a) ≠ (if b = at_ then i else f b)
    by_cases e : a = at_
    · by_cases e2 : b = at_
      · rw [e, e2, mR_irr wf hk] at hr; cases hr
      · rw [if_pos e, if_neg e2]
        intro z
        rw [e, key b (by omega) z.symm] at hr; cases hr
    · by_cases e2 : b = at_
      · rw [if_neg e, if_pos e2]
        intro z
        rw [e2, mR_sym wf (by omega) hk, key a (by omega) z] at hr; cases hr
      · rw [if_neg e, if_neg e2]; exact h3 a b (by omega) (by omega) hr
theorem fi_part {N : Nt} (wf : WfN N) {s w : Nat} (hs : s < 2) (h10 : (mbL w (n_n N)).length ≤ 10) : ∀ (F at_ pt : Nat) (σ : Sto) (c f : Nat → Nat) (b : Nat), (mbL w (n_n N)).length < at_ + F → at_ ≤ (mbL w (n_n N)).length → pt ≤ at_ → FwS N s w σ → gI σ 26 8 = nI b → b ≤ 10 → (∀ i, i < pt → gL σ 30 i = lN (c i)) → Pt N s w at_ pt c f →
    ∃ σ' b', f_Finder_part F (nI at_) (nI pt) σ = some ((), σ') ∧ gI σ' 26 8 = nI b' ∧ Got N s w b b' ∧ (∀ g φ m, Ext N s w at_ pt f g φ m → b' ≤ m) ∧ (∀ i, i < pt → gL σ' 30 i = lN (c i)) ∧ gN σ' = gN σ ∧ Scr k30 σ σ' := by
  intro F
  have hn := wf.1
  induction F with
  | zero => intro at_ pt σ c f b h1 h2; omega
  | succ F ih =>
    intro at_ pt σ c f b hF hat hpt hS hb hb10 hc hP
    have e0 : f_Finder_part (F + 1) (nI at_) (nI pt) σ = if pt < b then (if (mbL w (n_n N)).length ≤ at_ then some ((), (sI σ 26 8 (nI pt))) else L_Finder_part_41 (f_Finder_part F) LF (nI at_) (nI pt) (lN (2 ^ (mbL w (n_n N)).getD at_ 0)) (nI 0) σ) else some ((), σ) := by
      show B_Finder_part_0 (f_Finder_part F) _ _ _ = _
      unfold B_Finder_part_0
      simp only [hb, nI_ltN (show pt < 2 ^ 31 by omega) (show b < 2 ^ 31 by omega), hS.2.2.2.1, nI_leI (show (mbL w (n_n N)).length < 2 ^ 31 by omega) (show at_ < 2 ^ 31 by omega)]
      by_cases z : (mbL w (n_n N)).length ≤ at_
      · rw [if_pos z, if_pos z]
      · rw [if_neg z, if_neg z, if_pos (show nI at_ < (10 : Int32) from (nI_ltN (b := 10) (by omega) (by decide)).2 (by omega)), if_pos (inb_ok (show at_ < 10 by omega) (by decide)), lt1_eq, nI_clamp (by omega), hS.2.2.2.2 at_ (by omega), lsh_1 (by have := mbL_lt (show at_ < (mbL w (n_n N)).length by omega); omega)]
        rfl
    rw [e0]
    by_cases hlt : pt < b
    rotate_left
    · rw [if_neg hlt]
      refine ⟨σ, b, rfl, hb, Got.rf, fun g φ m hE => ?_, hc, rfl, Scr.rf⟩
      have := pigeon m pt φ hE.2.1 hE.2.2.2
      omega
    rw [if_pos hlt]
    by_cases hend : (mbL w (n_n N)).length ≤ at_
    · rw [if_pos hend]
      have eat : at_ = (mbL w (n_n N)).length := by omega
      refine ⟨_, pt, rfl, g_sI_eq _ _ _ _, ⟨by omega, Or.inr ⟨f, fun a ha => hP.2.1 a (by rw [eat]; exact all_bt.1 ha), fun a b' ha hb' hr => hP.2.2 a b' (by rw [eat]; exact all_bt.1 ha) (by rw [eat]; exact all_bt.1 hb') hr⟩⟩, fun g φ m hE => pigeon m pt φ hE.2.1 hE.2.2.2, fun i hi => hc i hi, rfl, Scr.sI (k30_f (by omega))⟩
    rw [if_neg hend]
    have hk : at_ < (mbL w (n_n N)).length := by omega
    have hlt2 := mbL_lt hk
    have lp : ∀ (q fu i : Nat) (τ : Sto) (b : Nat), i + q = pt + 1 → q < fu → FwS N s w τ → gI τ 26 8 = nI b → b ≤ 10 → (∀ j, j < pt → gL τ 30 j = lN (c j)) → ∃ σ' b', L_Finder_part_41 (f_Finder_part F) fu (nI at_) (nI pt) (lN (2 ^ (mbL w (n_n N)).getD at_ 0)) (nI i) τ = some ((), σ') ∧ gI σ' 26 8 = nI b' ∧ Got N s w b b' ∧ (∀ g φ m, Ext N s w at_ pt f g φ m → ((∃ j, i ≤ j ∧ j < pt ∧ g at_ = φ j) ∨ ((∀ j, j < pt → g at_ ≠ φ j) ∧ i ≤ pt)) → b' ≤ m) ∧ (∀ j, j < pt → gL σ' 30 j = lN (c j)) ∧ gN σ' = gN τ ∧ Scr k30 τ σ' := by
      intro q
      induction q with
      | zero =>
        intro fu i τ b hi hf hT hb hb10 hc
        obtain ⟨fu, rfl⟩ : ∃ z, fu = z + 1 := ⟨fu - 1, by omega⟩
        refine ⟨τ, b, ?_, hb, Got.rf, fun g φ m hE hor => ?_, hc, rfl, Scr.rf⟩
        · show B_Finder_part_41 _ (L_Finder_part_41 _ fu) _ _ _ _ _ = _
          unfold B_Finder_part_41
          rw [if_pos ((nI_ltN (by omega) (by omega)).2 (by omega))]
        · rcases hor with ⟨j, j1, j2, _⟩ | ⟨_, j2⟩ <;> omega
      | succ q ihq =>
        intro fu i τ b hi hf hT hb hb10 hc
        obtain ⟨fu, rfl⟩ : ∃ z, fu = z + 1 := ⟨fu - 1, by omega⟩
        obtain ⟨ci, hci⟩ : ∃ ci, ci = if i < pt then c i else 0 := ⟨_, rfl⟩
        have hci64 : ci < 2 ^ 64 := by
          rw [hci]; split
          · rename_i z; exact (hP.1 _ z).1
          · exact Nat.two_pow_pos _
        have e1 : L_Finder_part_41 (f_Finder_part F) (fu + 1) (nI at_) (nI pt) (lN (2 ^ (mbL w (n_n N)).getD at_ 0)) (nI i) τ = if fit N s ((mbL w (n_n N)).getD at_ 0) ci = 0 then ((f_Finder_part F (nI (at_ + 1)) (nI (max pt (i + 1))) (sL τ 30 i (lN (ci ||| 2 ^ (mbL w (n_n N)).getD at_ 0)))).bind fun q4 => L_Finder_part_41 (f_Finder_part F) fu (nI at_) (nI pt) (lN (2 ^ (mbL w (n_n N)).getD at_ 0)) (nI (i + 1)) (sL q4.2 30 i (lN ci))) else L_Finder_part_41 (f_Finder_part F) fu (nI at_) (nI pt) (lN (2 ^ (mbL w (n_n N)).getD at_ 0)) (nI (i + 1)) τ := by
          have e2 : L_Finder_part_41 (f_Finder_part F) (fu + 1) (nI at_) (nI pt) (lN (2 ^ (mbL w (n_n N)).getD at_ 0)) (nI i) τ = B_Finder_part_71 (f_Finder_part F) (L_Finder_part_41 (f_Finder_part F) fu) (nI at_) (nI pt) (lN (2 ^ (mbL w (n_n N)).getD at_ 0)) (nI i) (lN ci) τ := by
            show B_Finder_part_41 _ (L_Finder_part_41 _ fu) _ _ _ _ _ = _
            unfold B_Finder_part_41
            rw [if_neg (fun z => by have := (nI_ltN (by omega) (by omega)).1 z; omega), if_neg (show ¬ ((10 : Int32) ≤ nI i) from nI_ge (b := 10) (by omega) (by decide))]
            by_cases y : i < pt
            · rw [if_neg (nI_ge y (by omega)), if_pos (inb_ok (show i < 10 by omega) (by decide)), nI_clamp (by omega), hc i y, hci, if_pos y]
            · rw [if_pos (nI_le (by omega) (by omega)), hci, if_neg y]; rfl
          rw [e2]
          unfold B_Finder_part_71
          rw [hT.2.1, if_pos (show cls 1 = 4 by decide +kernel), if_pos (inb_ok (show at_ < 10 by omega) (by decide)), hT.2.2.1, nI_clamp (by omega), hT.2.2.2.2 at_ hk, nt_fitting hT.1 wf hs hlt2 hci64, Option.bind_some]
          simp only [lN_eq0 (fit_lt hci64), inb_ok (show i < 10 by omega) (show 10 < 2 ^ 31 by decide), if_true, nI_clamp (show i < 2 ^ 31 by omega), nI_1, fb_orL, mxI_N (show pt < 2 ^ 31 by omega) (show i + 1 < 2 ^ 31 by omega)]
        rw [e1]
        by_cases hfit : fit N s ((mbL w (n_n N)).getD at_ 0) ci = 0
        · rw [if_pos hfit]
          have hP' := hP.put wf hk (show i ≤ pt by omega) hci hfit
          obtain ⟨σ1, b1, x1, x2, x3, x4, x5, x6, x7⟩ := ih (at_ + 1) (max pt (i + 1)) (sL τ 30 i (lN (ci ||| 2 ^ (mbL w (n_n N)).getD at_ 0))) _ _ b (by omega) (by omega) (by omega) (hT.scr (Scr.sL (k30_f (by omega))) rfl) hb hb10 (fun j hj => by
            by_cases e : j = i
            · rw [e, g_sL_eq, if_pos rfl]
            · rw [g_sL_ne (by omega), if_neg e]; exact hc j (by omega)) hP'
          have sc : Scr k30 τ (sL σ1 30 i (lN ci)) := ((Scr.sL (k30_f (by omega))).tr x7).tr (Scr.sL (k30_f (by omega)))
          obtain ⟨σ', b', y1, y2, y3, y4, y5, y6, y7⟩ := ihq fu (i + 1) (sL σ1 30 i (lN ci)) b1 (by omega) (by omega) (hT.scr sc x6) x2 (by have := x3.1; omega) (fun j hj => by
            by_cases e : j = i
            · rw [e, g_sL_eq, hci, if_pos (by omega)]
            · rw [g_sL_ne (by omega), x5 j (by omega), if_neg e])
          refine ⟨σ', b', by rw [x1, Option.bind_some]; exact y1, y2, x3.tr y3, fun g φ m hE hor => ?_, y5, y6.trans x6, sc.tr y7⟩
          have hb1 : b1 ≤ m → b' ≤ m := fun z => Nat.le_trans y3.1 z
          obtain ⟨E1, E2, E3, E4⟩ := hE
          rcases hor with ⟨j, j1, j2, j3⟩ | ⟨j1, j2⟩
          · by_cases e : j = i
            · subst e
              apply hb1
              apply x4 g φ m
              rw [Nat.max_eq_left (by omega)]
              refine ⟨E1, E2, fun a ha => ?_, E4⟩
              by_cases ea : a = at_
              · show g a = φ (if a = at_ then j else f a)
                rw [if_pos ea, ea]; exact j3
              · show g a = φ (if a = at_ then j else f a)
                rw [if_neg ea]; exact E3 a (by omega)
            · exact y4 g φ m ⟨E1, E2, E3, E4⟩ (Or.inl ⟨j, by omega, j2, j3⟩)
          · by_cases e : i = pt
            · subst e
              apply hb1
              apply x4 g (fun j => if j = i then g at_ else φ j) m
              rw [Nat.max_eq_right (by omega)]
              refine ⟨E1, fun x y hx hy hxy => ?_, fun a ha => ?_, fun x hx => ?_⟩
              · simp only [] at hxy
                by_cases ex : x = i
                · by_cases ey : y = i
                  · omega
                  · rw [if_pos ex, if_neg ey] at hxy
                    exact absurd hxy (j1 y (by omega))
                · by_cases ey : y = i
                  · rw [if_neg ex, if_pos ey] at hxy
                    exact absurd hxy.symm (j1 x (by omega))
                  · rw [if_neg ex, if_neg ey] at hxy
                    exact E2 x y (by omega) (by omega) hxy
              · by_cases ea : a = at_
                · simp only [if_pos ea, if_true]; rw [ea]
                · have := hP.2.1 a (by omega)
                  simp only [if_neg ea]
                  rw [if_neg (by omega)]; exact E3 a (by omega)
              · show (if x = i then g at_ else φ x) < m
                by_cases ex : x = i
                · rw [if_pos ex]; exact E1.1 at_ (all_bt.2 hk)
                · rw [if_neg ex]; exact E4 x (by omega)
            · exact y4 g φ m ⟨E1, E2, E3, E4⟩ (Or.inr ⟨j1, by omega⟩)
        · rw [if_neg hfit]
          obtain ⟨σ', b', y1, y2, y3, y4, y5, y6, y7⟩ := ihq fu (i + 1) τ b (by omega) (by omega) hT hb hb10 hc
          refine ⟨σ', b', y1, y2, y3, fun g φ m hE hor => ?_, y5, y6, y7⟩
          rcases hor with ⟨j, j1, j2, j3⟩ | ⟨j1, j2⟩
          · by_cases e : j = i
            · exfalso
              subst e
              apply hfit
              apply fit_zero
              intro x hx
              rw [hci, if_pos j2] at hx
              obtain ⟨a, a1, a2, a3⟩ := ((hP.1 j j2).2 x).1 hx
              have ga : g a = g at_ := by rw [hE.2.2.1 a a1, a2, j3]
              cases hr : mR N s w at_ a with
              | true => exact absurd ga.symm (hE.1.2 at_ a (all_bt.2 hk) (all_bt.2 (by omega)) hr)
              | false => rw [← a3]; exact hr
            · exact y4 g φ m hE (Or.inl ⟨j, by omega, j2, j3⟩)
          · by_cases e : i = pt
            · exfalso
              apply hfit
              rw [hci, if_neg (by omega)]
              exact fit_zero (fun x hx => by rw [Nat.zero_testBit] at hx; cases hx)
            · exact y4 g φ m hE (Or.inr ⟨j1, by omega⟩)
    obtain ⟨σ', b', y1, y2, y3, y4, y5, y6, y7⟩ := lp (pt + 1) LF 0 σ b (by omega) (by rw [LF_big]; omega) hS hb hb10 hc
    refine ⟨σ', b', y1, y2, y3, fun g φ m hE => y4 g φ m hE ?_, y5, y6, y7⟩
    by_cases hz : ∃ j, j < pt ∧ g at_ = φ j
    · obtain ⟨j, j1, j2⟩ := hz
      exact Or.inl ⟨j, by omega, j1, j2⟩
    · exact Or.inr ⟨fun j hj e => hz ⟨j, hj, e⟩, by omega⟩
theorem getD_snoc {l : List Nat} {p i : Nat} (h : i < l.length + 1) : (l ++ [p]).getD i 0 = if i = l.length then p else l.getD i 0 := by
  rw [List.getD_eq_getElem?_getD, List.getD_eq_getElem?_getD]
  by_cases e : i = l.length
  · subst e
    rw [if_pos rfl, List.getElem?_append_right (Nat.le_refl _), Nat.sub_self]; rfl
  · rw [if_neg e, List.getElem?_append_left (by omega)]
theorem fi_fewest {N : Nt} (wf : WfN N) {s w : Nat} (hs : s < 2) (hw : w < 2 ^ n_n N) (h10 : (mbL w (n_n N)).length ≤ 10) {σ : Sto} (h : NetAt σ 1 N) : ∃ σ' x, f_Finder_fewestParts 1 (nI s) (lN w) σ = some (nI x, σ') ∧ ChiV (mR N s w) (2 ^ (mbL w (n_n N)).length - 1) x ∧ Scr kF σ σ' := by
  have hn := wf.1
  have hw64 := lt64 wf hw
  have lp : ∀ (k fu p : Nat) (τ : Sto), p + k = n_n N → k < fu → NetAt τ 1 N → gN τ = 1 → gI τ 26 3 = nI s → gI τ 26 7 = nI (mbL w p).length → (∀ i, i < (mbL w p).length → gI τ 29 i = nI ((mbL w p).getD i 0)) → ∃ σ' x, L_Finder_fewestParts_18 fu (lN w) (nI p) τ = some (nI x, σ') ∧ ChiV (mR N s w) (2 ^ (mbL w (n_n N)).length - 1) x ∧ Scr kF τ σ' := by
    intro k
    induction k with
    | zero =>
      intro fu p τ hp hf hN hg h3 h7 h29
      obtain ⟨fu, rfl⟩ : ∃ z, fu = z + 1 := ⟨fu - 1, by omega⟩
      have ep : p = n_n N := by omega
      subst ep
      have hS : FwS N s w (sI τ 26 8 (gI τ 26 7)) := ⟨hN.scr (fun c j a b => g_sI_ne (by omega)) (fun j => rfl), hg, by rw [g_sI_ne (by omega)]; exact h3, by rw [g_sI_ne (by omega)]; exact h7, fun i hi => by rw [g_sI_ne (by omega)]; exact h29 i hi⟩
      obtain ⟨σ', b', x1, x2, x3, x4, _, _, x7⟩ := fi_part wf hs h10 64 0 0 (sI τ 26 8 (gI τ 26 7)) (fun _ => 0) (fun _ => 0) (mbL w (n_n N)).length (by omega) (by omega) (by omega) hS (by rw [g_sI_eq]; exact h7) h10 (fun i hi => absurd hi (Nat.not_lt_zero i)) ⟨fun i hi => absurd hi (Nat.not_lt_zero i), fun i hi => absurd hi (Nat.not_lt_zero i), fun i _ hi => absurd hi (Nat.not_lt_zero i)⟩
      refine ⟨σ', b', ?_, ⟨?_, fun f m hC => x4 f id m ⟨hC, fun i _ hi => absurd hi (Nat.not_lt_zero i), fun i hi => absurd hi (Nat.not_lt_zero i), fun i hi => absurd hi (Nat.not_lt_zero i)⟩⟩, (Scr.sI (kF_f (by omega))).tr x7.k30F⟩
      · show B_Finder_fewestParts_18 (L_Finder_fewestParts_18 fu) _ _ _ = _
        unfold B_Finder_fewestParts_18
        rw [hg, if_pos (show cls 1 = 4 by decide +kernel), hN.1, if_pos (nI_le (by omega) (by omega)), show f_Finder_part 64 0 0 (sI τ 26 8 (gI τ 26 7)) = _ from x1, Option.bind_some, x2]
      · rcases x3.2 with e | e
        · refine ⟨fun a => a, fun a ha => by rw [e]; exact all_bt.1 ha, fun a b ha hb hr z => ?_⟩
          have z' : a = b := z
          rw [z', mR_irr wf (all_bt.1 hb)] at hr; cases hr
        · exact e
    | succ k ih =>
      intro fu p τ hp hf hN hg h3 h7 h29
      obtain ⟨fu, rfl⟩ : ∃ z, fu = z + 1 := ⟨fu - 1, by omega⟩
      have hle := mbL_le w (p + 1) k
      rw [show p + 1 + k = n_n N by omega, mbL_s] at hle
      have e0 : L_Finder_fewestParts_18 (fu + 1) (lN w) (nI p) τ = if w.testBit p = true then L_Finder_fewestParts_18 fu (lN w) (nI (p + 1)) (sI (sI τ 29 (mbL w p).length (nI p)) 26 7 (nI ((mbL w p).length + 1))) else L_Finder_fewestParts_18 fu (lN w) (nI (p + 1)) τ := by
        show B_Finder_fewestParts_18 (L_Finder_fewestParts_18 fu) _ _ _ = _
        unfold B_Finder_fewestParts_18
        rw [hg, if_pos (show cls 1 = 4 by decide +kernel), hN.1, if_neg (nI_ge (by omega) (by omega)), nt_isOf hw64 (by omega), Option.bind_some]
        cases hb : w.testBit p with
        | false => rw [ite_bf, if_neg (by decide), nI_1]
        | true =>
          rw [hb, if_pos rfl, List.length_append, show ([p] : List Nat).length = 1 from rfl] at hle
          rw [ite_bt, if_pos rfl]
          simp only [h7]
          rw [if_neg (show ¬ ((10 : Int32) ≤ nI (mbL w p).length) from nI_ge (b := 10) (by omega) (by decide)), if_pos (inb_ok (show (mbL w p).length < 10 by omega) (by decide)), lt1_eq, nI_clamp (by omega), g_sI_ne (by omega), h7, nI_1, nI_1]
      rw [e0]
      by_cases hb : w.testBit p = true
      · rw [if_pos hb]
        have eL : mbL w (p + 1) = mbL w p ++ [p] := by rw [mbL_s, if_pos hb]
        obtain ⟨σ', x, a1, a2, a3⟩ := ih fu (p + 1) (sI (sI τ 29 (mbL w p).length (nI p)) 26 7 (nI ((mbL w p).length + 1))) (by omega) (by omega) (hN.scr (fun c j a b => by rw [g_sI_ne (by omega), g_sI_ne (by omega)]) (fun j => rfl)) hg (by rw [g_sI_ne (by omega), g_sI_ne (by omega)]; exact h3) (by rw [g_sI_eq, eL, List.length_append]; rfl) (fun i hi => by
          rw [eL, List.length_append] at hi
          have hi' : i < (mbL w p).length + 1 := hi
          rw [g_sI_ne (by omega), eL, getD_snoc hi']
          by_cases e : i = (mbL w p).length
          · rw [if_pos e, e, g_sI_eq]
          · rw [if_neg e, g_sI_ne (by omega)]; exact h29 i (by omega))
        exact ⟨σ', x, a1, a2, ((Scr.sI (kF_f (by omega))).tr (Scr.sI (kF_f (by omega)))).tr a3⟩
      · rw [if_neg hb]
        have eL : mbL w (p + 1) = mbL w p := by rw [mbL_s, if_neg hb]
        exact ih fu (p + 1) τ (by omega) (by omega) hN hg h3 (by rw [eL]; exact h7) (by rw [eL]; exact h29)
  obtain ⟨σ', x, a1, a2, a3⟩ := lp (n_n N) LF 0 (sI (sI (sN σ 1) 26 3 (nI s)) 26 7 (nI 0)) (by omega) (by rw [LF_big]; omega) (h.scr (fun c j a b => by rw [g_sI_ne (by omega), g_sI_ne (by omega)]; rfl) (fun j => rfl)) rfl (by rw [g_sI_ne (by omega), g_sI_eq]) (by rw [g_sI_eq]; rfl) (fun i hi => absurd hi (Nat.not_lt_zero i))
  exact ⟨σ', x, a1, a2, (Scr.sN.tr ((Scr.sI (kF_f (by omega))).tr (Scr.sI (kF_f (by omega))))).tr a3⟩
