/-! fewest: the reference's sets -/
theorem andI (a b : Nat) : nI a &&& nI b = nI (a &&& b) := by
  apply Int32.toBitVec_inj.mp
  show BitVec.ofNat 32 a &&& BitVec.ofNat 32 b = BitVec.ofNat 32 (a &&& b)
  apply BitVec.eq_of_getLsbD_eq
  intro i hi
  simp [BitVec.getLsbD_and, BitVec.getLsbD_ofNat, Nat.testBit_and, hi]
theorem lowI : ∀ v, v < 1024 → v = 0 ∨ ∃ a, a < 10 ∧ v.testBit a = true ∧ nI v &&& -(nI v) = nI (2 ^ a) := by decide +kernel
theorem ishI : ∀ k, k < 11 → ish 1 (nI k) = nI (2 ^ k) := by decide +kernel
theorem sub_le {a b : Nat} (h : subN a b) : a ≤ b := by
  have : a &&& b = a := bx (fun i => by
    rw [Nat.testBit_and]
    cases hb : a.testBit i with
    | false => rfl
    | true => rw [h i hb]; rfl)
  rw [← this]; exact Nat.and_le_right
/-- the next lower part of v behind x -/
theorem sub_next : ∀ (n t x v : Nat), v < 2 ^ n → subN t v → subN x v → t < x → t ≤ (x - 1) &&& v := by
  intro n
  induction n with
  | zero =>
    intro t x v hv ht hx hlt
    have := sub_le hx
    rw [Nat.pow_zero] at hv
    omega
  | succ n ih =>
    intro t x v hv ht hx hlt
    have dv : ∀ {a b : Nat}, subN a b → subN (a / 2) (b / 2) := fun {a b} h i hi => by
      rw [Nat.testBit_div_two] at hi ⊢; exact h _ hi
    have m2 : ∀ {a b : Nat}, subN a b → a % 2 ≤ b % 2 := fun {a b} h => by
      have := h 0
      rw [Nat.testBit_zero, Nat.testBit_zero, decide_eq_true_eq, decide_eq_true_eq] at this
      omega
    have ht0 := m2 ht
    have hx0 := m2 hx
    have e : (x - 1 &&& v) = 2 * (((x - 1) / 2) &&& (v / 2)) + (x - 1 &&& v) % 2 := by
      rw [← Nat.and_div_two]; omega
    rw [e]
    by_cases h0 : x % 2 = 1
    · have e1 : (x - 1) / 2 = x / 2 := by omega
      have e2 : x / 2 &&& v / 2 = x / 2 := bx (fun i => by
        rw [Nat.testBit_and]
        cases hb : (x / 2).testBit i with
        | false => rfl
        | true => rw [dv hx i hb]; rfl)
      rw [e1, e2]
      omega
    · have e1 : (x - 1) / 2 = x / 2 - 1 := by omega
      have h1 := ih (t / 2) (x / 2) (v / 2) (by rw [Nat.pow_succ] at hv; omega) (dv ht) (dv hx) (by omega)
      rw [e1]
      have h2 : (x - 1 &&& v) % 2 = v % 2 := by
        have := Nat.testBit_and (x - 1) v 0
        rw [Nat.testBit_zero, Nat.testBit_zero, Nat.testBit_zero, decide_eq_true (show (x - 1) % 2 = 1 by omega), Bool.true_and] at this
        have := decide_eq_decide.1 this
        omega
      rw [h2]
      omega
theorem mk_set (P : Nat → Bool) : ∀ n, ∃ t, t < 2 ^ n ∧ ∀ i, t.testBit i = (decide (i < n) && P i) := by
  intro n
  induction n with
  | zero => exact ⟨0, by decide, fun i => by simp⟩
  | succ n ih =>
    obtain ⟨t, h1, h2⟩ := ih
    cases hP : P n with
    | true =>
      refine ⟨t ||| 2 ^ n, or_lt (Nat.lt_of_lt_of_le h1 (two_pow_le (by omega))) (pow_lt (by omega)), fun i => ?_⟩
      rw [or1_bit, h2]
      by_cases e : i = n
      · rw [e, hP]; simp
      · by_cases z : i < n
        · simp [z, e, show i < n + 1 by omega]
        · simp [z, e, show ¬ i < n + 1 by omega]
    | false =>
      refine ⟨t, Nat.lt_of_lt_of_le h1 (two_pow_le (by omega)), fun i => ?_⟩
      rw [h2]
      by_cases e : i = n
      · rw [e, hP]; simp
      · by_cases z : i < n
        · simp [z, show i < n + 1 by omega]
        · simp [z, show ¬ i < n + 1 by omega]
def Loo (r : Nat → Nat → Bool) (v : Nat) : Prop := ∀ a b, v.testBit a = true → v.testBit b = true → r a b = false
theorem ne_bit {v : Nat} (h : v ≠ 0) : ∃ a, v.testBit a = true := by
  obtain ⟨a, h1, _⟩ := lo_pow v h
  exact ⟨a, h1⟩
theorem Loo.chi {r : Nat → Nat → Bool} {v : Nat} (h : Loo r v) (h0 : v ≠ 0) : ChiV r v 1 := by
  refine ⟨⟨fun _ => 0, fun _ _ => Nat.zero_lt_one, fun a b ha hb hr => ?_⟩, fun f m hC => ?_⟩
  · rw [h a b ha hb] at hr; cases hr
  · obtain ⟨a, ha⟩ := ne_bit h0
    have := hC.1 a ha
    omega
theorem chi_one {r : Nat → Nat → Bool} {v x : Nat} (h : ChiV r v x) (h0 : v ≠ 0) : x = 1 ↔ Loo r v := by
  constructor
  · intro e
    obtain ⟨⟨f, h1, h2⟩, _⟩ := h
    intro a b ha hb
    cases hr : r a b with
    | false => rfl
    | true =>
      have := h1 a ha
      have := h1 b hb
      exact absurd (show f a = f b by omega) (h2 a b ha hb hr)
  · intro hl
    exact h.uniq (hl.chi h0)
theorem chi_zero {r : Nat → Nat → Bool} : ChiV r 0 0 := ⟨⟨fun _ => 0, ⟨fun a ha => absurd ha (by rw [Nat.zero_testBit]; decide), fun a b ha => absurd ha (by rw [Nat.zero_testBit]; decide)⟩⟩, fun _ _ _ => Nat.zero_le _⟩
theorem xr_bit {v t i : Nat} (h : subN t v) : (v ^^^ t).testBit i = (v.testBit i && !t.testBit i) := by
  rw [Nat.testBit_xor]
  cases ht : t.testBit i with
  | false => cases v.testBit i <;> rfl
  | true => rw [h i ht]; rfl
theorem xr_lt {v t : Nat} (h : subN t v) (h0 : t ≠ 0) : v ^^^ t < v := by
  have h1 : v ^^^ t ≤ v := sub_le (fun i hi => by
    rw [xr_bit h, Bool.and_eq_true] at hi; exact hi.1)
  rcases Nat.lt_or_eq_of_le h1 with h2 | h2
  · exact h2
  · obtain ⟨a, ha⟩ := ne_bit h0
    have := xr_bit (i := a) h
    rw [h2, ha, h a ha] at this
    cases this
/-- one class more -/
theorem chi_add {r : Nat → Nat → Bool} {v t z : Nat} {f : Nat → Nat} (h : subN t v) (hl : Loo r t) (hf : ColV r (v ^^^ t) f z) : ColV r v (fun a => if t.testBit a = true then z else f a) (z + 1) := by
  have hin : ∀ a, v.testBit a = true → ¬ t.testBit a = true → (v ^^^ t).testBit a = true := fun a h1 h2 => by
    rw [Bool.not_eq_true] at h2
    rw [xr_bit h, h1, h2]; rfl
  refine ⟨fun a ha => ?_, fun a b ha hb hr => ?_⟩
  · show (if t.testBit a = true then z else f a) < z + 1
    by_cases e : t.testBit a = true
    · rw [if_pos e]; omega
    · rw [if_neg e]; have := hf.1 a (hin a ha e); omega
  · show (if t.testBit a = true then z else f a) ≠ (if t.testBit b = true then z else f b)
    by_cases e : t.testBit a = true
    · by_cases e2 : t.testBit b = true
      · rw [hl a b e e2] at hr; cases hr
      · rw [if_pos e, if_neg e2]; have := hf.1 b (hin b hb e2); omega
    · by_cases e2 : t.testBit b = true
      · rw [if_neg e, if_pos e2]; have := hf.1 a (hin a ha e); omega
      · rw [if_neg e, if_neg e2]; exact hf.2 a b (hin a ha e) (hin b hb e2) hr
/-- .. and one less -/
theorem chi_sub {r : Nat → Nat → Bool} {k v a0 y : Nat} (hv : v < 2 ^ k) (ha0 : v.testBit a0 = true) (hl : ¬ Loo r v) (ex : ∀ u, u < v → ∃ x, ChiV r u x) (H : ∀ t z, subN t v → t ≠ 0 → t < v → t.testBit a0 = true → Loo r t → ChiV r (v ^^^ t) z → y ≤ z + 1) : ∀ f m, ColV r v f m → y ≤ m := by
  intro f m hC
  obtain ⟨t, t1, t2⟩ := mk_set (fun a => v.testBit a && decide (f a = f a0)) k
  have inb' : ∀ a, v.testBit a = true → a < k := fun a ha => by
    rcases Nat.lt_or_ge a k with z | z
    · exact z
    · rw [Nat.testBit_lt_two_pow (Nat.lt_of_lt_of_le hv (two_pow_le z))] at ha; cases ha
  have tb : ∀ a, t.testBit a = true ↔ v.testBit a = true ∧ f a = f a0 := fun a => by
    rw [t2, Bool.and_eq_true, Bool.and_eq_true, decide_eq_true_eq, decide_eq_true_eq]
    exact ⟨fun z => z.2, fun z => ⟨inb' a z.1, z⟩⟩
  have hs : subN t v := fun a ha => ((tb a).1 ha).1
  have ht0 : t.testBit a0 = true := (tb a0).2 ⟨ha0, rfl⟩
  have hlo : Loo r t := fun a b ha hb => by
    cases hr : r a b with
    | false => rfl
    | true => exact absurd (((tb a).1 ha).2.trans ((tb b).1 hb).2.symm) (hC.2 a b (hs a ha) (hs b hb) hr)
  have hne : t ≠ 0 := fun z => by rw [z, Nat.zero_testBit] at ht0; cases ht0
  have hlt : t < v := by
    rcases Nat.lt_or_eq_of_le (sub_le hs) with z | z
    · exact z
    · rw [z] at hlo; exact absurd hlo hl
  obtain ⟨z, hz⟩ := ex (v ^^^ t) (xr_lt hs hne)
  have h1 := H t z hs hne hlt ht0 hlo hz
  have hm := hC.1 a0 ha0
  have h2 : z ≤ m - 1 := by
    apply hz.2 (fun a => if f a = m - 1 then f a0 else f a)
    have nin : ∀ a, (v ^^^ t).testBit a = true → v.testBit a = true ∧ f a ≠ f a0 := fun a ha => by
      rw [xr_bit hs, Bool.and_eq_true, Bool.not_eq_true'] at ha
      refine ⟨ha.1, fun e => ?_⟩
      rw [(tb a).2 ⟨ha.1, e⟩] at ha
      cases ha.2
    refine ⟨fun a ha => ?_, fun a b ha hb hr => ?_⟩
    · obtain ⟨n1, n2⟩ := nin a ha
      have := hC.1 a n1
      show (if f a = m - 1 then f a0 else f a) < m - 1
      by_cases e : f a = m - 1
      · rw [if_pos e]; omega
      · rw [if_neg e]; omega
    · obtain ⟨n1, n2⟩ := nin a ha
      obtain ⟨n3, n4⟩ := nin b hb
      have hd := hC.2 a b n1 n3 hr
      show (if f a = m - 1 then f a0 else f a) ≠ (if f b = m - 1 then f a0 else f b)
      by_cases e : f a = m - 1
      · by_cases e2 : f b = m - 1
        · omega
        · rw [if_pos e, if_neg e2]; exact fun z => n4 z.symm
      · by_cases e2 : f b = m - 1
        · rw [if_neg e, if_pos e2]; exact n2
        · rw [if_neg e, if_neg e2]; exact hd
  omega
/-! the reference's loops -/
def ThM (w n : Nat) (σ : Sto) : Prop := ∀ i, i < (mbL w n).length → gI σ 59 i = nI ((mbL w n).getD i 0)
theorem mo_isLoose {N : Nt} (wf : WfN N) {s w v : Nat} (hs : s < 2) (h10 : (mbL w (n_n N)).length ≤ 10) (hv : v < 2 ^ (mbL w (n_n N)).length) {σ : Sto} (h : ModAt σ N) (ht : ThM w (n_n N) σ) : ∃ b : Bool, f_Mo_isLoose (nI s) (nI v) (nI (mbL w (n_n N)).length) σ = some (b, σ) ∧ (b = true ↔ Loo (mR N s w) v) := by
  have hn := wf.1
  have h1024 : v < 1024 := Nat.lt_of_lt_of_le hv (Nat.le_trans (two_pow_le h10) (by decide))
  have hvk : ∀ a, v.testBit a = true → a < (mbL w (n_n N)).length := fun a ha => by
    rcases Nat.lt_or_ge a (mbL w (n_n N)).length with z | z
    · exact z
    · rw [Nat.testBit_lt_two_pow (Nat.lt_of_lt_of_le hv (two_pow_le z))] at ha; cases ha
  have l1 : ∀ (r fu p t : Nat), p + r = (mbL w (n_n N)).length → r < fu → t < 2 ^ 64 → (∀ q, t.testBit q = true ↔ ∃ a, a < p ∧ v.testBit a = true ∧ (mbL w (n_n N)).getD a 0 = q) → ∃ t', t' < 2 ^ 64 ∧ (∀ q, t'.testBit q = true ↔ ∃ a, v.testBit a = true ∧ (mbL w (n_n N)).getD a 0 = q) ∧ L_Mo_isLoose_6 fu (nI s) (nI v) (nI (mbL w (n_n N)).length) (lN t) (nI p) σ = L_Mo_isLoose_50 LF (nI s) (nI v) (nI (mbL w (n_n N)).length) (lN t') (nI 0) σ := by
    intro r
    induction r with
    | zero =>
      intro fu p t hp hf ht64 htb
      obtain ⟨fu, rfl⟩ : ∃ z, fu = z + 1 := ⟨fu - 1, by omega⟩
      refine ⟨t, ht64, fun q => ?_, ?_⟩
      · rw [htb q]
        exact ⟨fun ⟨a, _, a2, a3⟩ => ⟨a, a2, a3⟩, fun ⟨a, a2, a3⟩ => ⟨a, by have := hvk a a2; omega, a2, a3⟩⟩
      · show B_Mo_isLoose_6 (L_Mo_isLoose_6 fu) _ _ _ _ _ _ = _
        unfold B_Mo_isLoose_6
        rw [if_pos (nI_le (by omega) (by omega))]; rfl
    | succ r ih =>
      intro fu p t hp hf ht64 htb
      obtain ⟨fu, rfl⟩ : ∃ z, fu = z + 1 := ⟨fu - 1, by omega⟩
      have hm := mbL_lt (w := w) (p := n_n N) (i := p) (by omega)
      have e0 : L_Mo_isLoose_6 (fu + 1) (nI s) (nI v) (nI (mbL w (n_n N)).length) (lN t) (nI p) σ = L_Mo_isLoose_6 fu (nI s) (nI v) (nI (mbL w (n_n N)).length) (lN (if v.testBit p = true then t ||| 2 ^ (mbL w (n_n N)).getD p 0 else t)) (nI (p + 1)) σ := by
        show B_Mo_isLoose_6 (L_Mo_isLoose_6 fu) _ _ _ _ _ _ = _
        unfold B_Mo_isLoose_6
        rw [if_neg (nI_ge (by omega) (by omega)), i64_N (by omega), has_eq (by omega) (by omega), Option.bind_some]
        cases hb : v.testBit p with
        | false => rw [ite_bf, if_neg (by decide), show (0 : Int64) = lN 0 from rfl, fb_orL, Nat.or_zero, nI_1]
        | true => rw [ite_bt, if_pos rfl, if_pos (inb_ok (show p < 10 by omega) (by decide)), nI_clamp (by omega), ht p (by omega), bit_eq (by omega), Option.bind_some, fb_orL, nI_1]
      obtain ⟨t', a1, a2, a3⟩ := ih fu (p + 1) (if v.testBit p = true then t ||| 2 ^ (mbL w (n_n N)).getD p 0 else t) (by omega) (by omega) (by
        split
        · exact or_lt ht64 (pow_lt (by omega))
        · exact ht64) (fun q => by
        by_cases hb : v.testBit p = true
        · rw [if_pos hb, or1_bit, Bool.or_eq_true, decide_eq_true_eq, htb q]
          constructor
          · rintro (⟨a, b1, b2, b3⟩ | z)
            · exact ⟨a, by omega, b2, b3⟩
            · exact ⟨p, by omega, hb, z.symm⟩
          · rintro ⟨a, b1, b2, b3⟩
            by_cases e : a = p
            · right; rw [← b3, e]
            · exact Or.inl ⟨a, by omega, b2, b3⟩
        · rw [if_neg hb, htb q]
          constructor
          · rintro ⟨a, b1, b2, b3⟩; exact ⟨a, by omega, b2, b3⟩
          · rintro ⟨a, b1, b2, b3⟩
            by_cases e : a = p
            · rw [e] at b2; exact absurd b2 hb
            · exact ⟨a, by omega, b2, b3⟩)
      exact ⟨t', a1, a2, by rw [e0]; exact a3⟩
  obtain ⟨t, t1, t2, t3⟩ := l1 (mbL w (n_n N)).length LF 0 0 (by omega) (by rw [LF_big]; omega) (Nat.two_pow_pos _) (fun q => by
    rw [Nat.zero_testBit]
    exact ⟨fun z => (by cases z), fun ⟨a, b1, _⟩ => absurd b1 (Nat.not_lt_zero a)⟩)
  have l2 : ∀ (r fu p : Nat), p + r = (mbL w (n_n N)).length → r < fu → (∀ a, a < p → v.testBit a = true → fit N s ((mbL w (n_n N)).getD a 0) t = 0) → ∃ b : Bool, L_Mo_isLoose_50 fu (nI s) (nI v) (nI (mbL w (n_n N)).length) (lN t) (nI p) σ = some (b, σ) ∧ (b = true ↔ ∀ a, v.testBit a = true → fit N s ((mbL w (n_n N)).getD a 0) t = 0) := by
    intro r
    induction r with
    | zero =>
      intro fu p hp hf ha
      obtain ⟨fu, rfl⟩ : ∃ z, fu = z + 1 := ⟨fu - 1, by omega⟩
      refine ⟨true, ?_, ⟨fun _ a h1 => ha a (by have := hvk a h1; omega) h1, fun _ => rfl⟩⟩
      show B_Mo_isLoose_50 (L_Mo_isLoose_50 fu) _ _ _ _ _ _ = _
      unfold B_Mo_isLoose_50
      rw [if_pos (nI_le (by omega) (by omega))]
    | succ r ih =>
      intro fu p hp hf ha
      obtain ⟨fu, rfl⟩ : ∃ z, fu = z + 1 := ⟨fu - 1, by omega⟩
      have hm := mbL_lt (w := w) (p := n_n N) (i := p) (by omega)
      have e0 : L_Mo_isLoose_50 (fu + 1) (nI s) (nI v) (nI (mbL w (n_n N)).length) (lN t) (nI p) σ = if v.testBit p = true then (if fit N s ((mbL w (n_n N)).getD p 0) t = 0 then L_Mo_isLoose_50 fu (nI s) (nI v) (nI (mbL w (n_n N)).length) (lN t) (nI (p + 1)) σ else some (false, σ)) else L_Mo_isLoose_50 fu (nI s) (nI v) (nI (mbL w (n_n N)).length) (lN t) (nI (p + 1)) σ := by
        show B_Mo_isLoose_50 (L_Mo_isLoose_50 fu) _ _ _ _ _ _ = _
        unfold B_Mo_isLoose_50
        rw [if_neg (nI_ge (by omega) (by omega)), i64_N (by omega), has_eq (by omega) (by omega), Option.bind_some]
        cases hb : v.testBit p with
        | false => rw [ite_bf, if_neg (by decide), nI_1]
        | true =>
          rw [ite_bt, if_pos rfl, if_pos (inb_ok (show p < 10 by omega) (by decide)), nI_clamp (by omega), ht p (by omega), mo_fits h wf hs hm t1, Option.bind_some]
          simp only [lN_eq0 (fit_lt t1), nI_1]
      rw [e0]
      by_cases hb : v.testBit p = true
      · rw [if_pos hb]
        by_cases hf0 : fit N s ((mbL w (n_n N)).getD p 0) t = 0
        · rw [if_pos hf0]
          exact ih fu (p + 1) (by omega) (by omega) (fun a h1 h2 => by
            by_cases e : a = p
            · rw [e]; exact hf0
            · exact ha a (by omega) h2)
        · rw [if_neg hf0]
          exact ⟨false, rfl, ⟨fun z => (by cases z), fun z => absurd (z p hb) hf0⟩⟩
      · rw [if_neg hb]
        exact ih fu (p + 1) (by omega) (by omega) (fun a h1 h2 => by
          by_cases e : a = p
          · rw [e] at h2; exact absurd h2 hb
          · exact ha a (by omega) h2)
  obtain ⟨b, b1, b2⟩ := l2 (mbL w (n_n N)).length LF 0 (by omega) (by rw [LF_big]; omega) (fun a z => absurd z (Nat.not_lt_zero a))
  refine ⟨b, ?_, b2.trans ⟨fun z x y hx hy => ?_, fun z x hx => fit_zero (fun q hq => ?_)⟩⟩
  · rw [← b1, ← t3]; rfl
  · have := fit_rl (N := N) (s := s) (p := (mbL w (n_n N)).getD x 0) (w := t) (i := (mbL w (n_n N)).getD y 0)
    rw [z x hx, Nat.zero_testBit, (t2 _).2 ⟨y, hy, rfl⟩, Bool.true_and] at this
    exact this.symm
  · obtain ⟨y, y1, y2⟩ := (t2 q).1 hq
    rw [← y2]; exact z x y hx y1
