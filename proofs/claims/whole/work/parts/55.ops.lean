/-! rows: read; kinds under kinds: handAs -/
def roomB (x y : Int32) (m : Nat) : Bool := decide (0 ≤ x.toInt) && decide (0 ≤ y.toInt) && decide (x.toInt + y.toInt ≤ (m : Int))
theorem roomB_1 (x : Int32) (m : Nat) : roomB x 1 m = ptB x m := by
  unfold roomB ptB
  rw [show (1 : Int32).toInt = 1 by decide +kernel]
  by_cases h : 0 ≤ x.toInt <;> simp [h] <;> omega
theorem sh_room {σ : Sto} {o m : Nat} (h : gI σ o 1 = nI m) (hm : m ≤ 60) (x y : Int32) : f_Sheet_hasRoom o x y σ = some (roomB x y m, σ) := by
  unfold f_Sheet_hasRoom B_Sheet_hasRoom_0 roomB
  rw [h]
  have e0 : x < 0 ↔ x.toInt < 0 := by rw [Int32.lt_iff_toInt_lt, Int32.toInt_zero]
  have e1 : y < 0 ↔ y.toInt < 0 := by rw [Int32.lt_iff_toInt_lt, Int32.toInt_zero]
  have e2 : nI m < x ↔ (m : Int) < x.toInt := by rw [Int32.lt_iff_toInt_lt, nI_toInt (by omega)]
  by_cases h0 : x.toInt < 0
  · rw [if_pos (e0.2 h0), decide_eq_false (show ¬ 0 ≤ x.toInt by omega), Bool.false_and, Bool.false_and]
  rw [if_neg (fun z => h0 (e0.1 z)), decide_eq_true (show 0 ≤ x.toInt by omega), Bool.true_and]
  by_cases h1 : y.toInt < 0
  · rw [if_pos (e1.2 h1), decide_eq_false (show ¬ 0 ≤ y.toInt by omega), Bool.false_and]
  rw [if_neg (fun z => h1 (e1.1 z)), decide_eq_true (show 0 ≤ y.toInt by omega), Bool.true_and]
  by_cases h2 : (m : Int) < x.toInt
  · rw [if_pos (e2.2 h2), decide_eq_false (show ¬ x.toInt + y.toInt ≤ m by omega)]
  rw [if_neg (fun z => h2 (e2.1 z))]
  have e3 : (nI m - x).toInt = (m : Int) - x.toInt := by
    rw [fb_subI] <;> rw [nI_toInt (by omega)] <;> omega
  by_cases h3 : x.toInt + y.toInt ≤ m
  · rw [if_neg (by rw [Int32.lt_iff_toInt_lt, e3]; omega), decide_eq_true h3]
  · rw [if_pos (by rw [Int32.lt_iff_toInt_lt, e3]; omega), decide_eq_false h3]
def gone (A : Ast) (q : Nat) : Bool := decide ((s_S A q).1 = -1)
theorem sh_gone {σ : Sto} {A : Ast} (h : CSt σ A) {q : Nat} (hq : q < 4) : f_Sheet_isMissing (36 + 2 * q) σ = some (gone A q, σ) := by
  unfold f_Sheet_isMissing B_Sheet_isMissing_0 gone
  rw [(h.2.2.2.2.1 q hq).1]
  by_cases e : (s_S A q).1 = -1
  · rw [if_pos e, decide_eq_true e]
  · rw [if_neg e, decide_eq_false e]
theorem gone_neg {A : Ast} (wf : WfA A) {q : Nat} (hq : q < 4) : (s_S A q).1 < 0 ↔ gone A q = true := by
  unfold gone
  obtain ⟨_, h⟩ := wf.2.2.2.2.1 q hq
  rcases h with ⟨h, _⟩ | h | h | h <;> rw [h] <;> decide +kernel
theorem gone_nn {A : Ast} (wf : WfA A) {q : Nat} (hq : q < 4) : 0 ≤ (s_S A q).1 ↔ gone A q = false := by
  unfold gone
  obtain ⟨_, h⟩ := wf.2.2.2.2.1 q hq
  rcases h with ⟨h, _⟩ | h | h | h <;> rw [h] <;> decide +kernel
/-- why a place of a row is refused -/
def wrgI (A : Ast) (x y : Int32) : Int32 := if ptB x 4 = true then (if gone A x.toInt.toNat = true then -11 else if ptB y (s_S A x.toInt.toNat).2.1 = true then 0 else -12) else -2
theorem fr_wrg {σ : Sto} {A : Ast} (h : CSt σ A) (wf : WfA A) (x y : Int32) : f_FR_refusalAt x y σ = some (wrgI A x y, σ) := by
  unfold f_FR_refusalAt B_FR_refusalAt_0 wrgI
  simp only [fr_isSheet, Option.bind_some]
  cases h1 : ptB x 4
  · simp [ite_bf]
  obtain ⟨q, hq, rfl⟩ := ptB_of h1
  simp only [ite_bt, inb_ok (show q < 4 by omega) (show 4 < 2 ^ 31 by decide), if_true, nI_clamp (show q < 2 ^ 31 by omega), nI_toInt (show q < 2 ^ 31 by omega), Int.toNat_natCast, sh_gone h hq, Option.bind_some]
  cases h2 : gone A q
  · simp only [ite_bf, sh_room (h.2.2.2.2.1 q hq).2.1 (wf.2.2.2.2.1 q hq).1, Option.bind_some, roomB_1]
    cases h3 : ptB y (s_S A q).2.1
    · simp [ite_bf]
    · simp [ite_bt]
  · simp [ite_bt]
theorem mo_wrg {σ : Sto} {A : Ast} (h : MSt σ A) (wf : WfA A) (x y : Int32) : f_Mo_wrong x y σ = some (wrgI A x y, σ) := by
  unfold f_Mo_wrong B_Mo_wrong_0 wrgI
  simp only [mo_isSheet, Option.bind_some]
  cases h1 : ptB x 4
  · simp [ite_bf]
  obtain ⟨q, hq, rfl⟩ := ptB_of h1
  have hm := (wf.2.2.2.2.1 q hq).1
  simp only [ite_bt, inb_ok (show q < 4 by omega) (show 4 < 2 ^ 31 by decide), if_true, nI_clamp (show q < 2 ^ 31 by omega), nI_toInt (show q < 2 ^ 31 by omega), Int.toNat_natCast, (h.2.2.2.2.1 q hq).1, (h.2.2.2.2.1 q hq).2.1, gone_nn wf hq, mo_in_pred (show (s_S A q).2.1 < 2 ^ 31 by omega), Option.bind_some]
  cases h2 : gone A q
  · cases h3 : ptB y (s_S A q).2.1
    · simp [ite_bf]
    · simp [ite_bt]
  · simp
theorem wrg0 {A : Ast} {x y : Int32} (h : wrgI A x y = 0) : ∃ q i, q < 4 ∧ x = nI q ∧ gone A q = false ∧ i < (s_S A q).2.1 ∧ y = nI i := by
  unfold wrgI at h
  cases h1 : ptB x 4
  · rw [h1, if_neg (by decide)] at h; exact absurd h (by decide +kernel)
  obtain ⟨q, hq, rfl⟩ := ptB_of h1
  rw [if_pos h1, nI_toInt (show q < 2 ^ 31 by omega), Int.toNat_natCast] at h
  cases h2 : gone A q
  · rw [h2, if_neg (by decide)] at h
    cases h3 : ptB y (s_S A q).2.1
    · rw [h3, if_neg (by decide)] at h; exact absurd h (by decide +kernel)
    · obtain ⟨i, hi, rfl⟩ := ptB_of h3
      exact ⟨q, i, hq, rfl, h2, hi, rfl⟩
  · rw [h2, if_pos rfl] at h; exact absurd h (by decide +kernel)
theorem wrg_ok {A : Ast} {q i : Nat} (wf : WfA A) (hq : q < 4) (hg : gone A q = false) (hi : i < (s_S A q).2.1) : wrgI A (nI q) (nI i) = 0 := by
  have := (wf.2.2.2.2.1 q hq).1
  unfold wrgI
  rw [nI_toInt (show q < 2 ^ 31 by omega), Int.toNat_natCast, ptB_nI (by omega), ptB_nI (by omega), decide_eq_true hq, decide_eq_true hi, hg]
  rfl
theorem mo_place {q i : Nat} (hq : q < 4) (hi : i < 60) : ((60 : Int32) * nI q) + nI i = nI (60 * q + i) := by
  rw [show (60 : Int32) = nI 60 from rfl, nI_mul, nI_add]
theorem op_read (a0 : Int32) (b1 : Int32) : Op (f_FR_read a0 b1) (f_Mo_read a0 b1) := by
  refine Op.ask (fun A => if wrgI A a0 b1 = 0 then (s_S A a0.toInt.toNat).2.2 b1.toInt.toNat else wrgI A a0 b1) (fun σ A wf h => ⟨σ, ?_, Scr.rf⟩) (fun σ A wf h => ⟨σ, ?_, Scr.rf⟩)
  · unfold f_FR_read B_FR_read_0
    simp only [fr_wrg h wf, Option.bind_some]
    by_cases e : wrgI A a0 b1 = 0
    · obtain ⟨q, i, hq, rfl, hg, hi, rfl⟩ := wrg0 e
      have hm := (wf.2.2.2.2.1 q hq).1
      rw [if_pos e, if_pos e]
      unfold f_Sheet_at B_Sheet_at_0
      simp only [inb_ok (show q < 4 by omega) (show 4 < 2 ^ 31 by decide), if_true, nI_clamp (show q < 2 ^ 31 by omega), nI_clamp (show i < 2 ^ 31 by omega), nI_toInt (show q < 2 ^ 31 by omega), nI_toInt (show i < 2 ^ 31 by omega), Int.toNat_natCast, sh_room (h.2.2.2.2.1 q hq).2.1 hm, roomB_1, ptB_nI (show i < 2 ^ 31 by omega), decide_eq_true hi, Option.bind_some, ite_bt, inb_ok (show i < 60 by omega) (show 60 < 2 ^ 31 by decide)]
      rw [show 36 + 2 * q + 1 = 37 + 2 * q by omega, (h.2.2.2.2.1 q hq).2.2 i hi]
    · rw [if_neg e, if_neg e]
  · unfold f_Mo_read B_Mo_read_0
    simp only [mo_wrg h wf, Option.bind_some]
    by_cases e : wrgI A a0 b1 = 0
    · obtain ⟨q, i, hq, rfl, hg, hi, rfl⟩ := wrg0 e
      have hm := (wf.2.2.2.2.1 q hq).1
      rw [if_pos e, if_pos e]
      simp only [mo_place hq (show i < 60 by omega), inb_ok (show 60 * q + i < 240 by omega) (show 240 < 2 ^ 31 by decide), if_true, nI_clamp (show 60 * q + i < 2 ^ 31 by omega), nI_toInt (show q < 2 ^ 31 by omega), nI_toInt (show i < 2 ^ 31 by omega), Int.toNat_natCast]
      rw [(h.2.2.2.2.1 q hq).2.2 i hi]
    · rw [if_neg e, if_neg e]
/-! kinds -/
def undB (k r : Nat) : Bool := decide (r = 0) || decide (k = r) || (decide (r = 1) && decide (k = 3)) || (decide (r = 2) && decide (k = 4))
theorem und_step {fu k r c : Nat} (hk : k < 6) (hr : r < 6) (hc : c < 6) (σ : Sto) : L_FR_isUnder_4 (fu + 1) (nI r) (nI k) (nI c) σ = if k = r then some (true, σ) else L_FR_isUnder_4 fu (nI r) (kabL.getD k 0) (nI (c + 1)) σ := by
  show B_FR_isUnder_4 (L_FR_isUnder_4 fu) _ _ _ _ = _
  unfold B_FR_isUnder_4
  rw [if_neg (show ¬ ((6 : Int32) ≤ nI c) from nI_ge (b := 6) hc (by decide))]
  simp only [fr_isKind, Option.bind_some, ptB_nI (show k < 2 ^ 31 by omega), decide_eq_true hk, ite_bt, nI_eq (show k < 2 ^ 31 by omega) (show r < 2 ^ 31 by omega), inb_ok hk (show 6 < 2 ^ 31 by decide), if_true, nI_clamp (show k < 2 ^ 31 by omega), lt1_eq, nI_1]
theorem und_out {fu c : Nat} {r : Int32} (hc : c < 6) (σ : Sto) : L_FR_isUnder_4 (fu + 1) r (-1) (nI c) σ = some (false, σ) := by
  show B_FR_isUnder_4 (L_FR_isUnder_4 fu) _ _ _ _ = _
  unfold B_FR_isUnder_4
  rw [if_neg (show ¬ ((6 : Int32) ≤ nI c) from nI_ge (b := 6) hc (by decide))]
  simp only [fr_isKind, Option.bind_some, show ptB (-1) 6 = false by decide +kernel, ite_bf]
theorem fr_isUnder {k r : Nat} (hk : k < 6) (hr : r < 6) (σ : Sto) : f_FR_isUnder (nI k) (nI r) σ = some (undB k r, σ) := by
  show L_FR_isUnder_4 LF (nI r) (nI k) (nI 0) σ = _
  rw [LF_big, show (1000000 : Nat) = 999996 + 1 + 1 + 1 + 1 from rfl]
  have k0 : ∀ fu c, c < 4 → L_FR_isUnder_4 (fu + 1 + 1) (nI r) (nI 0) (nI c) σ = if 0 = r then some (true, σ) else some (false, σ) := fun fu c hc => by
    rw [und_step (by omega) hr (by omega), show kabL.getD 0 0 = -1 from rfl, und_out (by omega)]
  rcases (show k = 0 ∨ k = 1 ∨ k = 2 ∨ k = 3 ∨ k = 4 ∨ k = 5 by omega) with rfl | rfl | rfl | rfl | rfl | rfl
  · rw [k0 _ _ (by omega)]
    rcases (show r = 0 ∨ r = 1 ∨ r = 2 ∨ r = 3 ∨ r = 4 ∨ r = 5 by omega) with rfl | rfl | rfl | rfl | rfl | rfl <;> rfl
  · rw [und_step (by omega) hr (by omega), show kabL.getD 1 0 = nI 0 from rfl, k0 _ _ (by omega)]
    rcases (show r = 0 ∨ r = 1 ∨ r = 2 ∨ r = 3 ∨ r = 4 ∨ r = 5 by omega) with rfl | rfl | rfl | rfl | rfl | rfl <;> rfl
  · rw [und_step (by omega) hr (by omega), show kabL.getD 2 0 = nI 0 from rfl, k0 _ _ (by omega)]
    rcases (show r = 0 ∨ r = 1 ∨ r = 2 ∨ r = 3 ∨ r = 4 ∨ r = 5 by omega) with rfl | rfl | rfl | rfl | rfl | rfl <;> rfl
  · rw [und_step (by omega) hr (by omega), show kabL.getD 3 0 = nI 1 from rfl, und_step (by omega) hr (by omega), show kabL.getD 1 0 = nI 0 from rfl, k0 _ _ (by omega)]
    rcases (show r = 0 ∨ r = 1 ∨ r = 2 ∨ r = 3 ∨ r = 4 ∨ r = 5 by omega) with rfl | rfl | rfl | rfl | rfl | rfl <;> rfl
  · rw [und_step (by omega) hr (by omega), show kabL.getD 4 0 = nI 2 from rfl, und_step (by omega) hr (by omega), show kabL.getD 2 0 = nI 0 from rfl, k0 _ _ (by omega)]
    rcases (show r = 0 ∨ r = 1 ∨ r = 2 ∨ r = 3 ∨ r = 4 ∨ r = 5 by omega) with rfl | rfl | rfl | rfl | rfl | rfl <;> rfl
  · rw [und_step (by omega) hr (by omega), show kabL.getD 5 0 = nI 0 from rfl, k0 _ _ (by omega)]
    rcases (show r = 0 ∨ r = 1 ∨ r = 2 ∨ r = 3 ∨ r = 4 ∨ r = 5 by omega) with rfl | rfl | rfl | rfl | rfl | rfl <;> rfl
theorem mo_isUnder {k r : Nat} (hk : k < 6) (hr : r < 6) (σ : Sto) : f_Mo_isUnder (nI k) (nI r) σ = some (undB k r, σ) := by
  unfold f_Mo_isUnder B_Mo_isUnder_0 undB
  simp only [show (0 : Int32) = nI 0 from rfl, show (1 : Int32) = nI 1 from rfl, show (2 : Int32) = nI 2 from rfl, show (3 : Int32) = nI 3 from rfl, show (4 : Int32) = nI 4 from rfl, nI_eq (show k < 2 ^ 31 by omega) (show r < 2 ^ 31 by omega), nI_eq (show r < 2 ^ 31 by omega) (show 0 < 2 ^ 31 by decide), nI_eq (show r < 2 ^ 31 by omega) (show 1 < 2 ^ 31 by decide), nI_eq (show r < 2 ^ 31 by omega) (show 2 < 2 ^ 31 by decide), nI_eq (show k < 2 ^ 31 by omega) (show 3 < 2 ^ 31 by decide), nI_eq (show k < 2 ^ 31 by omega) (show 4 < 2 ^ 31 by decide)]
  by_cases h0 : r = 0
  · simp [h0]
  by_cases h1 : k = r
  · simp [h0, h1]
  by_cases h2 : r = 1
  · subst h2
    by_cases h3 : k = 3
    · simp [h3]
    · simp [h1, h3]
  by_cases h3 : r = 2
  · subst h3
    by_cases h4 : k = 4
    · simp [h4]
    · simp [h1, h4]
  simp [h0, h1, h2, h3]
theorem op_handAs (a0 : Int32) (b1 : Int32) : Op (f_FR_handAs a0 b1) (f_Mo_handAs a0 b1) := by
  refine Op.ask (fun A => if ptB a0 4 = true ∧ ptB b1 6 = true then (if (s_H A a0.toInt.toNat).1 = 1 then (if undB (s_H A a0.toInt.toNat).2.2.1 b1.toInt.toNat = true then nI (s_H A a0.toInt.toNat).2.2.2 else -13) else lackI (s_H A a0.toInt.toNat).1 1) else -2) (fun σ A wf h => ⟨σ, ?_, Scr.rf⟩) (fun σ A wf h => ⟨σ, ?_, Scr.rf⟩)
  · unfold f_FR_handAs B_FR_handAs_0
    simp only [fr_isHand, fr_isKind, Option.bind_some]
    cases h1 : ptB a0 4
    · simp [ite_bf]
    cases h2 : ptB b1 6
    · simp [ite_bf, ite_bt]
    obtain ⟨q, hq, rfl⟩ := ptB_of h1
    obtain ⟨r, hr, rfl⟩ := ptB_of h2
    have e := fr_refusalAs h wf hq (show 1 < 4 by decide)
    simp only [ite_bt, inb_ok (show q < 4 by omega) (show 4 < 2 ^ 31 by decide), if_true, nI_clamp (show q < 2 ^ 31 by omega), nI_toInt (show q < 2 ^ 31 by omega), nI_toInt (show r < 2 ^ 31 by omega), Int.toNat_natCast, show (1 : Int32) = nI 1 from rfl, e, Option.bind_some, lackI_0 (show 0 < 1 by decide), and_self]
    by_cases h3 : (s_H A q).1 = 1
    · obtain ⟨g1, g2⟩ := (h.2.2.2.2.2 q hq).2.1 h3
      obtain ⟨w1, w2⟩ := (wf.2.2.2.2.2 q hq).2.1 h3
      rw [if_pos h3, if_pos h3, g1, fr_isUnder w1 hr, Option.bind_some, g2]
      cases h4 : undB (s_H A q).2.2.1 r
      · simp [ite_bf]
      · simp [ite_bt]
    · rw [if_neg h3, if_neg h3]
  · unfold f_Mo_handAs B_Mo_handAs_0
    simp only [mo_isHand, mo_rng (m := 5) (k := 5) (by decide +kernel), Option.bind_some]
    cases h1 : ptB a0 4
    · simp [ite_bf]
    cases h2 : ptB b1 6
    · simp [ite_bf, ite_bt, h2]
    obtain ⟨q, hq, rfl⟩ := ptB_of h1
    obtain ⟨r, hr, rfl⟩ := ptB_of h2
    have e := mo_lacks h wf hq (show 1 < 4 by decide)
    simp only [show ptB (nI r) (5 + 1) = true from h2, ite_bt, inb_ok (show q < 4 by omega) (show 4 < 2 ^ 31 by decide), if_true, nI_clamp (show q < 2 ^ 31 by omega), nI_toInt (show q < 2 ^ 31 by omega), nI_toInt (show r < 2 ^ 31 by omega), Int.toNat_natCast, show (1 : Int32) = nI 1 from rfl, e, Option.bind_some, lackI_0 (show 0 < 1 by decide), and_self]
    by_cases h3 : (s_H A q).1 = 1
    · obtain ⟨g1, g2⟩ := (h.2.2.2.2.2 q hq).2.1 h3
      obtain ⟨w1, w2⟩ := (wf.2.2.2.2.2 q hq).2.1 h3
      rw [if_pos h3, if_pos h3, g1, mo_isUnder w1 hr, Option.bind_some, g2, lN_i]
      cases h4 : undB (s_H A q).2.2.1 r
      · simp [ite_bf]
      · simp [ite_bt]
    · rw [if_neg h3, if_neg h3]
