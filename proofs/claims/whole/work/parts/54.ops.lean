/-! proof, count, hands asked, read -/
theorem mo_in_pred {x : Int32} {m : Nat} (hm : m < 2 ^ 31) (σ : Sto) : f_Mo_in (Int32.toInt64 x) 0 (Int32.toInt64 (nI m - 1)) σ = some (ptB x m, σ) := by
  rw [mo_inI]
  have e : (Int32.toInt64 (nI m - 1)).toInt = (m : Int) - 1 := by
    rw [Int32.toInt_toInt64, fb_subI] <;> rw [nI_toInt hm, show (1 : Int32).toInt = 1 by decide +kernel] <;> omega
  rw [e]
  simp only [show ((0 : Int64).toInt) = 0 by decide +kernel]
  unfold ptB
  congr 3
  congr 1
  apply propext
  constructor <;> intro q <;> omega
/-- a test against 0 and a bound, as a choice -/
theorem rng_ite {R : Type} {x : Int32} {m : Nat} (hm : m < 2 ^ 31) (T1 T2 : R) : (if x < 0 then T1 else (if nI m ≤ x then T1 else T2)) = if ptB x m = true then T2 else T1 := by
  have e0 : x < 0 ↔ x.toInt < 0 := by rw [Int32.lt_iff_toInt_lt, Int32.toInt_zero]
  have e1 : nI m ≤ x ↔ (m : Int) ≤ x.toInt := by rw [Int32.le_iff_toInt_le, nI_toInt hm]
  simp only [e0, e1, ptB, Bool.and_eq_true, decide_eq_true_eq]
  by_cases h1 : x.toInt < 0
  · rw [if_pos h1, if_neg (by omega)]
  · by_cases h2 : (m : Int) ≤ x.toInt
    · rw [if_neg h1, if_pos h2, if_neg (by omega)]
    · rw [if_neg h1, if_neg h2, if_pos (by omega)]
theorem op_proof (a0 : Int32) : Op (f_FR_proof a0) (f_Mo_proof a0) := by
  refine Op.ask (fun A => if ptB a0 (s_P A).1 = true then (s_P A).2 a0.toInt.toNat else -12) (fun σ A wf h => ⟨σ, ?_, Scr.rf⟩) (fun σ A wf h => ⟨σ, ?_, Scr.rf⟩)
  · have hp := wf.2.2.1.1
    unfold f_FR_proof B_FR_proof_0
    rw [h.2.2.1.1, rng_ite (by omega)]
    cases h1 : ptB a0 (s_P A).1
    · simp
    · obtain ⟨p, hp1, rfl⟩ := ptB_of h1
      simp only [if_true, inb_ok (show p < 200 by omega) (show 200 < 2 ^ 31 by decide), nI_clamp (show p < 2 ^ 31 by omega), nI_toInt (show p < 2 ^ 31 by omega), Int.toNat_natCast]
      rw [h.2.2.1.2 p hp1]
  · have hp := wf.2.2.1.1
    unfold f_Mo_proof B_Mo_proof_0
    rw [h.2.2.1.1]
    simp only [mo_in_pred (show (s_P A).1 < 2 ^ 31 by omega), Option.bind_some]
    cases h1 : ptB a0 (s_P A).1
    · simp [ite_bf]
    · obtain ⟨p, hp1, rfl⟩ := ptB_of h1
      simp only [ite_bt, if_true, inb_ok (show p < 200 by omega) (show 200 < 2 ^ 31 by decide), nI_clamp (show p < 2 ^ 31 by omega), nI_toInt (show p < 2 ^ 31 by omega), Int.toNat_natCast]
      rw [h.2.2.1.2 p hp1]
/-! counts -/
def ends (N : Nt) (n : Nat) : Nat := fb_sm (fun p => pc (n_j N p)) n
theorem ends_le (N : Nt) (n : Nat) : ends N n ≤ n * 64 := fb_sm_bound (fun k _ => pc_le _)
theorem nt_ties_loop {σ : Sto} {o : Nat} {N : Nt} (h : NetAt σ o N) (wf : WfN N) : ∀ (k fu p : Nat), p + k = n_n N → k < fu → L_Net_ties_4 fu o (nI (ends N p)) (nI p) σ = some (nI (ends N (n_n N) / 2), σ) := by
  intro k
  have hn := wf.1
  induction k with
  | zero =>
    intro fu p hp hf
    obtain ⟨fu, rfl⟩ : ∃ f, fu = f + 1 := ⟨fu - 1, by omega⟩
    show B_Net_ties_4 (L_Net_ties_4 fu) _ _ _ _ = _
    unfold B_Net_ties_4
    have hb := ends_le N p
    rw [h.1, if_pos (nI_le (by omega) (by omega)), if_pos (by decide +kernel), nI_div2 (by omega), show p = n_n N by omega]
  | succ k ih =>
    intro fu p hp hf
    obtain ⟨fu, rfl⟩ : ∃ f, fu = f + 1 := ⟨fu - 1, by omega⟩
    have hpn : p < n_n N := by omega
    show B_Net_ties_4 (L_Net_ties_4 fu) _ _ _ _ = _
    unfold B_Net_ties_4
    have e := ih fu (p + 1) (by omega) (by omega)
    rw [h.1, if_neg (nI_ge hpn (by omega))]
    simp only [inb_ok (show p < 40 by omega) (show 40 < 2 ^ 31 by decide), if_true, nI_clamp (show p < 2 ^ 31 by omega), (h.2 p hpn).2.2.1, bitCount_eq (jn_lt64 wf hpn), Option.bind_some, nI_add, nI_1]
    exact e
theorem nt_ties {σ : Sto} {o : Nat} {N : Nt} (h : NetAt σ o N) (wf : WfN N) : f_Net_ties o σ = some (nI (ends N (n_n N) / 2), σ) :=
  nt_ties_loop h wf (n_n N) LF 0 (by omega) (by have := wf.1; rw [LF_big]; omega)
theorem mo_count_loop {σ : Sto} {N : Nt} (h : ModAt σ N) (wf : WfN N) (x : Int32) {R1 : Option (Int32 × Sto)} (hR : R1 = (if x = 0 then some (gI σ 48 0, σ) else (if x = 1 then some (nI (ends N (n_n N) / 2), σ) else (if x = 2 then some (gI σ 48 24, σ) else (if x = 3 then some (gI σ 48 19, σ) else some (-2, σ)))))) : ∀ (k fu p : Nat), p + k = n_n N → k < fu → L_Mo_count_4 fu x (nI (ends N p)) (nI p) σ = R1 := by
  intro k
  have hn := wf.1
  induction k with
  | zero =>
    intro fu p hp hf
    obtain ⟨fu, rfl⟩ : ∃ f, fu = f + 1 := ⟨fu - 1, by omega⟩
    show B_Mo_count_4 (L_Mo_count_4 fu) _ _ _ _ = _
    unfold B_Mo_count_4
    have hb := ends_le N p
    have hp' : p = n_n N := by omega
    subst hp'
    rw [nI_div2 (show ends N (n_n N) < 2 ^ 31 by omega), if_pos (show gI σ 48 0 ≤ nI (n_n N) by rw [h.1]; exact nI_le (Nat.le_refl _) (by omega)), if_pos (show ¬ ((2 : Int32) = 0) by decide +kernel), hR]
  | succ k ih =>
    intro fu p hp hf
    obtain ⟨fu, rfl⟩ : ∃ f, fu = f + 1 := ⟨fu - 1, by omega⟩
    have hpn : p < n_n N := by omega
    show B_Mo_count_4 (L_Mo_count_4 fu) _ _ _ _ = _
    unfold B_Mo_count_4
    have e := ih fu (p + 1) (by omega) (by omega)
    rw [if_neg (show ¬ (gI σ 48 0 ≤ nI p) by rw [h.1]; exact nI_ge hpn (by omega))]
    simp only [inb_ok (show p < 40 by omega) (show 40 < 2 ^ 31 by decide), if_true, nI_clamp (show p < 2 ^ 31 by omega), (h.2 p hpn).2.2, many_eq (jn_lt64 wf hpn), Option.bind_some, nI_add, nI_1]
    exact e
theorem op_count (a0 : Int32) : Op (f_FR_count a0) (f_Mo_count a0) := by
  refine Op.ask (fun A => if a0 = 0 then nI (n_n (s_N A)) else if a0 = 1 then nI (ends (s_N A) (n_n (s_N A)) / 2) else if a0 = 2 then nI (s_T A).1 else if a0 = 3 then nI (s_P A).1 else -2) (fun σ A wf h => ⟨σ, ?_, Scr.rf⟩) (fun σ A wf h => ⟨σ, ?_, Scr.rf⟩)
  · unfold f_FR_count B_FR_count_0
    rw [h.net.1, nt_ties h.net wf.1, h.2.2.2.1.1, h.2.2.1.1]
    simp only [Option.bind_some]
    repeat' split
    all_goals rfl
  · have := mo_count_loop h.net wf.1 a0 rfl (n_n (s_N A)) LF 0 (by omega) (by have := wf.1.1; rw [LF_big]; omega)
    rw [h.net.1, h.2.2.2.1.1, h.2.2.1.1] at this
    refine Eq.trans this ?_
    repeat' split
    all_goals rfl
/-! hands -/
theorem fr_isHand (x : Int32) (σ : Sto) : f_FR_isHand x σ = some (ptB x 4, σ) := rngB (m := 4) (by decide) σ
theorem fr_isSheet (x : Int32) (σ : Sto) : f_FR_isSheet x σ = some (ptB x 4, σ) := rngB (m := 4) (by decide) σ
theorem mo_isHand (x : Int32) (σ : Sto) : f_Mo_isHand x σ = some (ptB x 4, σ) := by
  unfold f_Mo_isHand B_Mo_isHand_0
  rw [mo_rng (m := 3) (k := 3) (by decide +kernel), Option.bind_some]
theorem mo_isSheet (x : Int32) (σ : Sto) : f_Mo_isSheet x σ = some (ptB x 4, σ) := by
  unfold f_Mo_isSheet B_Mo_isSheet_0
  rw [mo_rng (m := 3) (k := 3) (by decide +kernel), Option.bind_some]
def lackI (s t : Nat) : Int32 := if s = 0 then -11 else if s = t then 0 else -13
theorem lackI_0 {s t : Nat} (ht : 0 < t) : (lackI s t = 0) ↔ s = t := by
  unfold lackI
  by_cases h0 : s = 0
  · rw [if_pos h0]
    constructor
    · intro h; exact absurd h (by decide +kernel)
    · intro h; omega
  · rw [if_neg h0]
    by_cases h1 : s = t
    · rw [if_pos h1]; simp [h1]
    · rw [if_neg h1]
      constructor
      · intro h; exact absurd h (by decide +kernel)
      · intro h; exact absurd h h1
theorem fr_refusalAs {σ : Sto} {A : Ast} (h : CSt σ A) (wf : WfA A) {q t : Nat} (hq : q < 4) (ht : t < 4) : f_Hand_refusalAs (44 + q) (nI t) σ = some (lackI (s_H A q).1 t, σ) := by
  unfold f_Hand_refusalAs B_Hand_refusalAs_0 lackI
  have hs := (wf.2.2.2.2.2 q hq).1
  rw [(h.2.2.2.2.2 q hq).1, show (0 : Int32) = nI 0 from rfl]
  simp only [nI_eq (show (s_H A q).1 < 2 ^ 31 by omega) (show 0 < 2 ^ 31 by decide), nI_eq (show (s_H A q).1 < 2 ^ 31 by omega) (show t < 2 ^ 31 by omega)]
  repeat' split
  all_goals rfl
theorem mo_lacks {σ : Sto} {A : Ast} (h : MSt σ A) (wf : WfA A) {q t : Nat} (hq : q < 4) (ht : t < 4) : f_Mo_lacks (nI q) (nI t) σ = some (lackI (s_H A q).1 t, σ) := by
  unfold f_Mo_lacks B_Mo_lacks_0 lackI
  have hs := (wf.2.2.2.2.2 q hq).1
  simp only [inb_ok (show q < 4 by omega) (show 4 < 2 ^ 31 by decide), if_true, nI_clamp (show q < 2 ^ 31 by omega)]
  rw [(h.2.2.2.2.2 q hq).1, show (0 : Int32) = nI 0 from rfl]
  simp only [nI_eq (show (s_H A q).1 < 2 ^ 31 by omega) (show 0 < 2 ^ 31 by decide), nI_eq (show (s_H A q).1 < 2 ^ 31 by omega) (show t < 2 ^ 31 by omega)]
  repeat' split
  all_goals rfl
theorem op_handLess (a0 : Int32) (b1 : Int64) : Op (f_FR_handLess a0 b1) (f_Mo_handLess a0 b1) := by
  refine Op.ask (fun A => if ptB a0 4 = true then (if (s_H A a0.toInt.toNat).1 = 3 then (s_H A a0.toInt.toNat).2.1 &&& (b1 ^^^ (-1)) else Int32.toInt64 (lackI (s_H A a0.toInt.toNat).1 3)) else -2) (fun σ A wf h => ⟨σ, ?_, Scr.rf⟩) (fun σ A wf h => ⟨σ, ?_, Scr.rf⟩)
  · unfold f_FR_handLess B_FR_handLess_0
    simp only [fr_isHand, Option.bind_some]
    cases h1 : ptB a0 4
    · simp [ite_bf]
    obtain ⟨q, hq, rfl⟩ := ptB_of h1
    have e := fr_refusalAs h wf hq (show 3 < 4 by decide)
    simp only [ite_bt, inb_ok (show q < 4 by omega) (show 4 < 2 ^ 31 by decide), if_true, nI_clamp (show q < 2 ^ 31 by omega), nI_toInt (show q < 2 ^ 31 by omega), Int.toNat_natCast, show (3 : Int32) = nI 3 from rfl, e, Option.bind_some, lackI_0 (show 0 < 3 by decide)]
    by_cases h3 : (s_H A q).1 = 3
    · rw [if_pos h3, if_pos h3, (h.2.2.2.2.2 q hq).2.2 (by omega)]
    · rw [if_neg h3, if_neg h3]
  · unfold f_Mo_handLess B_Mo_handLess_0
    simp only [mo_isHand, Option.bind_some]
    cases h1 : ptB a0 4
    · simp [ite_bf]
    obtain ⟨q, hq, rfl⟩ := ptB_of h1
    have e := mo_lacks h wf hq (show 3 < 4 by decide)
    simp only [ite_bt, inb_ok (show q < 4 by omega) (show 4 < 2 ^ 31 by decide), if_true, nI_clamp (show q < 2 ^ 31 by omega), nI_toInt (show q < 2 ^ 31 by omega), Int.toNat_natCast, show (3 : Int32) = nI 3 from rfl, e, Option.bind_some, lackI_0 (show 0 < 3 by decide)]
    by_cases h3 : (s_H A q).1 = 3
    · rw [if_pos h3, if_pos h3, (h.2.2.2.2.2 q hq).2.2 (by omega)]
    · rw [if_neg h3, if_neg h3]
