/-! calls on points: near, measure, isRing, told, set, turns, join, point -/
theorem CSt.net {σ : Sto} {A : Ast} (h : CSt σ A) : NetAt σ 1 (s_N A) := h.1
theorem MSt.net {σ : Sto} {A : Ast} (h : MSt σ A) : ModAt σ (s_N A) := h.1
theorem ite_bt {R : Type} (T1 T2 : R) : (if b2i true = 0 then T1 else T2) = T2 := rfl
theorem ite_bf {R : Type} (T1 T2 : R) : (if b2i false = 0 then T1 else T2) = T1 := rfl
theorem rngB {x : Int32} {m : Nat} (hm : m < 2 ^ 31) (σ : Sto) : (if x < 0 then some (false, σ) else (if nI m ≤ x then some (false, σ) else some (true, σ))) = some (ptB x m, σ) := by
  have e0 : x < 0 ↔ x.toInt < 0 := by rw [Int32.lt_iff_toInt_lt, Int32.toInt_zero]
  have e1 : nI m ≤ x ↔ (m : Int) ≤ x.toInt := by rw [Int32.le_iff_toInt_le, nI_toInt hm]
  simp only [e0, e1, ptB]
  by_cases h1 : x.toInt < 0
  · simp [h1, show ¬ (0 ≤ x.toInt) by omega]
  · by_cases h2 : (m : Int) ≤ x.toInt
    · simp [h1, h2, show ¬ (x.toInt < (m : Int)) by omega]
    · simp [h1, h2, show (0 ≤ x.toInt) by omega, show (x.toInt < (m : Int)) by omega]
theorem fr_isKind (x : Int32) (σ : Sto) : f_FR_isKind x σ = some (ptB x 6, σ) := rngB (m := 6) (by decide) σ
theorem fr_isFigure (x : Int32) (σ : Sto) : f_FR_isFigure x σ = some (ptB x 100, σ) := by
  unfold f_FR_isFigure B_FR_isFigure_0
  have e0 : x < 0 ↔ x.toInt < 0 := by rw [Int32.lt_iff_toInt_lt, Int32.toInt_zero]
  have e1 : (99 : Int32) < x ↔ (99 : Int) < x.toInt := by rw [Int32.lt_iff_toInt_lt, show (99 : Int32).toInt = 99 by decide +kernel]
  simp only [e0, e1, ptB]
  by_cases h1 : x.toInt < 0
  · simp [h1, show ¬ (0 ≤ x.toInt) by omega]
  · by_cases h2 : (99 : Int) < x.toInt
    · simp [h1, h2, show ¬ (x.toInt < (100 : Int)) by omega]
    · simp [h1, h2, show (0 ≤ x.toInt) by omega, show (x.toInt < (100 : Int)) by omega]
theorem mo_rng {x : Int32} {m : Int64} {k : Nat} (hm : m.toInt = (k : Int)) (σ : Sto) : f_Mo_in (Int32.toInt64 x) 0 m σ = some (ptB x (k + 1), σ) := by
  rw [mo_inI, hm, show (0 : Int64).toInt = 0 by decide +kernel]
  unfold ptB
  congr 3
  congr 1
  apply propext
  constructor <;> intro q <;> omega
theorem op_near (a0 : Int32) (b1 : Int32) (c2 : Int64) : Op (f_FR_near a0 b1 c2) (f_Mo_near a0 b1 c2) := by
  obtain ⟨u, hu, rfl⟩ := wb_of c2
  refine Op.ask (fun A => if oneB a0 = true ∧ ptB b1 (n_n (s_N A)) = true ∧ u < 2 ^ n_n (s_N A) then lN (fit (s_N A) a0.toInt.toNat b1.toInt.toNat u) else -2) (fun σ A wf h => ⟨σ, ?_, Scr.rf⟩) (fun σ A wf h => ⟨σ, ?_, Scr.rf⟩)
  · have hN := h.net
    have hn := wf.1.1
    unfold f_FR_near B_FR_near_0
    simp only [fr_isBit, Option.bind_some, nt_has hN wf.1, nt_spans hN wf.1 hu]
    cases h1 : oneB a0
    · simp [ite_bf]
    cases h2 : ptB b1 (n_n (s_N A))
    · simp [ite_bf, ite_bt]
    by_cases h3 : u < 2 ^ n_n (s_N A)
    · obtain ⟨s, hs, rfl⟩ := oneB_of h1
      obtain ⟨p, hp, rfl⟩ := ptB_of h2
      simp [ite_bt, h3, nt_fitting hN wf.1 hs hp hu, nI_toInt (show s < 2 ^ 31 by omega), nI_toInt (show p < 2 ^ 31 by omega)]
    · simp [ite_bf, ite_bt, h3]
  · have hN := h.net
    have hn := wf.1.1
    unfold f_Mo_near B_Mo_near_0
    simp only [mo_isOne, Option.bind_some, mo_isPoint hN wf.1, mo_isSet hN wf.1 hu]
    cases h1 : oneB a0
    · simp [ite_bf]
    cases h2 : ptB b1 (n_n (s_N A))
    · simp [ite_bf, ite_bt]
    by_cases h3 : u < 2 ^ n_n (s_N A)
    · obtain ⟨s, hs, rfl⟩ := oneB_of h1
      obtain ⟨p, hp, rfl⟩ := ptB_of h2
      simp [ite_bt, h3, mo_fits hN wf.1 hs hp hu, nI_toInt (show s < 2 ^ 31 by omega), nI_toInt (show p < 2 ^ 31 by omega)]
    · simp [ite_bf, ite_bt, h3]
theorem op_measure (a0 : Int32) (b1 : Int64) : Op (f_FR_measure a0 b1) (f_Mo_measure a0 b1) := by
  obtain ⟨u, hu, rfl⟩ := wb_of b1
  refine Op.ask (fun A => if oneB a0 = true ∧ u < 2 ^ n_n (s_N A) then nI (mea (s_N A) a0.toInt.toNat u) else -2) (fun σ A wf h => ⟨σ, ?_, Scr.rf⟩) (fun σ A wf h => ⟨σ, ?_, Scr.rf⟩)
  · have hN := h.net
    unfold f_FR_measure B_FR_measure_0
    simp only [fr_isBit, Option.bind_some, nt_spans hN wf.1 hu]
    cases h1 : oneB a0
    · simp [ite_bf]
    by_cases h3 : u < 2 ^ n_n (s_N A)
    · obtain ⟨s, hs, rfl⟩ := oneB_of h1
      simp [ite_bt, h3, nt_worth hN wf.1 hs hu, nI_toInt (show s < 2 ^ 31 by omega)]
    · simp [ite_bf, ite_bt, h3]
  · have hN := h.net
    unfold f_Mo_measure B_Mo_measure_0
    simp only [mo_isOne, Option.bind_some, mo_isSet hN wf.1 hu]
    cases h1 : oneB a0
    · simp [ite_bf]
    by_cases h3 : u < 2 ^ n_n (s_N A)
    · obtain ⟨s, hs, rfl⟩ := oneB_of h1
      simp [ite_bt, h3, mo_measureOf hN wf.1 hs h3, nI_toInt (show s < 2 ^ 31 by omega)]
    · simp [ite_bf, ite_bt, h3]
theorem fr_isSideAndSet {σ : Sto} {N : Nt} (hN : NetAt σ 1 N) (wf : WfN N) (a : Int32) {u : Nat} (hu : u < 2 ^ 64) : f_FR_isSideAndSet a (lN u) σ = some (oneB a && decide (u < 2 ^ n_n N), σ) := by
  unfold f_FR_isSideAndSet B_FR_isSideAndSet_0
  simp only [fr_isBit, Option.bind_some, nt_spans hN wf hu]
  cases oneB a <;> by_cases h : u < 2 ^ n_n N <;> simp [h, ite_bf, ite_bt]
theorem fr_isAsked {σ : Sto} {N : Nt} (hN : NetAt σ 1 N) (wf : WfN N) (a b : Int32) {u : Nat} (hu : u < 2 ^ 64) : f_FR_isAsked a b (lN u) σ = some (oneB a && oneB b && decide (u < 2 ^ n_n N), σ) := by
  unfold f_FR_isAsked B_FR_isAsked_0
  simp only [fr_isBit, Option.bind_some, nt_spans hN wf hu]
  cases oneB a <;> cases oneB b <;> by_cases h : u < 2 ^ n_n N <;> simp [h, ite_bf, ite_bt]
theorem op_isRing (a0 : Int32) (b1 : Int64) : Op (f_FR_isRing a0 b1) (f_Mo_isRing a0 b1) := by
  obtain ⟨u, hu, rfl⟩ := wb_of b1
  refine Op.ask (fun A => if oneB a0 = true ∧ u < 2 ^ n_n (s_N A) then b2i (ringB (s_N A) a0.toInt.toNat u) else -2) (fun σ A wf h => ⟨σ, ?_, Scr.rf⟩) (fun σ A wf h => ⟨σ, ?_, Scr.rf⟩)
  · have hN := h.net
    unfold f_FR_isRing B_FR_isRing_0
    simp only [fr_isSideAndSet hN wf.1 a0 hu, Option.bind_some]
    cases h1 : oneB a0
    · simp [ite_bf]
    by_cases h3 : u < 2 ^ n_n (s_N A)
    · obtain ⟨s, hs, rfl⟩ := oneB_of h1
      simp [ite_bt, h3, nt_allFit hN wf.1 hs hu, nI_toInt (show s < 2 ^ 31 by omega)]
      cases ringB (s_N A) s u <;> rfl
    · simp [ite_bf, ite_bt, h3]
  · have hN := h.net
    unfold f_Mo_isRing B_Mo_isRing_0
    simp only [mo_isOne, Option.bind_some, mo_isSet hN wf.1 hu]
    cases h1 : oneB a0
    · simp [ite_bf]
    by_cases h3 : u < 2 ^ n_n (s_N A)
    · obtain ⟨s, hs, rfl⟩ := oneB_of h1
      simp [ite_bt, h3, mo_areRing hN wf.1 hs hu, nI_toInt (show s < 2 ^ 31 by omega)]
      cases ringB (s_N A) s u <;> rfl
    · simp [ite_bf, ite_bt, h3]
theorem fr_told_lem : True := trivial
theorem op_told (a0 : Int32) (b1 : Int32) : Op (f_FR_told a0 b1) (f_Mo_told a0 b1) := by
  refine Op.ask (fun A => if ptB a0 (n_n (s_N A)) = true then (if b1 = 0 then nI (n_k (s_N A) a0.toInt.toNat) else if b1 = 1 then nI (n_f (s_N A) a0.toInt.toNat) else if b1 = 2 then nI (wt (s_N A) a0.toInt.toNat) else if b1 = 3 then nI (pc (n_j (s_N A) a0.toInt.toNat)) else -2) else -2) (fun σ A wf h => ⟨σ, ?_, Scr.rf⟩) (fun σ A wf h => ⟨σ, ?_, Scr.rf⟩)
  · have hN := h.net
    have hn := wf.1.1
    unfold f_FR_told B_FR_told_0
    simp only [Option.bind_some, nt_has hN wf.1]
    cases h2 : ptB a0 (n_n (s_N A))
    · simp [ite_bf]
    obtain ⟨p, hp, rfl⟩ := ptB_of h2
    obtain ⟨p1, p2, p3, p4⟩ := hN.2 p hp
    simp only [ite_bt, inb_ok (show p < 40 by omega) (show 40 < 2 ^ 31 by decide), if_true, nI_clamp (show p < 2 ^ 31 by omega), nI_toInt (show p < 2 ^ 31 by omega), Int.toNat_natCast]
    rw [show gI σ 2 p = _ from p1, show gI σ 3 p = _ from p2, show gI σ 5 p = _ from p4, show gL σ 4 p = _ from p3, bitCount_eq (jn_lt64 wf.1 hp)]
    simp only [Option.bind_some]
    repeat' split
    all_goals rfl
  · have hN := h.net
    have hn := wf.1.1
    unfold f_Mo_told B_Mo_told_0
    simp only [Option.bind_some, mo_isPoint hN wf.1, mo_rng (m := 3) (k := 3) (by decide +kernel)]
    cases h2 : ptB a0 (n_n (s_N A))
    · simp [ite_bf]
    obtain ⟨p, hp, rfl⟩ := ptB_of h2
    obtain ⟨p1, p2, p3⟩ := hN.2 p hp
    simp only [ite_bt, inb_ok (show p < 40 by omega) (show 40 < 2 ^ 31 by decide), if_true, nI_clamp (show p < 2 ^ 31 by omega), nI_toInt (show p < 2 ^ 31 by omega), Int.toNat_natCast, p1, p2, p3, many_eq (jn_lt64 wf.1 hp), mo_weight hN wf.1 hp, Option.bind_some]
    cases h3 : ptB b1 (3 + 1)
    · have n0 : ¬ b1 = 0 := by rintro rfl; revert h3; decide +kernel
      have n1 : ¬ b1 = 1 := by rintro rfl; revert h3; decide +kernel
      have n2 : ¬ b1 = 2 := by rintro rfl; revert h3; decide +kernel
      have n3 : ¬ b1 = 3 := by rintro rfl; revert h3; decide +kernel
      simp [ite_bf, n0, n1, n2, n3]
    · obtain ⟨q, hq, rfl⟩ := ptB_of h3
      rcases (show q = 0 ∨ q = 1 ∨ q = 2 ∨ q = 3 by omega) with rfl | rfl | rfl | rfl <;> rfl
