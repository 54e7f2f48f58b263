theorem MhS_end {N : Nt} (wf : WfN N) {w : Nat} (hw : w < 2 ^ n_n N) {on : Bool} {F : Nat} {M : Nt} (h : MhS N w on (n_n N) 0 F M) : ∀ p, p < n_n N → n_j M p = mhJ N w on p := by
  obtain ⟨wfM, s1, s2, s3, s4, s5, s6⟩ := h
  have wfm := mhN_wf wf hw on
  have key : ∀ p q, p < q → q < n_n N → (n_j M p).testBit q = (mhJ N w on p).testBit q := fun p q hpq hq => by
    rw [s4 p q hpq hq, mhJ_bit]
    by_cases c : w.testBit p = true ∧ w.testBit q = true
    · rw [if_pos ⟨c.1, c.2, by omega⟩, if_pos ⟨c.1, c.2, by omega⟩]
    · rw [if_neg (fun z => c ⟨z.1, z.2.1⟩), if_neg (fun z => c ⟨z.1, z.2.1⟩)]
  intro p hp
  have hpM : p < n_n M := by rw [s1]; exact hp
  apply bx
  intro q
  rcases Nat.lt_or_ge q (n_n N) with hq | hq
  · have hqM : q < n_n M := by rw [s1]; exact hq
    rcases Nat.lt_trichotomy p q with y | y | y
    · exact key p q y hq
    · subst y
      rw [(wfM.2 p hpM).2.2.2.1]
      exact ((wfm.2 p hp).2.2.2.1).symm
    · rw [(wfM.2 p hpM).2.2.2.2 q hqM, key q p y hp]
      exact (wfm.2 q hq).2.2.2.2 p hp
  · have h1 := (wfM.2 p hpM).2.2.1
    rw [s1] at h1
    rw [tb_out h1 hq]
    exact (tb_out ((wfm.2 p hp).2.2.1) hq).symm
theorem abI_a {x y : Nat} (h : y ≤ x) (hx : x < 2 ^ 31) : abI (nI x - nI y) = nI (x - y) := by
  rw [nI_sub h]
  unfold abI
  rw [if_pos (nI_pos' (by omega))]
theorem abI_b {x y : Nat} (h : y ≤ x) (hx : x < 2 ^ 31) : abI (nI y - nI x) = nI (x - y) := by
  by_cases e : x = y
  · subst e
    rw [nI_sub (Nat.le_refl _), Nat.sub_self]; decide +kernel
  · have e1 : (nI y - nI x).toInt = (y : Int) - x := by
      rw [fb_subI] <;> rw [nI_toInt (by omega), nI_toInt (by omega)] <;> omega
    unfold abI
    rw [if_neg (by rw [Int32.le_iff_toInt_le, e1, Int32.toInt_zero]; omega)]
    apply Int32.toInt_inj.mp
    rw [nI_toInt (show x - y < 2 ^ 31 by omega)]
    rw [fb_subI] <;> rw [e1, Int32.toInt_zero] <;> omega
theorem ends_cg {N M : Nt} {n : Nat} (h : ∀ p, p < n → n_j M p = n_j N p) : ends M n = ends N n := fb_sm_cong (fun p hp => by rw [h p hp])
theorem ends_up {N : Nt} {w : Nat} (n : Nat) : ends N n ≤ ends (mhN N w true) n := fb_sm_le (fun p _ => pc_mono (fun i hi => by
  show (mhJ N w true p).testBit i = true
  rw [mhJ_bit, hi]; split <;> rfl))
theorem ends_dn {N : Nt} {w : Nat} (n : Nat) : ends (mhN N w false) n ≤ ends N n := fb_sm_le (fun p _ => pc_mono (fun i hi => by
  have hi' : (mhJ N w false p).testBit i = true := hi
  rw [mhJ_bit] at hi'
  split at hi'
  · cases hi'
  · exact hi'))
def mhA (N : Nt) (w : Nat) (on : Bool) : Nat := if on = true then ends (mhN N w true) (n_n N) / 2 - ends N (n_n N) / 2 else ends N (n_n N) / 2 - ends (mhN N w false) (n_n N) / 2
theorem op_mesh (a0 : Int64) (b1 : Int32) : Op (f_FR_mesh a0 b1) (f_Mo_mesh a0 b1) := by
  obtain ⟨u, hu, rfl⟩ := wb_of a0
  cases h1 : oneB b1
  · refine Op.ask (fun _ => -2) (fun σ A wf h => ⟨σ, ?_, Scr.rf⟩) (fun σ A wf h => ⟨σ, ?_, Scr.rf⟩)
    · unfold f_FR_mesh B_FR_mesh_0
      simp only [nt_spans h.net wf.1 hu, Option.bind_some, fr_isBit, h1, ite_bf]
      split <;> rfl
    · unfold f_Mo_mesh B_Mo_mesh_0
      simp only [mo_isSet h.net wf.1 hu, Option.bind_some, mo_isOne, h1, ite_bf]
      split <;> rfl
  obtain ⟨s, hs, rfl⟩ := oneB_of h1
  obtain ⟨on, hon⟩ : ∃ on : Bool, on = decide (s = 1) := ⟨_, rfl⟩
  have hx1 : (nI s = (1 : Int32)) ↔ on = true := by
    rw [hon, decide_eq_true_eq, show (1 : Int32) = nI 1 from rfl, nI_eq (by omega) (by decide)]
  refine Op.mk (fun A => if u < 2 ^ n_n (s_N A) then nI (mhA (s_N A) u on) else -2) (fun A => if u < 2 ^ n_n (s_N A) then (mhN (s_N A) u on, A.2) else A) (fun σ A wf h => ?_) (fun σ A wf h => ?_)
  · unfold f_FR_mesh B_FR_mesh_0
    simp only [nt_spans h.net wf.1 hu, Option.bind_some, fr_isBit, h1, ite_bt]
    by_cases h3 : u < 2 ^ n_n (s_N A)
    · have hn := wf.1.1
      have hwm := mhN_wf wf.1 h3 on
      have el := ends_le (s_N A) (n_n (s_N A))
      simp only [decide_eq_true h3, ite_bt, nt_ties h.net wf.1, Option.bind_some, hx1, if_pos h3]
      cases on
      · obtain ⟨σ', e, g1, g2⟩ := nt_tieAll h.net wf.1 h3 (on := false) (x := 0) (by simp)
        refine ⟨σ', ?_, wf.netU hwm, h.netU g1 g2, g2.hi (by omega)⟩
        have ed := ends_dn (N := s_N A) (w := u) (n_n (s_N A))
        simp only [Bool.false_eq_true, if_false]
        rw [e, Option.bind_some]
        simp only []
        rw [nt_ties g1 hwm, Option.bind_some]
        simp only []
        rw [show n_n (mhN (s_N A) u false) = n_n (s_N A) from rfl, abI_b (by omega) (by omega)]; rfl
      · obtain ⟨σ', e, g1, g2⟩ := nt_tieAll h.net wf.1 h3 (on := true) (x := 1) (by simp)
        refine ⟨σ', ?_, wf.netU hwm, h.netU g1 g2, g2.hi (by omega)⟩
        have ed := ends_up (N := s_N A) (w := u) (n_n (s_N A))
        have el2 := ends_le (mhN (s_N A) u true) (n_n (s_N A))
        simp only [if_true]
        rw [e, Option.bind_some]
        simp only []
        rw [nt_ties g1 hwm, Option.bind_some]
        simp only []
        rw [show n_n (mhN (s_N A) u true) = n_n (s_N A) from rfl, abI_a (by omega) (by omega)]; rfl
    · simp only [if_neg h3]
      exact ⟨σ, by simp [h3, ite_bf], wf, h, fun _ _ _ => ⟨rfl, rfl⟩⟩
  · unfold f_Mo_mesh B_Mo_mesh_0
    simp only [mo_isSet h.net wf.1 hu, Option.bind_some, mo_isOne, h1, ite_bt]
    by_cases h3 : u < 2 ^ n_n (s_N A)
    · have hn := wf.1.1
      simp only [decide_eq_true h3, ite_bt, if_pos h3]
      obtain ⟨F, M, σ', e, g1, g2, g3⟩ := mo_mesh_loop (N := s_N A) (Nat.lt_of_lt_of_le h3 (two_pow_le hn)) hn hx1 (n_n (s_N A)) LF 0 0 (s_N A) σ (by omega) (by rw [LF_big]; omega) h.net ⟨wf.1, rfl, rfl, rfl, fun p q hpq hq => by rw [if_neg (by omega)], by cases on <;> simp, by omega⟩
      have hj := MhS_end wf.1 h3 g2
      have hm : ModAt σ' (mhN (s_N A) u on) := g1.cg g2.2.1.symm (fun p hp => by
        have hp' : p < n_n (s_N A) := by rw [← g2.2.1]; exact hp
        exact ⟨by rw [g2.2.2.1]; rfl, by rw [g2.2.2.2.1]; rfl, (hj p hp').symm⟩)
      have ee : ends M (n_n (s_N A)) = ends (mhN (s_N A) u on) (n_n (s_N A)) := ends_cg (fun p hp => hj p hp)
      have hF : F = mhA (s_N A) u on := by
        have s5 := g2.2.2.2.2.2.1
        rw [ee] at s5
        unfold mhA
        revert s5
        cases on
        · simp only [Bool.false_eq_true, if_false]; intro s5; omega
        · simp only [if_true]; intro s5; omega
      refine ⟨σ', ?_, h.netU hm g3.mn, g3.lo⟩
      rw [show L_Mo_mesh_24 LF (lN u) (nI s) (0 : Int32) (0 : Int32) σ = _ from e, hF]
    · simp only [if_neg h3]
      exact ⟨σ, by simp [h3, ite_bf], h, fun _ _ _ => ⟨rfl, rfl⟩⟩
