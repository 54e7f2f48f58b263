/-! calls that change the net: set, turns, join, point -/
theorem CSt.netU {σ σ' : Sto} {A : Ast} {N' : Nt} (h : CSt σ A) (hN : NetAt σ' 1 N') (hf : FrN 1 σ σ') : CSt σ' (N', A.2) := by
  obtain ⟨h1, h2, ⟨h3, h3b⟩, ⟨h4, h4b⟩, h5, h6⟩ := h
  have e : ∀ c j, (c < 1 ∨ 6 ≤ c) → gI σ' c j = gI σ c j := fun c j hc => (hf.1 c (by omega)).1 j
  have eL : ∀ c j, (c < 1 ∨ 6 ≤ c) → gL σ' c j = gL σ c j := fun c j hc => (hf.1 c (by omega)).2 j
  refine ⟨hN, ?_, ⟨?_, ?_⟩, ⟨?_, ?_⟩, ?_, ?_⟩
  · cases hK : s_K A with
    | none => rw [hK] at h2; exact (e 0 3 (by omega)).trans h2
    | some N => rw [hK] at h2; exact ⟨(e 0 3 (by omega)).trans h2.1, h2.2.scr (fun c j a b => e c j (by omega)) (fun j => eL 9 j (by omega))⟩
  · rw [e _ _ (by omega)]; exact h3
  · intro i hi; rw [e _ _ (by omega)]; exact h3b i hi
  · rw [e _ _ (by omega)]; exact h4
  · intro i hi; rw [e _ _ (by omega)]; exact h4b i hi
  · intro q hq
    obtain ⟨a1, a2, a3⟩ := h5 q hq
    exact ⟨by rw [e _ _ (by omega)]; exact a1, by rw [e _ _ (by omega)]; exact a2, fun i hi => by rw [e _ _ (by omega)]; exact a3 i hi⟩
  · intro q hq
    obtain ⟨a1, a2, a3⟩ := h6 q hq
    exact ⟨by rw [e _ _ (by omega)]; exact a1, fun z => ⟨by rw [e _ _ (by omega)]; exact (a2 z).1, by rw [e _ _ (by omega)]; exact (a2 z).2⟩, fun z => by rw [eL _ _ (by omega)]; exact a3 z⟩
/-- of the reference's nothing but its net changed, of the class's nothing -/
def FrMN (σ σ' : Sto) : Prop := ∀ c j, ¬ (c = 48 ∧ j = 0) → c ≠ 49 → c ≠ 50 → c ≠ 51 → gI σ' c j = gI σ c j ∧ gL σ' c j = gL σ c j
theorem FrMN.rf {σ : Sto} : FrMN σ σ := fun _ _ _ _ _ _ => ⟨rfl, rfl⟩
theorem FrMN.tr {a b c : Sto} (h1 : FrMN a b) (h2 : FrMN b c) : FrMN a c := fun x y p q r s => ⟨(h2 x y p q r s).1.trans (h1 x y p q r s).1, (h2 x y p q r s).2.trans (h1 x y p q r s).2⟩
theorem FrMN.lo {σ σ' : Sto} (h : FrMN σ σ') : LoEq σ σ' := fun c j hc => h c j (by omega) (by omega) (by omega) (by omega)
theorem FrJ.mn {σ σ' : Sto} (h : FrJ σ σ') : FrMN σ σ' := fun c j _ _ _ h51 => ⟨h.1 c j, h.2.1 c h51 j⟩
theorem FrMN.sI {σ : Sto} {o j : Nat} {v : Int32} (h : (o = 48 ∧ j = 0) ∨ o = 49 ∨ o = 50 ∨ o = 51) : FrMN σ (sI σ o j v) := fun c i a b d e => ⟨g_sI_ne (by omega), rfl⟩
theorem FrMN.sL {σ : Sto} {j : Nat} {v : Int64} : FrMN σ (sL σ 51 j v) := fun c i a b d e => ⟨rfl, g_sL_ne (by omega)⟩
theorem MSt.netU {σ σ' : Sto} {A : Ast} {N' : Nt} (h : MSt σ A) (hN : ModAt σ' N') (hf : FrMN σ σ') : MSt σ' (N', A.2) := by
  obtain ⟨h1, h2, ⟨h3, h3b⟩, ⟨h4, h4b⟩, h5, h6⟩ := h
  refine ⟨hN, ?_, ⟨?_, ?_⟩, ⟨?_, ?_⟩, ?_, ?_⟩
  · cases hK : s_K A with
    | none => rw [hK] at h2; exact ((hf 48 4 (by omega) (by omega) (by omega) (by omega)).1).trans h2
    | some N =>
      rw [hK] at h2
      refine ⟨((hf 48 4 (by omega) (by omega) (by omega) (by omega)).1).trans h2.1, ((hf 48 5 (by omega) (by omega) (by omega) (by omega)).1).trans h2.2.1, fun p hp => ?_⟩
      obtain ⟨a1, a2, a3⟩ := h2.2.2 p hp
      exact ⟨by rw [(hf 52 p (by omega) (by omega) (by omega) (by omega)).1]; exact a1, by rw [(hf 53 p (by omega) (by omega) (by omega) (by omega)).1]; exact a2, by rw [(hf 54 p (by omega) (by omega) (by omega) (by omega)).2]; exact a3⟩
  · rw [(hf 48 19 (by omega) (by omega) (by omega) (by omega)).1]; exact h3
  · intro i hi; rw [(hf 60 i (by omega) (by omega) (by omega) (by omega)).1]; exact h3b i hi
  · rw [(hf 48 24 (by omega) (by omega) (by omega) (by omega)).1]; exact h4
  · intro i hi; rw [(hf 62 i (by omega) (by omega) (by omega) (by omega)).1]; exact h4b i hi
  · intro q hq
    obtain ⟨a1, a2, a3⟩ := h5 q hq
    exact ⟨by rw [(hf 69 q (by omega) (by omega) (by omega) (by omega)).1]; exact a1, by rw [(hf 70 q (by omega) (by omega) (by omega) (by omega)).1]; exact a2, fun i hi => by rw [(hf 71 _ (by omega) (by omega) (by omega) (by omega)).1]; exact a3 i hi⟩
  · intro q hq
    obtain ⟨a1, a2, a3⟩ := h6 q hq
    exact ⟨by rw [(hf 66 q (by omega) (by omega) (by omega) (by omega)).1]; exact a1, fun z => ⟨by rw [(hf 68 q (by omega) (by omega) (by omega) (by omega)).1]; exact (a2 z).1, by rw [(hf 67 q (by omega) (by omega) (by omega) (by omega)).2]; exact (a2 z).2⟩, fun z => by rw [(hf 67 q (by omega) (by omega) (by omega) (by omega)).2]; exact a3 z⟩
theorem WfA.netU {A : Ast} {N' : Nt} (h : WfA A) (hN : WfN N') : WfA (N', A.2) := ⟨hN, h.2⟩
/-- a new figure, a new kind -/
def setN (N : Nt) (p v : Nat) : Nt := (n_n N, n_k N, fun q => if q = p then v else n_f N q, n_j N)
def kndN (N : Nt) (p v : Nat) : Nt := (n_n N, fun q => if q = p then v else n_k N q, n_f N, n_j N)
theorem setN_wf {N : Nt} (wf : WfN N) {p v : Nat} (hv : v < 100) : WfN (setN N p v) := by
  refine ⟨wf.1, fun q hq => ?_⟩
  obtain ⟨w1, w2, w3⟩ := wf.2 q hq
  refine ⟨w1, ?_, w3⟩
  show (if q = p then v else n_f N q) < 100
  split <;> omega
theorem kndN_wf {N : Nt} (wf : WfN N) {p v : Nat} (hv : v < 6) : WfN (kndN N p v) := by
  refine ⟨wf.1, fun q hq => ?_⟩
  obtain ⟨w1, w2, w3⟩ := wf.2 q hq
  refine ⟨?_, w2, w3⟩
  show (if q = p then v else n_k N q) < 6
  split <;> omega
theorem op_set (a0 : Int32) (b1 : Int32) : Op (f_FR_set a0 b1) (f_Mo_set a0 b1) := by
  refine Op.mk (fun A => if ptB a0 (n_n (s_N A)) = true ∧ ptB b1 100 = true then nI (n_f (s_N A) a0.toInt.toNat) else -2) (fun A => if ptB a0 (n_n (s_N A)) = true ∧ ptB b1 100 = true then (setN (s_N A) a0.toInt.toNat b1.toInt.toNat, A.2) else A) (fun σ A wf h => ?_) (fun σ A wf h => ?_)
  · have hN := h.net
    have hn := wf.1.1
    unfold f_FR_set B_FR_set_0
    simp only [Option.bind_some, nt_has hN wf.1, fr_isFigure]
    cases h1 : ptB a0 (n_n (s_N A))
    · exact ⟨σ, by simp [ite_bf], by simpa using wf, by simpa using h, fun _ _ _ => ⟨rfl, rfl⟩⟩
    cases h2 : ptB b1 100
    · exact ⟨σ, by simp [ite_bf, ite_bt], by simpa using wf, by simpa using h, fun _ _ _ => ⟨rfl, rfl⟩⟩
    obtain ⟨p, hp, rfl⟩ := ptB_of h1
    obtain ⟨v, hv, rfl⟩ := ptB_of h2
    obtain ⟨p1, p2, p3, p4⟩ := hN.2 p hp
    obtain ⟨w1, w2, w3, w4, w5⟩ := wf.1.2 p hp
    have hw := nt_weigh (σ := sI σ 3 p (nI v)) (o := 1) hn hp (by rw [g_sI_ne (by omega)]; exact hN.1) (by rw [g_sI_ne (by omega)]; exact p1) (g_sI_eq σ 3 p _) (show gL (sI σ 3 p (nI v)) 4 p = _ from p3) w1 hv (jn_lt64 wf.1 hp)
    have hfr : FrN 1 σ (sI (sI σ 3 p (nI v)) 5 p (nI (wtv (n_k (s_N A) p) v (pc (n_j (s_N A) p))))) := FrN.tr (FrN.sI (by omega)) (FrN.sI (by omega))
    refine ⟨sI (sI σ 3 p (nI v)) 5 p (nI (wtv (n_k (s_N A) p) v (pc (n_j (s_N A) p)))), ?_, ?_, ?_, hfr.hi (by omega)⟩
    · simp only [ite_bt, inb_ok (show p < 40 by omega) (show 40 < 2 ^ 31 by decide), if_true, nI_clamp (show p < 2 ^ 31 by omega), nI_toInt (show p < 2 ^ 31 by omega), Int.toNat_natCast, lt1_eq, hw, Option.bind_some, and_self]
      rw [show gI σ 3 p = _ from p2]
    · simp only [and_self, if_true, nI_toInt (show p < 2 ^ 31 by omega), nI_toInt (show v < 2 ^ 31 by omega), Int.toNat_natCast]
      exact wf.netU (setN_wf wf.1 hv)
    · simp only [and_self, if_true, nI_toInt (show p < 2 ^ 31 by omega), nI_toInt (show v < 2 ^ 31 by omega), Int.toNat_natCast]
      refine h.netU ⟨by rw [g_sI_ne (by omega), g_sI_ne (by omega)]; exact hN.1, fun q hq => ?_⟩ hfr
      obtain ⟨q1, q2, q3, q4⟩ := hN.2 q hq
      refine ⟨by rw [g_sI_ne (by omega), g_sI_ne (by omega)]; exact q1, ?_, q3, ?_⟩
      · rw [g_sI_ne (by omega)]
        show gI (sI σ 3 p (nI v)) 3 q = nI (if q = p then v else n_f (s_N A) q)
        by_cases e : q = p
        · subst e; rw [g_sI_eq, if_pos rfl]
        · rw [g_sI_ne (by omega), if_neg e]; exact q2
      · show gI _ 5 q = nI (wtv (n_k (s_N A) q) (if q = p then v else n_f (s_N A) q) (pc (n_j (s_N A) q)))
        by_cases e : q = p
        · subst e; rw [g_sI_eq, if_pos rfl]
        · rw [g_sI_ne (by omega), g_sI_ne (by omega), if_neg e]; exact q4
  · have hN := h.net
    have hn := wf.1.1
    unfold f_Mo_set B_Mo_set_0
    simp only [Option.bind_some, mo_isPoint hN wf.1, mo_rng (m := 99) (k := 99) (by decide +kernel)]
    cases h1 : ptB a0 (n_n (s_N A))
    · exact ⟨σ, by simp [ite_bf], by simpa using h, fun _ _ _ => ⟨rfl, rfl⟩⟩
    cases h2 : ptB b1 (99 + 1)
    · exact ⟨σ, by simp [ite_bf, ite_bt, show ptB b1 100 = false from h2], by simpa [show ptB b1 100 = false from h2] using h, fun _ _ _ => ⟨rfl, rfl⟩⟩
    obtain ⟨p, hp, rfl⟩ := ptB_of h1
    obtain ⟨v, hv, rfl⟩ := ptB_of h2
    obtain ⟨p1, p2, p3⟩ := hN.2 p hp
    have hfr : FrMN σ (sI σ 50 p (nI v)) := FrMN.sI (by omega)
    refine ⟨sI σ 50 p (nI v), ?_, ?_, hfr.lo⟩
    · simp only [ite_bt, inb_ok (show p < 40 by omega) (show 40 < 2 ^ 31 by decide), if_true, nI_clamp (show p < 2 ^ 31 by omega), nI_toInt (show p < 2 ^ 31 by omega), Int.toNat_natCast, lt1_eq, show ptB (nI v) 100 = true from h2, and_self, p2]
    · simp only [show ptB (nI v) 100 = true from h2, and_self, if_true, nI_toInt (show p < 2 ^ 31 by omega), nI_toInt (show v < 2 ^ 31 by omega), Int.toNat_natCast]
      refine h.netU ⟨by rw [g_sI_ne (by omega)]; exact hN.1, fun q hq => ?_⟩ hfr
      obtain ⟨q1, q2, q3⟩ := hN.2 q hq
      refine ⟨by rw [g_sI_ne (by omega)]; exact q1, ?_, q3⟩
      show gI (sI σ 50 p (nI v)) 50 q = nI (if q = p then v else n_f (s_N A) q)
      by_cases e : q = p
      · subst e; rw [g_sI_eq, if_pos rfl]
      · rw [g_sI_ne (by omega), if_neg e]; exact q2
theorem op_turns (a0 : Int32) (b1 : Int32) : Op (f_FR_turns a0 b1) (f_Mo_turns a0 b1) := by
  refine Op.mk (fun A => if ptB a0 (n_n (s_N A)) = true ∧ ptB b1 6 = true then nI (n_k (s_N A) a0.toInt.toNat) else -2) (fun A => if ptB a0 (n_n (s_N A)) = true ∧ ptB b1 6 = true then (kndN (s_N A) a0.toInt.toNat b1.toInt.toNat, A.2) else A) (fun σ A wf h => ?_) (fun σ A wf h => ?_)
  · have hN := h.net
    have hn := wf.1.1
    unfold f_FR_turns B_FR_turns_0
    simp only [Option.bind_some, nt_has hN wf.1, fr_isKind]
    cases h1 : ptB a0 (n_n (s_N A))
    · exact ⟨σ, by simp [ite_bf], by simpa using wf, by simpa using h, fun _ _ _ => ⟨rfl, rfl⟩⟩
    cases h2 : ptB b1 6
    · exact ⟨σ, by simp [ite_bf, ite_bt], by simpa using wf, by simpa using h, fun _ _ _ => ⟨rfl, rfl⟩⟩
    obtain ⟨p, hp, rfl⟩ := ptB_of h1
    obtain ⟨v, hv, rfl⟩ := ptB_of h2
    obtain ⟨p1, p2, p3, p4⟩ := hN.2 p hp
    obtain ⟨w1, w2, w3, w4, w5⟩ := wf.1.2 p hp
    have hw := nt_weigh (σ := sI σ 2 p (nI v)) (o := 1) hn hp (by rw [g_sI_ne (by omega)]; exact hN.1) (g_sI_eq σ 2 p _) (by rw [g_sI_ne (by omega)]; exact p2) (show gL (sI σ 2 p (nI v)) 4 p = _ from p3) hv w2 (jn_lt64 wf.1 hp)
    have hfr : FrN 1 σ (sI (sI σ 2 p (nI v)) 5 p (nI (wtv v (n_f (s_N A) p) (pc (n_j (s_N A) p))))) := FrN.tr (FrN.sI (by omega)) (FrN.sI (by omega))
    refine ⟨sI (sI σ 2 p (nI v)) 5 p (nI (wtv v (n_f (s_N A) p) (pc (n_j (s_N A) p)))), ?_, ?_, ?_, hfr.hi (by omega)⟩
    · simp only [ite_bt, inb_ok (show p < 40 by omega) (show 40 < 2 ^ 31 by decide), if_true, nI_clamp (show p < 2 ^ 31 by omega), nI_toInt (show p < 2 ^ 31 by omega), Int.toNat_natCast, lt1_eq, hw, Option.bind_some, and_self]
      rw [show gI σ 2 p = _ from p1]
    · simp only [and_self, if_true, nI_toInt (show p < 2 ^ 31 by omega), nI_toInt (show v < 2 ^ 31 by omega), Int.toNat_natCast]
      exact wf.netU (kndN_wf wf.1 hv)
    · simp only [and_self, if_true, nI_toInt (show p < 2 ^ 31 by omega), nI_toInt (show v < 2 ^ 31 by omega), Int.toNat_natCast]
      refine h.netU ⟨by rw [g_sI_ne (by omega), g_sI_ne (by omega)]; exact hN.1, fun q hq => ?_⟩ hfr
      obtain ⟨q1, q2, q3, q4⟩ := hN.2 q hq
      refine ⟨?_, by rw [g_sI_ne (by omega), g_sI_ne (by omega)]; exact q2, q3, ?_⟩
      · rw [g_sI_ne (by omega)]
        show gI (sI σ 2 p (nI v)) 2 q = nI (if q = p then v else n_k (s_N A) q)
        by_cases e : q = p
        · subst e; rw [g_sI_eq, if_pos rfl]
        · rw [g_sI_ne (by omega), if_neg e]; exact q1
      · show gI _ 5 q = nI (wtv (if q = p then v else n_k (s_N A) q) (n_f (s_N A) q) (pc (n_j (s_N A) q)))
        by_cases e : q = p
        · subst e; rw [g_sI_eq, if_pos rfl]
        · rw [g_sI_ne (by omega), g_sI_ne (by omega), if_neg e]; exact q4
  · have hN := h.net
    have hn := wf.1.1
    unfold f_Mo_turns B_Mo_turns_0
    simp only [Option.bind_some, mo_isPoint hN wf.1, mo_rng (m := 5) (k := 5) (by decide +kernel)]
    cases h1 : ptB a0 (n_n (s_N A))
    · exact ⟨σ, by simp [ite_bf], by simpa using h, fun _ _ _ => ⟨rfl, rfl⟩⟩
    cases h2 : ptB b1 (5 + 1)
    · exact ⟨σ, by simp [ite_bf, ite_bt, show ptB b1 6 = false from h2], by simpa [show ptB b1 6 = false from h2] using h, fun _ _ _ => ⟨rfl, rfl⟩⟩
    obtain ⟨p, hp, rfl⟩ := ptB_of h1
    obtain ⟨v, hv, rfl⟩ := ptB_of h2
    obtain ⟨p1, p2, p3⟩ := hN.2 p hp
    have hfr : FrMN σ (sI σ 49 p (nI v)) := FrMN.sI (by omega)
    refine ⟨sI σ 49 p (nI v), ?_, ?_, hfr.lo⟩
    · simp only [ite_bt, inb_ok (show p < 40 by omega) (show 40 < 2 ^ 31 by decide), if_true, nI_clamp (show p < 2 ^ 31 by omega), nI_toInt (show p < 2 ^ 31 by omega), Int.toNat_natCast, lt1_eq, show ptB (nI v) 6 = true from h2, and_self, p1]
    · simp only [show ptB (nI v) 6 = true from h2, and_self, if_true, nI_toInt (show p < 2 ^ 31 by omega), nI_toInt (show v < 2 ^ 31 by omega), Int.toNat_natCast]
      refine h.netU ⟨by rw [g_sI_ne (by omega)]; exact hN.1, fun q hq => ?_⟩ hfr
      obtain ⟨q1, q2, q3⟩ := hN.2 q hq
      refine ⟨?_, by rw [g_sI_ne (by omega)]; exact q2, q3⟩
      show gI (sI σ 49 p (nI v)) 49 q = nI (if q = p then v else n_k (s_N A) q)
      by_cases e : q = p
      · subst e; rw [g_sI_eq, if_pos rfl]
      · rw [g_sI_ne (by omega), if_neg e]; exact q1
theorem op_join (a0 : Int32) (b1 : Int32) (c2 : Int32) : Op (f_FR_join a0 b1 c2) (f_Mo_join a0 b1 c2) := by
  refine Op.mk (fun A => if ptB a0 (n_n (s_N A)) = true ∧ ptB b1 (n_n (s_N A)) = true ∧ ¬ a0 = b1 ∧ oneB c2 = true then b2i ((n_j (s_N A) a0.toInt.toNat).testBit b1.toInt.toNat) else -2) (fun A => if ptB a0 (n_n (s_N A)) = true ∧ ptB b1 (n_n (s_N A)) = true ∧ ¬ a0 = b1 ∧ oneB c2 = true then (tieN (s_N A) a0.toInt.toNat b1.toInt.toNat (decide (c2 = 1)), A.2) else A) (fun σ A wf h => ?_) (fun σ A wf h => ?_)
  · have hN := h.net
    have hn := wf.1.1
    unfold f_FR_join B_FR_join_0
    simp only [Option.bind_some, nt_has hN wf.1, fr_isBit]
    cases h1 : ptB a0 (n_n (s_N A))
    · exact ⟨σ, by simp [ite_bf], by simpa using wf, by simpa using h, fun _ _ _ => ⟨rfl, rfl⟩⟩
    cases h2 : ptB b1 (n_n (s_N A))
    · exact ⟨σ, by simp [ite_bf, ite_bt], by simpa using wf, by simpa using h, fun _ _ _ => ⟨rfl, rfl⟩⟩
    by_cases h3 : a0 = b1
    · exact ⟨σ, by simp [ite_bt, h3], by simpa [h3] using wf, by simpa [h3] using h, fun _ _ _ => ⟨rfl, rfl⟩⟩
    cases h4 : oneB c2
    · exact ⟨σ, by simp [ite_bf, ite_bt, h3], by simpa [h3] using wf, by simpa [h3] using h, fun _ _ _ => ⟨rfl, rfl⟩⟩
    obtain ⟨p, hp, rfl⟩ := ptB_of h1
    obtain ⟨q, hq, rfl⟩ := ptB_of h2
    obtain ⟨s, hs, rfl⟩ := oneB_of h4
    have hpq : p ≠ q := fun e => h3 (by rw [e])
    simp only [ite_bt, h3, if_false, nt_isTied hN wf.1 hp hq, Option.bind_some, and_self, not_false_eq_true, if_true, nI_toInt (show p < 2 ^ 31 by omega), nI_toInt (show q < 2 ^ 31 by omega), Int.toNat_natCast]
    rcases (show s = 0 ∨ s = 1 by omega) with rfl | rfl
    · obtain ⟨σ', e, hN', hf⟩ := nt_tie hN wf.1 (on := false) (x := 0) (by decide) hp hq hpq
      refine ⟨σ', ?_, wf.netU (tieN_wf wf.1 hp hq hpq), h.netU hN' hf, hf.hi (by omega)⟩
      rw [if_neg (show ¬ (nI 0 = (1 : Int32)) by decide +kernel), if_neg (show ¬ (nI 0 = (1 : Int32)) by decide +kernel), e]
      cases (n_j (s_N A) p).testBit q <;> rfl
    · obtain ⟨σ', e, hN', hf⟩ := nt_tie hN wf.1 (on := true) (x := 1) (by decide) hp hq hpq
      refine ⟨σ', ?_, wf.netU (tieN_wf wf.1 hp hq hpq), h.netU hN' hf, hf.hi (by omega)⟩
      rw [if_pos (show (nI 1 = (1 : Int32)) by decide +kernel), if_pos (show (nI 1 = (1 : Int32)) by decide +kernel), e]
      cases (n_j (s_N A) p).testBit q <;> rfl
  · have hN := h.net
    have hn := wf.1.1
    unfold f_Mo_join B_Mo_join_0
    simp only [Option.bind_some, mo_isPoint hN wf.1, mo_isOne]
    cases h1 : ptB a0 (n_n (s_N A))
    · exact ⟨σ, by simp [ite_bf], by simpa using h, fun _ _ _ => ⟨rfl, rfl⟩⟩
    cases h2 : ptB b1 (n_n (s_N A))
    · exact ⟨σ, by simp [ite_bf, ite_bt], by simpa using h, fun _ _ _ => ⟨rfl, rfl⟩⟩
    by_cases h3 : a0 = b1
    · exact ⟨σ, by simp [ite_bt, h3], by simpa [h3] using h, fun _ _ _ => ⟨rfl, rfl⟩⟩
    cases h4 : oneB c2
    · exact ⟨σ, by simp [ite_bf, ite_bt, h3], by simpa [h3] using h, fun _ _ _ => ⟨rfl, rfl⟩⟩
    obtain ⟨p, hp, rfl⟩ := ptB_of h1
    obtain ⟨q, hq, rfl⟩ := ptB_of h2
    obtain ⟨s, hs, rfl⟩ := oneB_of h4
    have hpq : p ≠ q := fun e => h3 (by rw [e])
    have hj := (hN.2 p hp).2.2
    simp only [ite_bt, h3, if_false, inb_ok (show p < 40 by omega) (show 40 < 2 ^ 31 by decide), if_true, nI_clamp (show p < 2 ^ 31 by omega), hj, has_eq (jn_lt64 wf.1 hp) (show q < 64 by omega), Option.bind_some, and_self, not_false_eq_true, nI_toInt (show p < 2 ^ 31 by omega), nI_toInt (show q < 2 ^ 31 by omega), Int.toNat_natCast]
    rcases (show s = 0 ∨ s = 1 by omega) with rfl | rfl
    · obtain ⟨σ', e, hN', hf⟩ := mo_puts hN wf.1 (on := false) (x := 0) (by decide) hp hq hpq
      refine ⟨σ', ?_, h.netU hN' hf.mn, hf.lo⟩
      rw [if_neg (show ¬ (nI 0 = (1 : Int32)) by decide +kernel), if_neg (show ¬ (nI 0 = (1 : Int32)) by decide +kernel), e]
      cases (n_j (s_N A) p).testBit q <;> rfl
    · obtain ⟨σ', e, hN', hf⟩ := mo_puts hN wf.1 (on := true) (x := 1) (by decide) hp hq hpq
      refine ⟨σ', ?_, h.netU hN' hf.mn, hf.lo⟩
      rw [if_pos (show (nI 1 = (1 : Int32)) by decide +kernel), if_pos (show (nI 1 = (1 : Int32)) by decide +kernel), e]
      cases (n_j (s_N A) p).testBit q <;> rfl
