/-! the tape: feed -/
abbrev Tp : Type := Nat × (Nat → Nat)
def TpC (σ : Sto) (T : Tp) : Prop := gI σ 31 0 = nI T.1 ∧ ∀ i, i < T.1 → gI σ 32 i = vp_nar .byte (nI (T.2 i))
def TpM (σ : Sto) (T : Tp) : Prop := gI σ 48 24 = nI T.1 ∧ ∀ i, i < T.1 → gI σ 62 i = nI (T.2 i)
def setT (A : Ast) (T : Tp) : Ast := (A.1, A.2.1, A.2.2.1, T, A.2.2.2.2)
theorem CSt.tpU {σ σ' : Sto} {A : Ast} {T : Tp} (h : CSt σ A) (hf : ∀ c j, ¬ (c = 31 ∧ j = 0) → c ≠ 32 → gI σ' c j = gI σ c j) (hl : ∀ c j, gL σ' c j = gL σ c j) (hT : TpC σ' T) : CSt σ' (setT A T) := by
  obtain ⟨h1, h2, ⟨h3, h3b⟩, ⟨h4, h4b⟩, h5, h6⟩ := h
  refine ⟨h1.scr (fun c j a b => hf c j (by omega) (by omega)) (fun j => hl 4 j), ?_, ⟨?_, ?_⟩, hT, ?_, ?_⟩
  · show (match s_K A with | none => gI σ' 0 3 = 0 | some N => gI σ' 0 3 = 1 ∧ NetAt σ' 6 N)
    cases hK : s_K A with
    | none => rw [hK] at h2; exact (hf 0 3 (by omega) (by omega)).trans h2
    | some N => rw [hK] at h2; exact ⟨(hf 0 3 (by omega) (by omega)).trans h2.1, h2.2.scr (fun c j a b => hf c j (by omega) (by omega)) (fun j => hl 9 j)⟩
  · rw [hf 21 1 (by omega) (by omega)]; exact h3
  · intro i hi
    rw [hf 22 i (by omega) (by omega)]; exact h3b i hi
  · intro j hj
    obtain ⟨a1, a2, a3⟩ := h5 j hj
    exact ⟨by rw [hf _ _ (by omega) (by omega)]; exact a1, by rw [hf _ _ (by omega) (by omega)]; exact a2, fun i hi => by rw [hf _ _ (by omega) (by omega)]; exact a3 i hi⟩
  · intro j hj
    obtain ⟨a1, a2, a3⟩ := h6 j hj
    exact ⟨by rw [hf _ _ (by omega) (by omega)]; exact a1, fun z => ⟨by rw [hf _ _ (by omega) (by omega)]; exact (a2 z).1, by rw [hf _ _ (by omega) (by omega)]; exact (a2 z).2⟩, fun z => by rw [hl]; exact a3 z⟩
theorem MSt.tpU {σ σ' : Sto} {A : Ast} {T : Tp} (h : MSt σ A) (hf : ∀ c j, ¬ (c = 48 ∧ j = 24) → c ≠ 62 → gI σ' c j = gI σ c j) (hl : ∀ c j, gL σ' c j = gL σ c j) (hT : TpM σ' T) : MSt σ' (setT A T) := by
  obtain ⟨h1, h2, ⟨h3, h3b⟩, ⟨h4, h4b⟩, h5, h6⟩ := h
  refine ⟨⟨?_, fun p hp => ?_⟩, ?_, ⟨?_, ?_⟩, hT, ?_, ?_⟩
  · rw [hf 48 0 (by omega) (by omega)]; exact h1.1
  · obtain ⟨a1, a2, a3⟩ := h1.2 p hp
    exact ⟨by rw [hf 49 p (by omega) (by omega)]; exact a1, by rw [hf 50 p (by omega) (by omega)]; exact a2, by rw [hl]; exact a3⟩
  · show (match s_K A with | none => gI σ' 48 4 = 0 | some N => gI σ' 48 4 = 1 ∧ gI σ' 48 5 = nI (n_n N) ∧ ∀ p, p < n_n N → gI σ' 52 p = nI (n_k N p) ∧ gI σ' 53 p = nI (n_f N p) ∧ gL σ' 54 p = lN (n_j N p))
    cases hK : s_K A with
    | none => rw [hK] at h2; exact (hf 48 4 (by omega) (by omega)).trans h2
    | some N =>
      rw [hK] at h2
      refine ⟨(hf 48 4 (by omega) (by omega)).trans h2.1, (hf 48 5 (by omega) (by omega)).trans h2.2.1, fun p hp => ?_⟩
      obtain ⟨a1, a2, a3⟩ := h2.2.2 p hp
      exact ⟨by rw [hf 52 p (by omega) (by omega)]; exact a1, by rw [hf 53 p (by omega) (by omega)]; exact a2, by rw [hl]; exact a3⟩
  · rw [hf 48 19 (by omega) (by omega)]; exact h3
  · intro i hi
    rw [hf 60 i (by omega) (by omega)]; exact h3b i hi
  · intro j hj
    obtain ⟨a1, a2, a3⟩ := h5 j hj
    exact ⟨by rw [hf 69 j (by omega) (by omega)]; exact a1, by rw [hf 70 j (by omega) (by omega)]; exact a2, fun i hi => by rw [hf 71 _ (by omega) (by omega)]; exact a3 i hi⟩
  · intro j hj
    obtain ⟨a1, a2, a3⟩ := h6 j hj
    exact ⟨by rw [hf 66 j (by omega) (by omega)]; exact a1, fun z => ⟨by rw [hf 68 j (by omega) (by omega)]; exact (a2 z).1, by rw [hl]; exact (a2 z).2⟩, fun z => by rw [hl]; exact a3 z⟩
def apT (T : Tp) (b : Nat) : Tp := (T.1 + 1, fun j => if j = T.1 then b else T.2 j)
def apK (w : Nat) : Nat → Tp → Nat → Tp
  | 0, T, _ => T
  | r + 1, T, i => apK w r (apT T (w / 2 ^ (56 - 8 * i) % 256)) (i + 1)
theorem apK_len (w : Nat) : ∀ (r : Nat) (T : Tp) (i : Nat), (apK w r T i).1 = T.1 + r := by
  intro r
  induction r with
  | zero => intro T i; rfl
  | succ r ih => intro T i; show (apK w r _ _).1 = _; rw [ih]; show T.1 + 1 + r = _; omega
theorem apK_lt (w : Nat) : ∀ (r : Nat) (T : Tp) (i : Nat), (∀ j, j < T.1 → T.2 j < 256) → ∀ j, j < (apK w r T i).1 → (apK w r T i).2 j < 256 := by
  intro r
  induction r with
  | zero => intro T i h; exact h
  | succ r ih =>
    intro T i h
    refine ih _ _ (fun j hj => ?_)
    show (if j = T.1 then _ else T.2 j) < 256
    have hj' : j < T.1 + 1 := hj
    by_cases e : j = T.1
    · rw [if_pos e]; omega
    · rw [if_neg e]; exact h j (by omega)
theorem TpC.ap {σ : Sto} {T : Tp} (h : TpC σ T) {b : Nat} : TpC (sI (sI σ 32 T.1 (vp_nar .byte (nI b))) 31 0 (nI (T.1 + 1))) (apT T b) := by
  refine ⟨g_sI_eq _ _ _ _, fun i hi => ?_⟩
  have hi' : i < T.1 + 1 := hi
  show _ = vp_nar .byte (nI (if i = T.1 then b else T.2 i))
  rw [g_sI_ne (by omega)]
  by_cases e : i = T.1
  · subst e; rw [if_pos rfl, g_sI_eq]
  · rw [if_neg e, g_sI_ne (by omega)]; exact h.2 i (by omega)
theorem TpM.ap {σ : Sto} {T : Tp} (h : TpM σ T) {b : Nat} : TpM (sI (sI σ 62 T.1 (nI b)) 48 24 (nI (T.1 + 1))) (apT T b) := by
  refine ⟨g_sI_eq _ _ _ _, fun i hi => ?_⟩
  have hi' : i < T.1 + 1 := hi
  show _ = nI (if i = T.1 then b else T.2 i)
  rw [g_sI_ne (by omega)]
  by_cases e : i = T.1
  · subst e; rw [if_pos rfl, g_sI_eq]
  · rw [if_neg e, g_sI_ne (by omega)]; exact h.2 i (by omega)
theorem byC (u : Nat) : vp_nar .byte (i2b (Int64.toInt32 (lN u))) = vp_nar .byte (nI (u % 256)) := by
  have e : ∀ x, vp_nar .byte x = x.toInt8.toInt32 := fun x => rfl
  rw [lN_i, e, e]
  congr 1
  unfold i2b
  rw [Int8.toInt8_toInt32]
  apply Int8.toBitVec_inj.mp
  rw [Int32.toBitVec_toInt8, Int32.toBitVec_toInt8]
  apply BitVec.eq_of_toNat_eq
  show ((BitVec.ofNat 32 u).signExtend 8).toNat = ((BitVec.ofNat 32 (u % 256)).signExtend 8).toNat
  rw [BitVec.signExtend_eq_setWidth_of_le _ (by decide), BitVec.signExtend_eq_setWidth_of_le _ (by decide)]
  simp only [BitVec.toNat_setWidth, BitVec.toNat_ofNat]
  omega
theorem byM {u : Nat} (hu : u < 2 ^ 64) : Int64.toInt32 (lN u &&& 255) = nI (u % 256) := by
  rw [show (255 : Int64) = lN 255 from rfl, wb_and hu (by decide), lN_i, show (255 : Nat) = 2 ^ 8 - 1 from rfl, Nat.and_two_pow_sub_one_eq_mod]
theorem tp_shift {i : Nat} (hi : i < 8) : (56 : Int32) - (8 : Int32) * nI i = nI (56 - 8 * i) := by
  rw [show (8 : Int32) = nI 8 from rfl, nI_mul, show (56 : Int32) = nI 56 from rfl, nI_sub (by omega)]
theorem tp_app_loop {w k : Nat} (hw : w < 2 ^ 64) (hk : k ≤ 8) : ∀ (r fu i : Nat) (σ : Sto) (T : Tp), i + r = k → r < fu → T.1 + r ≤ 160 → TpC σ T → ∃ σ', L_Tape_append_18 fu (nI k) (lN w) (nI i) σ = some (nI (T.1 + r), σ') ∧ TpC σ' (apK w r T i) ∧ (∀ c j, ¬ (c = 31 ∧ j = 0) → c ≠ 32 → gI σ' c j = gI σ c j) ∧ (∀ c j, gL σ' c j = gL σ c j) := by
  intro r
  induction r with
  | zero =>
    intro fu i σ T hi hf hT h
    obtain ⟨fu, rfl⟩ : ∃ f, fu = f + 1 := ⟨fu - 1, by omega⟩
    refine ⟨σ, ?_, h, fun _ _ _ _ => rfl, fun _ _ => rfl⟩
    show B_Tape_append_18 (L_Tape_append_18 fu) _ _ _ _ = _
    unfold B_Tape_append_18
    rw [if_pos (nI_le (by omega) (by omega)), h.1]; rfl
  | succ r ih =>
    intro fu i σ T hi hf hT h
    obtain ⟨fu, rfl⟩ : ∃ f, fu = f + 1 := ⟨fu - 1, by omega⟩
    obtain ⟨σ', e, g1, g2, g3⟩ := ih fu (i + 1) _ (apT T (w / 2 ^ (56 - 8 * i) % 256)) (by omega) (by omega) (show T.1 + 1 + r ≤ 160 by omega) h.ap
    refine ⟨σ', ?_, g1, fun c j h1 h2 => by rw [g2 c j h1 h2, g_sI_ne (by omega), g_sI_ne (by omega)], fun c j => by rw [g3]; rfl⟩
    show B_Tape_append_18 (L_Tape_append_18 fu) _ _ _ _ = _
    unfold B_Tape_append_18
    rw [if_neg (nI_ge (by omega) (by omega)), h.1, tp_shift (show i < 8 by omega), lur_N hw (by omega), byC]
    simp only [inb_ok (show T.1 < 160 by omega) (show 160 < 2 ^ 31 by decide), if_true, nI_clamp (show T.1 < 2 ^ 31 by omega), lt1_eq, g_sI_ne (show ¬ (31 = 32 ∧ 0 = T.1) by omega), h.1, nI_1]
    rw [e]
    show some (nI (T.1 + 1 + r), σ') = _
    rw [show T.1 + 1 + r = T.1 + (r + 1) by omega]
theorem mo_feed_loop {w k : Nat} (hw : w < 2 ^ 64) (hk : k ≤ 8) : ∀ (r fu i : Nat) (σ : Sto) (T : Tp), i + r = k → r < fu → T.1 + r ≤ 160 → TpM σ T → ∃ σ', L_Mo_feed_33 fu (nI k) (lN w) (nI i) σ = some (nI (T.1 + r), σ') ∧ TpM σ' (apK w r T i) ∧ (∀ c j, ¬ (c = 48 ∧ j = 24) → c ≠ 62 → gI σ' c j = gI σ c j) ∧ (∀ c j, gL σ' c j = gL σ c j) := by
  intro r
  induction r with
  | zero =>
    intro fu i σ T hi hf hT h
    obtain ⟨fu, rfl⟩ : ∃ f, fu = f + 1 := ⟨fu - 1, by omega⟩
    refine ⟨σ, ?_, h, fun _ _ _ _ => rfl, fun _ _ => rfl⟩
    show B_Mo_feed_33 (L_Mo_feed_33 fu) _ _ _ _ = _
    unfold B_Mo_feed_33
    rw [if_pos (nI_le (by omega) (by omega)), h.1]; rfl
  | succ r ih =>
    intro fu i σ T hi hf hT h
    obtain ⟨fu, rfl⟩ : ∃ f, fu = f + 1 := ⟨fu - 1, by omega⟩
    obtain ⟨σ', e, g1, g2, g3⟩ := ih fu (i + 1) _ (apT T (w / 2 ^ (56 - 8 * i) % 256)) (by omega) (by omega) (show T.1 + 1 + r ≤ 160 by omega) h.ap
    refine ⟨σ', ?_, g1, fun c j h1 h2 => by rw [g2 c j h1 h2, g_sI_ne (by omega), g_sI_ne (by omega)], fun c j => by rw [g3]; rfl⟩
    show B_Mo_feed_33 (L_Mo_feed_33 fu) _ _ _ _ = _
    unfold B_Mo_feed_33
    rw [if_neg (nI_ge (by omega) (by omega)), h.1, tp_shift (show i < 8 by omega), lur_N hw (by omega), byM (Nat.lt_of_le_of_lt (Nat.div_le_self _ _) hw)]
    simp only [inb_ok (show T.1 < 160 by omega) (show 160 < 2 ^ 31 by decide), if_true, nI_clamp (show T.1 < 2 ^ 31 by omega), lt1_eq, g_sI_ne (show ¬ (48 = 62 ∧ 24 = T.1) by omega), h.1, nI_1]
    rw [e]
    show some (nI (T.1 + 1 + r), σ') = _
    rw [show T.1 + 1 + r = T.1 + (r + 1) by omega]
theorem setT_wf {A : Ast} (wf : WfA A) {T : Tp} (h : T.1 ≤ 160 ∧ ∀ i, i < T.1 → T.2 i < 256) : WfA (setT A T) := ⟨wf.1, wf.2.1, wf.2.2.1, h, wf.2.2.2.2⟩
theorem op_feed (a0 : Int32) (b1 : Int64) : Op (f_FR_feed a0 b1) (f_Mo_feed a0 b1) := by
  have l1 : a0 < 1 ↔ a0.toInt < 1 := by rw [Int32.lt_iff_toInt_lt, show (1 : Int32).toInt = 1 by decide +kernel]
  have l2 : a0 ≤ 8 ↔ a0.toInt ≤ 8 := by rw [Int32.le_iff_toInt_le, show (8 : Int32).toInt = 8 by decide +kernel]
  have mi : ∀ σ, f_Mo_in (Int32.toInt64 a0) 1 8 σ = some (decide (1 ≤ a0.toInt) && decide (a0.toInt ≤ 8), σ) := fun σ => by
    rw [mo_inI, show (1 : Int64).toInt = 1 by decide +kernel, show (8 : Int64).toInt = 8 by decide +kernel]
  by_cases g1 : 1 ≤ a0.toInt ∧ a0.toInt ≤ 8
  rotate_left
  · refine Op.ask (fun _ => -2) (fun σ A wf h => ⟨σ, ?_, Scr.rf⟩) (fun σ A wf h => ⟨σ, ?_, Scr.rf⟩)
    · unfold f_FR_feed B_FR_feed_0
      simp only [l1, l2]
      by_cases g2 : a0.toInt < 1
      · rw [if_pos g2]
      · rw [if_neg g2, if_neg (by omega)]
    · unfold f_Mo_feed B_Mo_feed_0
      simp only [mi, Option.bind_some]
      rw [show (decide (1 ≤ a0.toInt) && decide (a0.toInt ≤ 8)) = false by simp; omega, ite_bf]
  obtain ⟨k, hk, rfl⟩ : ∃ k, (1 ≤ k ∧ k ≤ 8) ∧ a0 = nI k := ⟨a0.toInt.toNat, by omega, Int32.toInt_inj.mp (by rw [nI_toInt (by omega)]; omega)⟩
  obtain ⟨w, hw, rfl⟩ := wb_of b1
  have c160 : ∀ {t : Nat}, t ≤ 160 → ((nI t + nI k ≤ 160) ↔ t + k ≤ 160) := fun {t} ht => by
    rw [nI_add, Int32.le_iff_toInt_le, nI_toInt (by omega), show (160 : Int32).toInt = 160 by decide +kernel]; omega
  refine Op.mk (fun A => if (s_T A).1 + k ≤ 160 then nI ((s_T A).1 + k) else -4) (fun A => if (s_T A).1 + k ≤ 160 then setT A (apK w k (s_T A) 0) else A) (fun σ A wf h => ?_) (fun σ A wf h => ?_)
  · have hT : TpC σ (s_T A) := h.2.2.2.1
    have h160 := wf.2.2.2.1.1
    unfold f_FR_feed B_FR_feed_0 f_Tape_append B_Tape_append_0
    simp only [l1, l2, if_neg (show ¬ ((nI k).toInt < 1) by omega), if_pos g1.2, hT.1, c160 h160]
    by_cases g2 : (s_T A).1 + k ≤ 160
    · obtain ⟨σ', e, f1, f2, f3⟩ := tp_app_loop hw hk.2 k LF 0 σ (s_T A) (by omega) (by rw [LF_big]; omega) g2 hT
      simp only [if_pos g2]
      refine ⟨σ', by rw [show (0 : Int32) = nI 0 from rfl, e, Option.bind_some], setT_wf wf ⟨by rw [apK_len]; exact g2, apK_lt w k _ _ wf.2.2.2.1.2⟩, h.tpU f2 f3 f1, fun c j hc => ⟨f2 c j (by omega) (by omega), f3 c j⟩⟩
    · simp only [if_neg g2, Option.bind_some]
      exact ⟨σ, rfl, wf, h, fun _ _ _ => ⟨rfl, rfl⟩⟩
  · have hT : TpM σ (s_T A) := h.2.2.2.1
    have h160 := wf.2.2.2.1.1
    unfold f_Mo_feed B_Mo_feed_0
    simp only [mi, Option.bind_some]
    rw [show (decide (1 ≤ (nI k).toInt) && decide ((nI k).toInt ≤ 8)) = true by simp; omega, ite_bt]
    simp only [hT.1, c160 h160]
    by_cases g2 : (s_T A).1 + k ≤ 160
    · obtain ⟨σ', e, f1, f2, f3⟩ := mo_feed_loop hw hk.2 k LF 0 σ (s_T A) (by omega) (by rw [LF_big]; omega) g2 hT
      simp only [if_pos g2]
      exact ⟨σ', e, h.tpU f2 f3 f1, fun c j hc => ⟨f2 c j (by omega) (by omega), f3 c j⟩⟩
    · simp only [if_neg g2]
      exact ⟨σ, rfl, h, fun _ _ _ => ⟨rfl, rfl⟩⟩
