/-! mean -/
theorem lN_mulN (a b : Nat) : lN a * lN b = lN (a * b) := by
  apply Int64.toBitVec_inj.mp
  show BitVec.ofNat 64 a * BitVec.ofNat 64 b = BitVec.ofNat 64 (a * b)
  rw [← BitVec.ofNat_mul]
theorem lN_divN {u m : Nat} (hu : u < 2 ^ 63) (hm2 : m < 2 ^ 63) : lN u / lN m = lN (u / m) := by
  have hd : u / m ≤ u := Nat.div_le_self _ _
  apply Int64.toInt_inj.mp
  rw [Int64.toInt_div, lN_ti63 hu, lN_ti63 hm2, lN_ti63 (by omega), show ((u : Int).tdiv (m : Int)) = ((u / m : Nat) : Int) from rfl]
  generalize u / m = d at hd
  apply Int.bmod_eq_of_le <;> omega
theorem lrm_N {u m : Nat} (hu : u < 2 ^ 63) (hm2 : m < 2 ^ 63) : lrm (lN u) (lN m) = lN (u % m) := by
  unfold lrm
  have h2 : u / m * m ≤ u := Nat.div_mul_le_self u m
  rw [lN_divN hu hm2, lN_mulN, lN_sub h2]
  congr 1
  have := Nat.div_add_mod u m
  rw [Nat.mul_comm] at this
  omega
theorem i64_N {a : Nat} (h : a < 2 ^ 31) : Int32.toInt64 (nI a) = lN a := by
  apply Int64.toInt_inj.mp
  rw [Int32.toInt_toInt64, nI_toInt h, lN_ti63 (by omega)]
theorem fr_gcd : ∀ (k fu a b i : Nat) (σ : Sto), b ≤ k → i + k < 100 → k < fu → a < 2 ^ 31 → b < 2 ^ 31 → L_FR_commonDivisor_7 fu (nI a) (nI b) (nI i) σ = some (nI (max (Nat.gcd b a) 1), σ) := by
  intro k
  induction k with
  | zero =>
    intro fu a b i σ hb hi hf ha hb2
    obtain ⟨fu, rfl⟩ : ∃ z, fu = z + 1 := ⟨fu - 1, by omega⟩
    have eb : b = 0 := by omega
    subst eb
    show B_FR_commonDivisor_7 (L_FR_commonDivisor_7 fu) _ _ _ _ = _
    unfold B_FR_commonDivisor_7
    rw [if_neg (show ¬ ((100 : Int32) ≤ nI i) from nI_ge (b := 100) (by omega) (by decide)), if_pos (show nI 0 = (0 : Int32) from rfl), show (1 : Int32) = nI 1 from rfl, mxI_N ha (by decide), Nat.gcd_zero_left]
  | succ k ih =>
    intro fu a b i σ hb hi hf ha hb2
    obtain ⟨fu, rfl⟩ : ∃ z, fu = z + 1 := ⟨fu - 1, by omega⟩
    show B_FR_commonDivisor_7 (L_FR_commonDivisor_7 fu) _ _ _ _ = _
    unfold B_FR_commonDivisor_7
    rw [if_neg (show ¬ ((100 : Int32) ≤ nI i) from nI_ge (b := 100) (by omega) (by decide))]
    by_cases eb : b = 0
    · subst eb
      rw [if_pos (show nI 0 = (0 : Int32) from rfl), show (1 : Int32) = nI 1 from rfl, mxI_N ha (by decide), Nat.gcd_zero_left]
    · have hne : ¬ (nI b = (0 : Int32)) := by
        rw [show (0 : Int32) = nI 0 from rfl, nI_eq hb2 (by decide)]; exact eb
      have hml : a % b < b := Nat.mod_lt _ (by omega)
      rw [if_neg hne, if_pos hne, irm_N ha (by omega) hb2, nI_1, ih fu b (a % b) (i + 1) σ (by omega) (by omega) (by omega) hb2 (by omega), ← Nat.gcd_rec]
theorem mo_gcd {m pt t : Nat} (hm : m < 2 ^ 31) (ht : t < 2 ^ 31) (hpt : pt < 2) (hm0 : 0 < m) : ∀ (k fu a b : Nat) (σ : Sto), b ≤ k → k < fu → a < 2 ^ 31 → b < 2 ^ 31 → Nat.gcd b a = Nat.gcd m t → L_Mo_mean_205 fu (nI m) (nI pt) (lN t) (lN a) (lN b) σ = some (lN ((if pt = 0 then t else m) / Nat.gcd m t), σ) := by
  intro k
  have hg : 0 < Nat.gcd m t := Nat.gcd_pos_of_pos_left _ hm0
  have fin : ∀ (fu a : Nat) (σ : Sto), a < 2 ^ 31 → Nat.gcd 0 a = Nat.gcd m t → L_Mo_mean_205 (fu + 1) (nI m) (nI pt) (lN t) (lN a) (lN 0) σ = some (lN ((if pt = 0 then t else m) / Nat.gcd m t), σ) := by
    intro fu a σ ha hga
    rw [Nat.gcd_zero_left] at hga
    show B_Mo_mean_205 (L_Mo_mean_205 fu) _ _ _ _ _ _ = _
    unfold B_Mo_mean_205
    have hne : ¬ (lN a = (0 : Int64)) := by rw [lN_eq0 (by omega)]; omega
    rw [if_pos (show lN 0 = (0 : Int64) from rfl), if_pos hne, if_pos hne, i64_N hm, lN_divN (by omega) (by omega), lN_divN (by omega) (by omega), hga]
    rcases (show pt = 0 ∨ pt = 1 by omega) with e | e
    · subst e; rw [if_pos (show nI 0 = (0 : Int32) from rfl), if_pos rfl]
    · subst e; rw [if_neg (show ¬ (nI 1 = (0 : Int32)) by decide +kernel), if_neg (show ¬ ((1 : Nat) = 0) by decide)]
  induction k with
  | zero =>
    intro fu a b σ hb hf ha hb2 hga
    obtain ⟨fu, rfl⟩ : ∃ z, fu = z + 1 := ⟨fu - 1, by omega⟩
    have eb : b = 0 := by omega
    subst eb
    exact fin fu a σ ha hga
  | succ k ih =>
    intro fu a b σ hb hf ha hb2 hga
    obtain ⟨fu, rfl⟩ : ∃ z, fu = z + 1 := ⟨fu - 1, by omega⟩
    by_cases eb : b = 0
    · subst eb; exact fin fu a σ ha hga
    · have hne : ¬ (lN b = (0 : Int64)) := by rw [lN_eq0 (by omega)]; exact eb
      have hml : a % b < b := Nat.mod_lt _ (by omega)
      show B_Mo_mean_205 (L_Mo_mean_205 fu) _ _ _ _ _ _ = _
      unfold B_Mo_mean_205
      rw [if_neg hne, if_pos hne, lrm_N (by omega) (by omega), ih fu b (a % b) σ (by omega) (by omega) hb2 (by omega) (by rw [← Nat.gcd_rec]; exact hga)]
/-- a net dealt anew -/
def nt0 : Nt := (0, fun _ => 0, fun _ => 0, fun _ => 0)
theorem nt0_wf : WfN nt0 := ⟨Nat.zero_le _, fun p hp => absurd hp (Nat.not_lt_zero p)⟩
def mnN (d : Int32 → Int32) (od : Int32) : Nat → Int32 → Nt → Int32 × Nt
  | 0, s, N => (s, N)
  | r + 1, s, N => mnN d od r (cmN d od 0 0 s N).1 (cmN d od 0 0 s N).2
theorem mnN_s (d : Int32 → Int32) (od : Int32) (r : Nat) (s : Int32) (N : Nt) : mnN d od (r + 1) s N = mnN d od r (cmN d od 0 0 s N).1 (cmN d od 0 0 s N).2 := rfl
theorem mnN_ok (d : Int32 → Int32) (od : Int32) : ∀ (r : Nat) (s : Int32) (N : Nt), WfN N → n_n N + r ≤ 40 → WfN (mnN d od r s N).2 ∧ n_n (mnN d od r s N).2 = n_n N + r := by
  intro r
  induction r with
  | zero => intro s N wf hn; exact ⟨wf, rfl⟩
  | succ r ih =>
    intro s N wf hn
    rw [mnN_s]
    obtain ⟨c1, c2⟩ := cmN_ok d od s wf (show n_n N < 40 by omega) (show 0 < 6 by decide) (show 0 < 100 by decide)
    obtain ⟨i1, i2⟩ := ih (cmN d od 0 0 s N).1 _ c1 (by omega)
    exact ⟨i1, by rw [i2, c2]; omega⟩
/-- the tops of nets, summed -/
def mtN (d : Int32 → Int32) (od : Int32) (n : Nat) : Nat → Int32 → Nat → Nat
  | 0, _, t => t
  | r + 1, s, t => mtN d od n r (mnN d od n s nt0).1 (t + topN (mnN d od n s nt0).2 0 0 (2 ^ n - 1))
theorem mtN_s (d : Int32 → Int32) (od : Int32) (n r : Nat) (s : Int32) (t : Nat) : mtN d od n (r + 1) s t = mtN d od n r (mnN d od n s nt0).1 (t + topN (mnN d od n s nt0).2 0 0 (2 ^ n - 1)) := rfl
theorem mtN_le (d : Int32 → Int32) (od : Int32) {n : Nat} (hn : n ≤ 40) : ∀ (r : Nat) (s : Int32) (t : Nat), mtN d od n r s t ≤ t + 12000 * r := by
  intro r
  induction r with
  | zero => intro s t; exact Nat.le_refl _
  | succ r ih =>
    intro s t
    rw [mtN_s]
    have h0 : n_n nt0 = 0 := rfl
    have := topN_le (mnN_ok d od n s nt0 nt0_wf (by omega)).1 0 0 (2 ^ n - 1)
    have := ih (mnN d od n s nt0).1 (t + topN (mnN d od n s nt0).2 0 0 (2 ^ n - 1))
    omega
theorem fr_mn_in {d : Int32 → Int32} (hd : LotD d) {od : Int32} {n : Nat} (hn : n ≤ 40) {k55 : Int32 → Int32 → Int32 → Int32 → Int32 → Int32 → Sto → Option (Int64 × Sto)} {x2 x5 x6 x7 : Int32} : ∀ (r fu i : Nat) (σ : Sto) (s : Int32) (N : Nt), i + r = n → r < fu → gI σ 33 0 = s → NetAt σ 11 N → WfN N → n_n N + r ≤ 40 →
    ∃ σ', L_FR_mean_72 k55 fu x2 (nI n) od x5 x6 x7 (nI i) σ = ((f_Net_whole 11 σ').bind fun q4 => ((f_Finder_search 11 (0) (0) q4.1 q4.2).bind fun q5 => k55 x2 (nI n) od x5 (x6 + q5.1) (x7 + (1)) q5.2)) ∧ gI σ' 33 0 = (mnN d od r s N).1 ∧ NetAt σ' 11 (mnN d od r s N).2 ∧ (∀ c j, (c < 11 ∨ 16 ≤ c) → ¬ (c = 33 ∧ j = 0) → gI σ' c j = gI σ c j ∧ gL σ' c j = gL σ c j) := by
  intro r
  induction r with
  | zero =>
    intro fu i σ s N hi hf hs h wf hN
    obtain ⟨fu, rfl⟩ : ∃ f, fu = f + 1 := ⟨fu - 1, by omega⟩
    refine ⟨σ, ?_, hs, h, fun _ _ _ _ => ⟨rfl, rfl⟩⟩
    show B_FR_mean_72 k55 (L_FR_mean_72 k55 fu) _ _ _ _ _ _ _ _ = _
    unfold B_FR_mean_72
    rw [if_pos (nI_le (by omega) (by omega))]
  | succ r ih =>
    intro fu i σ s N hi hf hs h wf hN
    obtain ⟨fu, rfl⟩ : ∃ f, fu = f + 1 := ⟨fu - 1, by omega⟩
    rw [mnN_s]
    obtain ⟨σ1, σ2, e1, e2, a1, a2, a3⟩ := lot_comes hd (od := od) (o := 11) (by omega) hs h wf (by omega) (show 0 < 6 by decide) (show 0 < 100 by decide)
    obtain ⟨c1, c2⟩ := cmN_ok d od s wf (show n_n N < 40 by omega) (show 0 < 6 by decide) (show 0 < 100 by decide)
    obtain ⟨σ', e, b0, b1, b2⟩ := ih fu (i + 1) σ2 _ _ (by omega) (by omega) a1 a2 c1 (by omega)
    refine ⟨σ', ?_, b0, b1, fun c j x y => ⟨by rw [(b2 c j x y).1, (a3 c j x y).1], by rw [(b2 c j x y).2, (a3 c j x y).2]⟩⟩
    rw [← e]
    show B_FR_mean_72 k55 (L_FR_mean_72 k55 fu) _ _ _ _ _ _ _ _ = _
    unfold B_FR_mean_72
    rw [if_neg (nI_ge (by omega) (by omega)), show (0 : Int32) = nI 0 from rfl, e1, Option.bind_some]
    simp only []
    rw [e2, Option.bind_some, nI_1]
theorem kC_d {c j : Nat} (h : kC c j = true) : (c < 11 ∨ 16 ≤ c) ∧ ¬ (c = 33 ∧ j = 0) ∧ (c < 26 ∨ 30 < c) := by
  revert h
  unfold kC
  simp only [Bool.or_eq_true, Bool.and_eq_true, decide_eq_true_eq]
  omega
def meA (m pt t : Nat) : Int64 := lN ((if pt = 0 then t else m) / Nat.gcd m t)
theorem fr_mn_out {d : Int32 → Int32} (hd : LotD d) {od : Int32} {n m pt : Nat} (hn : n ≤ 40) (hm1 : 0 < m) (hm : m ≤ 12) (hpt : pt < 2) : ∀ (r fu i t : Nat) (σ : Sto) (s : Int32), i + r = m → r < fu → t ≤ 12000 * i → gI σ 33 0 = s → ∃ σ', L_FR_mean_55 fu (nI m) (nI n) od (nI pt) (nI t) (nI i) σ = some (meA m pt (mtN d od n r s t), σ') ∧ Scr kC σ σ' := by
  intro r
  induction r with
  | zero =>
    intro fu i t σ s hi hf ht hs
    obtain ⟨fu, rfl⟩ : ∃ f, fu = f + 1 := ⟨fu - 1, by omega⟩
    refine ⟨σ, ?_, Scr.rf⟩
    have hg : 0 < Nat.gcd m t := Nat.gcd_pos_of_pos_left _ hm1
    have hgm : Nat.gcd m t ≤ m := Nat.gcd_le_left _ hm1
    have q1 : t / Nat.gcd m t ≤ t := Nat.div_le_self _ _
    have q2 : m / Nat.gcd m t ≤ m := Nat.div_le_self _ _
    show B_FR_mean_55 (L_FR_mean_55 fu) _ _ _ _ _ _ _ = _
    unfold B_FR_mean_55 f_FR_commonDivisor B_FR_commonDivisor_0
    rw [if_pos (nI_le (by omega) (by omega)), show L_FR_commonDivisor_7 LF (nI t) (nI m) 0 σ = _ from fr_gcd 20 LF t m 0 σ (by omega) (by omega) (by rw [LF_big]; omega) (by omega) (by omega), Option.bind_some, Nat.max_eq_left hg]
    have hne : ¬ (nI (Nat.gcd m t) = (0 : Int32)) := by
      rw [show (0 : Int32) = nI 0 from rfl, nI_eq (by omega) (by decide)]; omega
    simp only [if_pos hne, nI_div (show t < 2 ^ 31 by omega) hg (by omega), nI_div (show m < 2 ^ 31 by omega) hg (by omega), i64_N (show t / Nat.gcd m t < 2 ^ 31 by omega), i64_N (show m / Nat.gcd m t < 2 ^ 31 by omega)]
    unfold meA
    rcases (show pt = 0 ∨ pt = 1 by omega) with e | e
    · subst e; rw [if_pos (show nI 0 = (0 : Int32) from rfl), if_pos rfl]; rfl
    · subst e; rw [if_neg (show ¬ (nI 1 = (0 : Int32)) by decide +kernel), if_neg (by decide)]; rfl
  | succ r ih =>
    intro fu i t σ s hi hf ht hs
    obtain ⟨fu, rfl⟩ : ∃ f, fu = f + 1 := ⟨fu - 1, by omega⟩
    have h0 : n_n nt0 = 0 := rfl
    obtain ⟨σ1, e1, a1, a2, a3⟩ := fr_mn_in hd (od := od) hn (k55 := L_FR_mean_55 fu) (x2 := nI m) (x5 := nI pt) (x6 := nI t) (x7 := nI i) n LF 0 (sI σ 11 0 0) s nt0 (by omega) (by rw [LF_big]; omega) (by rw [g_sI_ne (by omega)]; exact hs) ⟨g_sI_eq _ _ _ _, fun p hp => absurd hp (Nat.not_lt_zero p)⟩ nt0_wf (by omega)
    obtain ⟨c1, c2⟩ := mnN_ok d od n s nt0 nt0_wf (by omega)
    rw [h0, Nat.zero_add] at c2
    have hw : 2 ^ n - 1 < 2 ^ n_n (mnN d od n s nt0).2 := by rw [c2]; have := Nat.two_pow_pos n; omega
    obtain ⟨σ2, e2, r2⟩ := fi_search c1 (o := 11) (s := 0) (m := 0) (by omega) (by decide +kernel) (by decide) (by decide) hw a2
    have tl := topN_le c1 0 0 (2 ^ n - 1)
    obtain ⟨σ', e3, r3⟩ := ih fu (i + 1) (t + topN (mnN d od n s nt0).2 0 0 (2 ^ n - 1)) σ2 (mnN d od n s nt0).1 (by omega) (by omega) (by omega) (by rw [(r2 33 0 (kF_t (by omega))).1]; exact a1)
    refine ⟨σ', ?_, fun c j hc => ?_⟩
    · rw [mtN_s, ← e3]
      show B_FR_mean_55 (L_FR_mean_55 fu) _ _ _ _ _ _ _ = _
      unfold B_FR_mean_55
      rw [if_neg (nI_ge (by omega) (by omega)), show L_FR_mean_72 (L_FR_mean_55 fu) LF (nI m) (nI n) od (nI pt) (nI t) (nI i) 0 (sI σ 11 0 0) = _ from e1, nt_whole a2 c1, Option.bind_some, c2]
      simp only []
      rw [show f_Finder_search 11 0 0 (lN (2 ^ n - 1)) σ1 = _ from e2, Option.bind_some, nI_1, nI_add]
    · obtain ⟨k1, k2, k3⟩ := kC_d hc
      obtain ⟨g1, g2⟩ := r3 c j hc
      obtain ⟨g3, g4⟩ := r2 c j (kF_t k3)
      obtain ⟨g5, g6⟩ := a3 c j k1 k2
      exact ⟨by rw [g1, g3, g5, g_sI_ne (by omega)], by rw [g2, g4, g6]; rfl⟩
theorem MSt.netU3 {σ σ' : Sto} {A : Ast} {N' : Nt} (h : MSt σ A) (hN : ModAt σ' N') (hs : ∀ c j, kM c j = true → (52 ≤ c ∨ (c = 48 ∧ j ≠ 0)) → gI σ' c j = gI σ c j ∧ gL σ' c j = gL σ c j) : MSt σ' (N', A.2) := by
  obtain ⟨h1, h2, ⟨h3, h3b⟩, ⟨h4, h4b⟩, h5, h6⟩ := h
  refine ⟨hN, ?_, ⟨?_, ?_⟩, ⟨?_, ?_⟩, ?_, ?_⟩
  · show (match s_K A with | none => gI σ' 48 4 = 0 | some N => gI σ' 48 4 = 1 ∧ gI σ' 48 5 = nI (n_n N) ∧ ∀ p, p < n_n N → gI σ' 52 p = nI (n_k N p) ∧ gI σ' 53 p = nI (n_f N p) ∧ gL σ' 54 p = lN (n_j N p))
    cases hK : s_K A with
    | none => rw [hK] at h2; exact ((hs 48 4 (by decide) (by omega)).1).trans h2
    | some N =>
      rw [hK] at h2
      refine ⟨((hs 48 4 (by decide) (by omega)).1).trans h2.1, ((hs 48 5 (by decide) (by omega)).1).trans h2.2.1, fun p hp => ?_⟩
      obtain ⟨a1, a2, a3⟩ := h2.2.2 p hp
      exact ⟨by rw [(hs 52 p (by simp [kM]) (by omega)).1]; exact a1, by rw [(hs 53 p (by simp [kM]) (by omega)).1]; exact a2, by rw [(hs 54 p (by simp [kM]) (by omega)).2]; exact a3⟩
  · rw [(hs 48 19 (by decide) (by omega)).1]; exact h3
  · intro i hi
    rw [(hs 60 i (by simp [kM]) (by omega)).1]; exact h3b i hi
  · rw [(hs 48 24 (by decide) (by omega)).1]; exact h4
  · intro i hi
    rw [(hs 62 i (by simp [kM]) (by omega)).1]; exact h4b i hi
  · intro q hq
    obtain ⟨a1, a2, a3⟩ := h5 q hq
    exact ⟨by rw [(hs 69 q (by simp [kM]) (by omega)).1]; exact a1, by rw [(hs 70 q (by simp [kM]) (by omega)).1]; exact a2, fun i hi => by rw [(hs 71 _ (by simp [kM]) (by omega)).1]; exact a3 i hi⟩
  · intro q hq
    obtain ⟨a1, a2, a3⟩ := h6 q hq
    exact ⟨by rw [(hs 66 q (by simp [kM]) (by omega)).1]; exact a1, fun z => ⟨by rw [(hs 68 q (by simp [kM]) (by omega)).1]; exact (a2 z).1, by rw [(hs 67 q (by simp [kM]) (by omega)).2]; exact (a2 z).2⟩, fun z => by rw [(hs 67 q (by simp [kM]) (by omega)).2]; exact a3 z⟩
theorem mo_mn_in {d : Int32 → Int32} (hd : MoD d) {od : Int32} {n : Nat} (hn : n ≤ 40) {k93 : Int32 → Int32 → Int32 → Int32 → Int32 → Int64 → Int32 → Sto → Option (Int64 × Sto)} {x2 x5 x6 x9 : Int32} {x7 : Int64} : ∀ (r fu i : Nat) (σ : Sto) (s : Int32) (N : Nt), i + r = n → r < fu → gI σ 48 32 = s → ModAt σ N → WfN N → n_n N + r ≤ 40 →
    ∃ σ', L_Mo_mean_107 k93 fu x2 (nI n) od x5 x6 x7 x9 (nI i) σ = ((f_Mo_everybody  σ').bind fun q7 => ((f_Mo_topOf (0) (0) q7.1 q7.2).bind fun q8 => (lt1 (x7 + (Int32.toInt64 q8.1)) fun y => k93 x2 (nI n) od x5 x6 y (x9 + (1)) q8.2))) ∧ gI σ' 48 32 = (mnN d od r s N).1 ∧ ModAt σ' (mnN d od r s N).2 ∧ (∀ c j, ¬ (c = 48 ∧ j = 32) → ¬ (c = 48 ∧ j = 0) → c ≠ 49 → c ≠ 50 → c ≠ 51 → gI σ' c j = gI σ c j ∧ gL σ' c j = gL σ c j) := by
  intro r
  induction r with
  | zero =>
    intro fu i σ s N hi hf hs h wf hN
    obtain ⟨fu, rfl⟩ : ∃ f, fu = f + 1 := ⟨fu - 1, by omega⟩
    refine ⟨σ, ?_, hs, h, fun _ _ _ _ _ _ _ => ⟨rfl, rfl⟩⟩
    show B_Mo_mean_107 k93 (L_Mo_mean_107 k93 fu) _ _ _ _ _ _ _ _ _ = _
    unfold B_Mo_mean_107
    rw [if_pos (nI_le (by omega) (by omega))]
  | succ r ih =>
    intro fu i σ s N hi hf hs h wf hN
    obtain ⟨fu, rfl⟩ : ∃ f, fu = f + 1 := ⟨fu - 1, by omega⟩
    rw [mnN_s]
    obtain ⟨σ1, σ2, e1, e2, a1, a2, a3⟩ := mo_comesA hd (od := od) hs h wf (by omega) (show 0 < 6 by decide) (show 0 < 100 by decide)
    obtain ⟨c1, c2⟩ := cmN_ok d od s wf (show n_n N < 40 by omega) (show 0 < 6 by decide) (show 0 < 100 by decide)
    obtain ⟨σ', e, b0, b1, b2⟩ := ih fu (i + 1) σ2 _ _ (by omega) (by omega) a1 a2 c1 (by omega)
    refine ⟨σ', ?_, b0, b1, fun c j x y z u v => ⟨by rw [(b2 c j x y z u v).1, (a3 c j x y z u v).1], by rw [(b2 c j x y z u v).2, (a3 c j x y z u v).2]⟩⟩
    rw [← e]
    show B_Mo_mean_107 k93 (L_Mo_mean_107 k93 fu) _ _ _ _ _ _ _ _ _ = _
    unfold B_Mo_mean_107
    rw [if_neg (nI_ge (by omega) (by omega)), show f_Mo_comes 0 0 σ = _ from e1, Option.bind_some]
    simp only []
    rw [e2, Option.bind_some, nI_1]
/-- what dealing and looking leave alone -/
def FrMn (σ σ' : Sto) : Prop := ∀ c j, ¬ (c = 48 ∧ (j = 32 ∨ j = 0 ∨ j = 15)) → c ≠ 49 → c ≠ 50 → c ≠ 51 → c ≠ 57 → gI σ' c j = gI σ c j ∧ gL σ' c j = gL σ c j
theorem mo_mn_out {d : Int32 → Int32} (hd : MoD d) {od : Int32} {n m : Nat} (hn : n ≤ 16) (hm1 : 0 < m) (hm : m ≤ 12) {x5 x6 : Int32} : ∀ (r fu i t : Nat) (σ : Sto) (s : Int32), i + r = m → r < fu → t ≤ 12000 * i → gI σ 48 32 = s → ∃ σ', L_Mo_mean_93 fu (nI m) (nI n) od x5 x6 (lN t) (nI i) σ = ((f_Mo_copies 64 49 63 50 65 51 (sI σ' 48 0 x6)).bind fun q6 => (if lN (mtN d od n r s t) = (0 : Int64) then some ((Int32.toInt64 x5), q6.2)
  else L_Mo_mean_205 LF (nI m) x5 (lN (mtN d od n r s t)) (lN (mtN d od n r s t)) (Int32.toInt64 (nI m)) q6.2)) ∧ FrMn σ σ' := by
  intro r
  induction r with
  | zero =>
    intro fu i t σ s hi hf ht hs
    obtain ⟨fu, rfl⟩ : ∃ f, fu = f + 1 := ⟨fu - 1, by omega⟩
    refine ⟨σ, ?_, fun _ _ _ _ _ _ _ => ⟨rfl, rfl⟩⟩
    show B_Mo_mean_93 (L_Mo_mean_93 fu) _ _ _ _ _ _ _ _ = _
    unfold B_Mo_mean_93
    rw [if_pos (nI_le (by omega) (by omega))]; rfl
  | succ r ih =>
    intro fu i t σ s hi hf ht hs
    obtain ⟨fu, rfl⟩ : ∃ f, fu = f + 1 := ⟨fu - 1, by omega⟩
    have h0 : n_n nt0 = 0 := rfl
    obtain ⟨σ1, e1, a1, a2, a3⟩ := mo_mn_in hd (od := od) (show n ≤ 40 by omega) (k93 := L_Mo_mean_93 fu) (x2 := nI m) (x5 := x5) (x6 := x6) (x7 := lN t) (x9 := nI i) n LF 0 (sI σ 48 0 0) s nt0 (by omega) (by rw [LF_big]; omega) (by rw [g_sI_ne (by omega)]; exact hs) ⟨g_sI_eq _ _ _ _, fun p hp => absurd hp (Nat.not_lt_zero p)⟩ nt0_wf (by omega)
    obtain ⟨c1, c2⟩ := mnN_ok d od n s nt0 nt0_wf (by omega)
    rw [h0, Nat.zero_add] at c2
    have hw0 : 2 ^ n - 1 < 2 ^ n := by have := Nat.two_pow_pos n; omega
    have hw : 2 ^ n - 1 < 2 ^ n_n (mnN d od n s nt0).2 := by rw [c2]; exact hw0
    have hpc : pc (2 ^ n - 1) ≤ 16 := by
      rw [pc_lt (K := n) hw0 (by omega)]; exact Nat.le_trans (pcK_le n _) hn
    obtain ⟨σ2, e2, r2⟩ := mo_topOf c1 (s := 0) (m := 0) (by decide) (by decide) hw hpc a2
    have tl := topN_le c1 0 0 (2 ^ n - 1)
    obtain ⟨σ', e3, r3⟩ := ih fu (i + 1) (t + topN (mnN d od n s nt0).2 0 0 (2 ^ n - 1)) σ2 (mnN d od n s nt0).1 (by omega) (by omega) (by omega) (by rw [(r2 48 32 (kH_t (by omega))).1]; exact a1)
    refine ⟨σ', ?_, fun c j k1 k2 k3 k4 k5 => ?_⟩
    · rw [mtN_s, ← e3]
      show B_Mo_mean_93 (L_Mo_mean_93 fu) _ _ _ _ _ _ _ _ = _
      unfold B_Mo_mean_93
      rw [if_neg (nI_ge (by omega) (by omega)), show L_Mo_mean_107 (L_Mo_mean_93 fu) LF (nI m) (nI n) od x5 x6 (lN t) (nI i) 0 (sI σ 48 0 0) = _ from e1]
      unfold f_Mo_everybody B_Mo_everybody_0
      rw [a2.1, c2, lsh_1 (by omega), show (1 : Int64) = lN 1 from rfl, lN_sub (Nat.one_le_two_pow), Option.bind_some]
      simp only []
      rw [show f_Mo_topOf 0 0 (lN (2 ^ n - 1)) σ1 = _ from e2, Option.bind_some, lt1_eq, i64_N (by omega), lN_add, nI_1]
    · obtain ⟨g1, g2⟩ := r3 c j k1 k2 k3 k4 k5
      obtain ⟨g3, g4⟩ := r2 c j (kH_t (by omega))
      obtain ⟨g5, g6⟩ := a3 c j (by omega) (by omega) k2 k3 k4
      exact ⟨by rw [g1, g3, g5, g_sI_ne (by omega)], by rw [g2, g4, g6]; rfl⟩
theorem mo_mn_end {m pt t : Nat} {σ : Sto} (hm1 : 0 < m) (hm : m ≤ 12) (hpt : pt < 2) (tl : t ≤ 0 + 12000 * m) : (if lN t = (0 : Int64) then some ((Int32.toInt64 (nI pt)), σ) else L_Mo_mean_205 LF (nI m) (nI pt) (lN t) (lN t) (Int32.toInt64 (nI m)) σ) = some (meA m pt t, σ) := by
  unfold meA
  by_cases ht : t = 0
  · subst ht
    rw [if_pos (show lN 0 = (0 : Int64) from rfl), i64_N (by omega), Nat.gcd_zero_right]
    rcases (show pt = 0 ∨ pt = 1 by omega) with e | e
    · subst e; rw [if_pos rfl, Nat.zero_div]
    · subst e; rw [if_neg (by decide), Nat.div_self (by omega)]
  · rw [if_neg (by rw [lN_eq0 (by omega)]; exact ht), i64_N (by omega)]
    exact mo_gcd (by omega) (by omega) hpt (by omega) m LF t m σ (Nat.le_refl _) (by rw [LF_big]; omega) (by omega) (by omega) rfl
theorem fr_mn_c {d : Int32 → Int32} (hd : LotD d) {od : Int32} {n m pt : Nat} (hn : n ≤ 40) (hm1 : 0 < m) (hm : m ≤ 12) (hpt : pt < 2) (σ : Sto) (s : Int32) : ∃ σ', L_FR_mean_55 LF (nI m) (nI n) od (nI pt) 0 0 (sI σ 33 0 s) = some (meA m pt (mtN d od n m s 0), σ') ∧ Scr kC σ σ' := by
  obtain ⟨σ', e, r⟩ := fr_mn_out hd (od := od) (n := n) (m := m) (pt := pt) hn hm1 hm hpt m LF 0 0 (sI σ 33 0 s) s (by omega) (by rw [LF_big]; omega) (by omega) (g_sI_eq _ _ _ _)
  exact ⟨σ', e, (Scr.sI (by decide)).tr r⟩
theorem mo_mn_c {d : Int32 → Int32} (hd : MoD d) {od : Int32} {n m : Nat} (hn : n ≤ 16) (hm1 : 0 < m) (hm : m ≤ 12) {x5 x6 : Int32} (σ : Sto) (s : Int32) : ∃ σ', L_Mo_mean_93 LF (nI m) (nI n) od x5 x6 0 0 (sI σ 48 32 s) = ((f_Mo_copies 64 49 63 50 65 51 (sI σ' 48 0 x6)).bind fun q6 => (if lN (mtN d od n m s 0) = (0 : Int64) then some ((Int32.toInt64 x5), q6.2)
  else L_Mo_mean_205 LF (nI m) x5 (lN (mtN d od n m s 0)) (lN (mtN d od n m s 0)) (Int32.toInt64 (nI m)) q6.2)) ∧ FrMn (sI σ 48 32 s) σ' := by
  obtain ⟨σ', e, r⟩ := mo_mn_out hd (od := od) (n := n) (m := m) (x5 := x5) (x6 := x6) hn hm1 hm m LF 0 0 (sI σ 48 32 s) s (by omega) (by rw [LF_big]; omega) (by omega) (g_sI_eq _ _ _ _)
  exact ⟨σ', e, r⟩
theorem mo_cps {a0 a1 a2 a3 a4 a5 : Nat} (l0 : ln a0 = 40) (l1 : ln a1 = 40) (l2 : ln a2 = 40) (l3 : ln a3 = 40) (l4 : ln a4 = 40) (l5 : ln a5 = 40) (d1 : a1 ≠ a0) (d2 : a1 ≠ a2) (d3 : a1 ≠ a3) (d4 : a3 ≠ a0) (d5 : a3 ≠ a2) (d6 : a5 ≠ a4) (σ : Sto) : ∃ σ', f_Mo_copies a0 a1 a2 a3 a4 a5 σ = some ((), σ') ∧ (∀ i, i < 40 → gI σ' a1 i = gI σ a0 i ∧ gI σ' a3 i = gI σ a2 i ∧ gL σ' a5 i = gL σ a4 i) ∧ (∀ c j, c ≠ a1 → c ≠ a3 → gI σ' c j = gI σ c j) ∧ (∀ c j, c ≠ a5 → gL σ' c j = gL σ c j) := by
  obtain ⟨σ1, e1, f1, _, f3, f4⟩ := mo_copies_loop l0 l1 l2 l3 l4 l5 d1 d2 d3 d4 d5 d6 40 LF 0 σ (by omega) (by rw [LF_big]; omega)
  exact ⟨σ1, e1, fun i hi => f1 i (by omega) hi, f3, f4⟩
theorem mo_mn_m {d : Int32 → Int32} (hd : MoD d) {od s : Int32} {n m pt : Nat} (hn : n ≤ 16) (hm1 : 0 < m) (hm : m ≤ 12) (hpt : pt < 2) {σ : Sto} {N : Nt} (wf : WfN N) (hN : ModAt σ N) : ∃ σ1 σ3, f_Mo_copies 49 64 50 63 51 65 σ = some ((), σ1) ∧ L_Mo_mean_93 LF (nI m) (nI n) od (nI pt) (gI σ 48 0) 0 0 (sI σ1 48 32 s) = some (meA m pt (mtN d od n m s 0), σ3) ∧ ModAt σ3 N ∧ (∀ c j, ¬ (c = 48 ∧ (j = 32 ∨ j = 0 ∨ j = 15)) → c ≠ 49 → c ≠ 50 → c ≠ 51 → c ≠ 57 → c ≠ 63 → c ≠ 64 → c ≠ 65 → gI σ3 c j = gI σ c j ∧ gL σ3 c j = gL σ c j) := by
  obtain ⟨σ1, e1, f1, f3, f4⟩ := mo_cps (a0 := 49) (a1 := 64) (a2 := 50) (a3 := 63) (a4 := 51) (a5 := 65) rfl rfl rfl rfl rfl rfl (by decide) (by decide) (by decide) (by decide) (by decide) (by decide) σ
  obtain ⟨σ2, e2, r2⟩ := mo_mn_c hd (od := od) (n := n) (m := m) (x5 := nI pt) (x6 := gI σ 48 0) hn hm1 hm σ1 s
  obtain ⟨σ3, e3, g1', g3', g4⟩ := mo_cps (a0 := 64) (a1 := 49) (a2 := 63) (a3 := 50) (a4 := 65) (a5 := 51) rfl rfl rfl rfl rfl rfl (by decide) (by decide) (by decide) (by decide) (by decide) (by decide) (sI σ2 48 0 (gI σ 48 0))
  have hnn := wf.1
  refine ⟨σ1, σ3, e1, ?_, ⟨by rw [g3' 48 0 (by omega) (by omega), g_sI_eq]; exact hN.1, fun p hp => ?_⟩, fun c j k1 k2 k3 k4 k5 k6 k7 k8 => ?_⟩
  · rw [e2, e3, Option.bind_some]
    exact mo_mn_end hm1 hm hpt (mtN_le d od (show n ≤ 40 by omega) m s 0)
  · obtain ⟨p1, p2, p3⟩ := hN.2 p hp
    obtain ⟨q1, q2, q3⟩ := g1' p (by omega)
    obtain ⟨u1, u2, u3⟩ := f1 p (by omega)
    refine ⟨?_, ?_, ?_⟩
    · rw [q1, g_sI_ne (by omega), (r2 64 p (by omega) (by omega) (by omega) (by omega) (by omega)).1, g_sI_ne (by omega), u1]; exact p1
    · rw [q2, g_sI_ne (by omega), (r2 63 p (by omega) (by omega) (by omega) (by omega) (by omega)).1, g_sI_ne (by omega), u2]; exact p2
    · rw [q3, gL_sI, (r2 65 p (by omega) (by omega) (by omega) (by omega) (by omega)).2, gL_sI, u3]; exact p3
  · obtain ⟨v1, v2⟩ := r2 c j k1 k2 k3 k4 k5
    exact ⟨by rw [g3' c j k2 k3, g_sI_ne (by omega), v1, g_sI_ne (by omega), f3 c j k7 k6], by rw [g4 c j k4, gL_sI, v2, gL_sI, f4 c j k8]⟩
theorem kM_d {c j : Nat} (h : kM c j = true) : c ≠ 57 ∧ c ≠ 63 ∧ c ≠ 64 ∧ c ≠ 65 ∧ (c = 48 → j = 0 ∨ j = 4 ∨ j = 5 ∨ j = 19 ∨ j = 24) := by
  revert h
  unfold kM
  simp only [Bool.or_eq_true, Bool.and_eq_true, decide_eq_true_eq]
  omega
theorem mo_mn_p {σ σ3 : Sto} {A : Ast} (h : MSt σ A) (nN : ModAt σ3 (s_N A)) (fr : ∀ c j, ¬ (c = 48 ∧ (j = 32 ∨ j = 0 ∨ j = 15)) → c ≠ 49 → c ≠ 50 → c ≠ 51 → c ≠ 57 → c ≠ 63 → c ≠ 64 → c ≠ 65 → gI σ3 c j = gI σ c j ∧ gL σ3 c j = gL σ c j) : MSt σ3 A ∧ LoEq σ σ3 := by
  refine ⟨h.netU3 nN (fun c j k1 k2 => ?_), fun c j hc => fr c j (by omega) (by omega) (by omega) (by omega) (by omega) (by omega) (by omega) (by omega)⟩
  obtain ⟨z1, z2, z3, z4, z5⟩ := kM_d k1
  exact fr c j (fun z => by have := z5 z.1; omega) (by omega) (by omega) (by omega) z1 z2 z3 z4
theorem op_mean_go {d : Int32 → Int32} (hd : LotD d) (hdm : MoD d) (a0 d3 : Int32) {n m pt : Nat} (hm1 : 0 < m) (hm : m ≤ 12) (hn : n ≤ 10) (hpt : pt < 2) (h3 : ptB d3 11 = true) (h4 : oneB (nI pt) = true) : Op (f_FR_mean a0 (nI m) (nI n) d3 (nI pt)) (f_Mo_mean a0 (nI m) (nI n) d3 (nI pt)) := by
  have em : (nI m).toInt = (m : Int) := nI_toInt (by omega)
  have en : (nI n).toInt = (n : Int) := nI_toInt (by omega)
  have l1 : ¬ (nI m < 1) := by rw [Int32.lt_iff_toInt_lt, show (1 : Int32).toInt = 1 by decide +kernel, em]; omega
  have l2 : ¬ ((12 : Int32) < nI m) := by rw [Int32.lt_iff_toInt_lt, show (12 : Int32).toInt = 12 by decide +kernel, em]; omega
  have l3 : ¬ (nI n < 0) := by rw [Int32.lt_iff_toInt_lt, show (0 : Int32).toInt = 0 by decide +kernel, en]; omega
  have l4 : ¬ ((10 : Int32) < nI n) := by rw [Int32.lt_iff_toInt_lt, show (10 : Int32).toInt = 10 by decide +kernel, en]; omega
  have mi : ∀ σ, f_Mo_in (Int32.toInt64 (nI m)) 1 12 σ = some (true, σ) := fun σ => by
    rw [mo_inI, show (1 : Int64).toInt = 1 by decide +kernel, show (12 : Int64).toInt = 12 by decide +kernel, em, decide_eq_true (by omega), decide_eq_true (by omega)]; rfl
  have mi2 : ∀ σ, f_Mo_in (Int32.toInt64 (nI n)) 0 10 σ = some (true, σ) := fun σ => by
    rw [mo_inI, show (0 : Int64).toInt = 0 by decide +kernel, show (10 : Int64).toInt = 10 by decide +kernel, en, decide_eq_true (by omega), decide_eq_true (by omega)]; rfl
  have mi3 : ∀ σ, f_Mo_in (Int32.toInt64 d3) 0 10 σ = some (true, σ) := fun σ => by
    rw [mo_rng (x := d3) (m := 10) (k := 10) (by decide +kernel), h3]
  refine Op.mk (fun A => meA m pt (mtN d d3 n m a0 0)) id (fun σ A wf h => ?_) (fun σ A wf h => ?_)
  · obtain ⟨σ', e, r'⟩ := fr_mn_c hd (od := d3) (n := n) (m := m) (pt := pt) (by omega) hm1 hm hpt σ a0
    refine ⟨σ', ?_, wf, h.scrC r', fun c j hc => r' c j (kC_hi hc)⟩
    unfold f_FR_mean B_FR_mean_0
    rw [if_neg l1, if_neg l2, if_neg l3, if_neg l4, fr_isOdds, Option.bind_some]
    simp only []
    rw [h3, ite_bt, fr_isBit, Option.bind_some]
    simp only []
    rw [h4, ite_bt, e]
  · obtain ⟨σ1, σ3, e1, e2, nN, fr⟩ := mo_mn_m hdm (od := d3) (s := a0) (n := n) (m := m) (pt := pt) (by omega) hm1 hm hpt wf.1 h.net
    obtain ⟨m1, m2⟩ := mo_mn_p h nN fr
    refine ⟨σ3, ?_, m1, m2⟩
    unfold f_Mo_mean B_Mo_mean_0
    rw [mi, Option.bind_some]
    simp only []
    rw [ite_bt, mi2, Option.bind_some]
    simp only []
    rw [ite_bt, mi3, Option.bind_some]
    simp only []
    rw [ite_bt, mo_isOne, Option.bind_some]
    simp only []
    rw [h4, ite_bt, e1, Option.bind_some]
    simp only []
    rw [e2]
theorem op_mean (a0 : Int32) (b1 : Int32) (c2 : Int32) (d3 : Int32) (e4 : Int32) : Op (f_FR_mean a0 b1 c2 d3 e4) (f_Mo_mean a0 b1 c2 d3 e4) := by
  obtain ⟨d, hd, hdm⟩ := lot_any
  have l1 : b1 < 1 ↔ b1.toInt < 1 := by rw [Int32.lt_iff_toInt_lt, show (1 : Int32).toInt = 1 by decide +kernel]
  have l2 : (12 : Int32) < b1 ↔ 12 < b1.toInt := by rw [Int32.lt_iff_toInt_lt, show (12 : Int32).toInt = 12 by decide +kernel]
  have l3 : c2 < 0 ↔ c2.toInt < 0 := by rw [Int32.lt_iff_toInt_lt, show (0 : Int32).toInt = 0 by decide +kernel]
  have l4 : (10 : Int32) < c2 ↔ 10 < c2.toInt := by rw [Int32.lt_iff_toInt_lt, show (10 : Int32).toInt = 10 by decide +kernel]
  have mi : ∀ σ, f_Mo_in (Int32.toInt64 b1) 1 12 σ = some (decide (1 ≤ b1.toInt) && decide (b1.toInt ≤ 12), σ) := fun σ => by
    rw [mo_inI, show (1 : Int64).toInt = 1 by decide +kernel, show (12 : Int64).toInt = 12 by decide +kernel]
  have mi2 : ∀ σ, f_Mo_in (Int32.toInt64 c2) 0 10 σ = some (decide (0 ≤ c2.toInt) && decide (c2.toInt ≤ 10), σ) := fun σ => by
    rw [mo_inI, show (0 : Int64).toInt = 0 by decide +kernel, show (10 : Int64).toInt = 10 by decide +kernel]
  by_cases g1 : 1 ≤ b1.toInt ∧ b1.toInt ≤ 12
  rotate_left
  · refine Op.ask (fun _ => -2) (fun σ A wf h => ⟨σ, ?_, Scr.rf⟩) (fun σ A wf h => ⟨σ, ?_, Scr.rf⟩)
    · unfold f_FR_mean B_FR_mean_0
      simp only [l1, l2]
      by_cases g2 : b1.toInt < 1
      · rw [if_pos g2]
      · rw [if_neg g2, if_pos (by omega)]
    · unfold f_Mo_mean B_Mo_mean_0
      simp only [mi, Option.bind_some]
      rw [show (decide (1 ≤ b1.toInt) && decide (b1.toInt ≤ 12)) = false by simp; omega, ite_bf]
  have t1 : (decide (1 ≤ b1.toInt) && decide (b1.toInt ≤ 12)) = true := by simp; omega
  by_cases g3 : 0 ≤ c2.toInt ∧ c2.toInt ≤ 10
  rotate_left
  · refine Op.ask (fun _ => -2) (fun σ A wf h => ⟨σ, ?_, Scr.rf⟩) (fun σ A wf h => ⟨σ, ?_, Scr.rf⟩)
    · unfold f_FR_mean B_FR_mean_0
      simp only [l1, l2, l3, l4]
      rw [if_neg (by omega), if_neg (by omega)]
      by_cases g2 : c2.toInt < 0
      · rw [if_pos g2]
      · rw [if_neg g2, if_pos (by omega)]
    · unfold f_Mo_mean B_Mo_mean_0
      simp only [mi, mi2, Option.bind_some]
      rw [t1, ite_bt, show (decide (0 ≤ c2.toInt) && decide (c2.toInt ≤ 10)) = false by simp; omega, ite_bf]
  have t2 : (decide (0 ≤ c2.toInt) && decide (c2.toInt ≤ 10)) = true := by simp; omega
  cases h3 : ptB d3 11
  · refine Op.ask (fun _ => -2) (fun σ A wf h => ⟨σ, ?_, Scr.rf⟩) (fun σ A wf h => ⟨σ, ?_, Scr.rf⟩)
    · unfold f_FR_mean B_FR_mean_0
      simp only [l1, l2, l3, l4, fr_isOdds, h3, Option.bind_some, ite_bf]
      rw [if_neg (by omega), if_neg (by omega), if_neg (by omega), if_neg (by omega)]
    · unfold f_Mo_mean B_Mo_mean_0
      simp only [mi, mi2, Option.bind_some, mo_rng (x := d3) (m := 10) (k := 10) (by decide +kernel), h3, ite_bf]
      rw [t1, ite_bt, t2, ite_bt]
  cases h4 : oneB e4
  · refine Op.ask (fun _ => -2) (fun σ A wf h => ⟨σ, ?_, Scr.rf⟩) (fun σ A wf h => ⟨σ, ?_, Scr.rf⟩)
    · unfold f_FR_mean B_FR_mean_0
      simp only [l1, l2, l3, l4, fr_isOdds, h3, Option.bind_some, ite_bf, ite_bt, fr_isBit, h4]
      rw [if_neg (by omega), if_neg (by omega), if_neg (by omega), if_neg (by omega)]
    · unfold f_Mo_mean B_Mo_mean_0
      simp only [mi, mi2, Option.bind_some, mo_rng (x := d3) (m := 10) (k := 10) (by decide +kernel), h3, ite_bf, ite_bt, mo_isOne, h4]
      rw [t1, ite_bt, t2, ite_bt]
  obtain ⟨m, hm, rfl⟩ : ∃ k, (1 ≤ k ∧ k ≤ 12) ∧ b1 = nI k := ⟨b1.toInt.toNat, by omega, Int32.toInt_inj.mp (by rw [nI_toInt (by omega)]; omega)⟩
  obtain ⟨n, hn, rfl⟩ : ∃ k, k ≤ 10 ∧ c2 = nI k := ⟨c2.toInt.toNat, by omega, Int32.toInt_inj.mp (by rw [nI_toInt (by omega)]; omega)⟩
  obtain ⟨pt, hpt, rfl⟩ := oneB_of h4
  exact op_mean_go hd hdm a0 d3 (by omega) hm.2 hn hpt h3 h4
