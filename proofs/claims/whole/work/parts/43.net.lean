/-! the class's Net: what writes it -/
theorem g_sI_eq (σ : Sto) (o j : Nat) (v : Int32) : gI (sI σ o j v) o j = v := by simp [gI_sI]
theorem g_sI_ne {σ : Sto} {o j a b : Nat} {v : Int32} (h : ¬ (a = o ∧ b = j)) : gI (sI σ o j v) a b = gI σ a b := by simp only [gI_sI, if_neg h]
theorem g_sL_eq (σ : Sto) (o j : Nat) (v : Int64) : gL (sL σ o j v) o j = v := by simp [gL_sL]
theorem g_sL_ne {σ : Sto} {o j a b : Nat} {v : Int64} (h : ¬ (a = o ∧ b = j)) : gL (sL σ o j v) a b = gL σ a b := by simp only [gL_sL, if_neg h]
/-- nothing changed but cells o .. o + 4 -/
def FrN (o : Nat) (σ σ' : Sto) : Prop := (∀ c, (c < o ∨ o + 5 ≤ c) → (∀ j, gI σ' c j = gI σ c j) ∧ ∀ j, gL σ' c j = gL σ c j) ∧ gN σ' = gN σ
theorem FrN.rf {o : Nat} {σ : Sto} : FrN o σ σ := ⟨fun _ _ => ⟨fun _ => rfl, fun _ => rfl⟩, rfl⟩
theorem FrN.tr {o : Nat} {a b c : Sto} (h1 : FrN o a b) (h2 : FrN o b c) : FrN o a c :=
  ⟨fun d hd => ⟨fun j => ((h2.1 d hd).1 j).trans ((h1.1 d hd).1 j), fun j => ((h2.1 d hd).2 j).trans ((h1.1 d hd).2 j)⟩, h2.2.trans h1.2⟩
theorem FrN.sI {o i j : Nat} {σ : Sto} {v : Int32} (hi : o ≤ i ∧ i < o + 5) : FrN o σ (sI σ i j v) :=
  ⟨fun c hc => ⟨fun k => g_sI_ne (by omega), fun _ => rfl⟩, rfl⟩
theorem FrN.sL {o i j : Nat} {σ : Sto} {v : Int64} (hi : o ≤ i ∧ i < o + 5) : FrN o σ (sL σ i j v) :=
  ⟨fun c hc => ⟨fun _ => rfl, fun k => g_sL_ne (by omega)⟩, rfl⟩
theorem nI_litN (n : Nat) : (OfNat.ofNat n : Int32) = nI n := rfl
theorem nI_div2 {a : Nat} (h : a < 2 ^ 31) : nI a / 2 = nI (a / 2) := by
  apply Int32.toInt_inj.mp
  rw [Int32.toInt_div, nI_toInt h, nI_toInt (by omega), show (2 : Int32).toInt = 2 by decide +kernel]
  rw [Int.bmod_eq_of_le]
  · exact (Int.ofNat_tdiv a 2).symm ▸ rfl
  · have : (a : Int).tdiv 2 = ((a / 2 : Nat) : Int) := (Int.ofNat_tdiv a 2).symm
    omega
  · have : (a : Int).tdiv 2 = ((a / 2 : Nat) : Int) := (Int.ofNat_tdiv a 2).symm
    omega
theorem nI_sub {a b : Nat} (h : b ≤ a) : nI a - nI b = nI (a - b) := by
  have h1 := nI_add (a - b) b
  rw [Nat.sub_add_cancel h] at h1
  rw [← h1]
  apply Int32.toBitVec_inj.mp
  simp
theorem nI_mul (a b : Nat) : nI a * nI b = nI (a * b) := by
  apply Int32.toBitVec_inj.mp
  show BitVec.ofNat 32 a * BitVec.ofNat 32 b = BitVec.ofNat 32 (a * b)
  rw [← BitVec.ofNat_mul]
/-- max(0, f - c) -/
theorem mx0 {f c : Nat} (hf : f < 1000) (hc : c < 1000) : mxI (nI 0) (nI f - nI c) = nI (f - c) := by
  by_cases h : c ≤ f
  · rw [nI_sub h, mxI_N (by omega) (by omega), Nat.max_eq_right (Nat.zero_le _)]
  · have e : (nI f - nI c).toInt = (f : Int) - c := by
      rw [fb_subI] <;> rw [nI_toInt (by omega), nI_toInt (by omega)] <;> omega
    unfold mxI
    rw [if_neg (by rw [Int32.lt_iff_toInt_lt, e, nI_toInt (by omega)]; omega), show f - c = 0 by omega]
theorem nt_weigh {σ : Sto} {o n p k f j : Nat} (hn : n ≤ 40) (hp : p < n) (h0 : gI σ o 0 = nI n) (h1 : gI σ (o + 1) p = nI k) (h2 : gI σ (o + 2) p = nI f) (h3 : gL σ (o + 3) p = lN j) (hk : k < 6) (hf : f < 100) (hj : j < 2 ^ 64) :
    f_Net_weigh o (nI p) σ = some ((), sI σ (o + 4) p (nI (wtv k f (pc j)))) := by
  unfold f_Net_weigh B_Net_weigh_0
  have e0 : f_Net_has o (Int32.toInt64 (nI p)) σ = some (true, σ) := by
    unfold f_Net_has B_Net_has_0
    rw [h0, nI_l (by omega), nI_l (by omega), if_neg, if_neg]
    · rw [lN_le (by omega) (by omega)]; omega
    · rw [show (0 : Int64) = lN 0 from rfl, lN_lt (by omega) (by omega)]; omega
  have hc := pc_le j
  rw [e0, Option.bind_some]
  simp only [b2i_t, inb_ok (show p < 40 by omega) (by decide), if_true, nI_clamp (show p < 2 ^ 31 by omega), lt1_eq, h1, h2, h3]
  rw [if_neg (by decide), bitCount_eq hj, Option.bind_some]
  simp only [h1, nI_litN, nI_eq (show k < 2 ^ 31 by omega) (show 1 < 2 ^ 31 by omega), nI_eq (show k < 2 ^ 31 by omega) (show 2 < 2 ^ 31 by omega), nI_eq (show k < 2 ^ 31 by omega) (show 3 < 2 ^ 31 by omega), nI_eq (show k < 2 ^ 31 by omega) (show 4 < 2 ^ 31 by omega), nI_eq (show k < 2 ^ 31 by omega) (show 5 < 2 ^ 31 by omega), nI_eq (show pc j < 2 ^ 31 by omega) (show 0 < 2 ^ 31 by omega), nI_eq (show 2 < 2 ^ 31 by omega) (show 0 < 2 ^ 31 by omega), mx0 (show f < 1000 by omega) (show pc j < 1000 by omega), nI_mul, nI_add]
  rw [show (nI 2 : Int32) = 2 from rfl, nI_div2 (by omega)]
  unfold wtv
  rcases (show k = 0 ∨ k = 1 ∨ k = 2 ∨ k = 3 ∨ k = 4 ∨ k = 5 by omega) with rfl | rfl | rfl | rfl | rfl | rfl <;> simp
  split <;> rfl
/-- two are joined, or not -/
def tieN (N : Nt) (a b : Nat) (on : Bool) : Nt := (n_n N, n_k N, n_f N, fun p => if p = a then (if on then n_j N a ||| 2 ^ b else nd (n_j N a) (2 ^ b)) else if p = b then (if on then n_j N b ||| 2 ^ a else nd (n_j N b) (2 ^ a)) else n_j N p)
theorem tieN_j (N : Nt) (a b : Nat) (on : Bool) (p : Nat) : n_j (tieN N a b on) p = if p = a then (if on then n_j N a ||| 2 ^ b else nd (n_j N a) (2 ^ b)) else if p = b then (if on then n_j N b ||| 2 ^ a else nd (n_j N b) (2 ^ a)) else n_j N p := rfl
theorem or_lt {a b n : Nat} (ha : a < 2 ^ n) (hb : b < 2 ^ n) : a ||| b < 2 ^ n := Nat.or_lt_two_pow ha hb
theorem tieN_bit {N : Nt} {a b : Nat} {on : Bool} {p q : Nat} (hab : a ≠ b) : (n_j (tieN N a b on) p).testBit q = if (p = a ∧ q = b) ∨ (p = b ∧ q = a) then on else (n_j N p).testBit q := by
  show (if p = a then (if on then n_j N a ||| 2 ^ b else nd (n_j N a) (2 ^ b)) else if p = b then (if on then n_j N b ||| 2 ^ a else nd (n_j N b) (2 ^ a)) else n_j N p).testBit q = _
  by_cases h1 : p = a
  · subst h1
    rw [if_pos rfl]
    cases on with
    | true =>
      rw [if_pos rfl, Nat.testBit_or, Nat.testBit_two_pow]
      by_cases h2 : q = b
      · subst h2; simp
      · simp [h2, Ne.symm h2, hab]
    | false =>
      rw [if_neg (by decide), nd_bit, Nat.testBit_two_pow]
      by_cases h2 : q = b
      · subst h2; simp
      · simp [h2, Ne.symm h2, hab]
  · rw [if_neg h1]
    by_cases h3 : p = b
    · subst h3
      rw [if_pos rfl]
      cases on with
      | true =>
        rw [if_pos rfl, Nat.testBit_or, Nat.testBit_two_pow]
        by_cases h2 : q = a
        · subst h2; simp
        · simp [h2, Ne.symm h2, h1]
      | false =>
        rw [if_neg (by decide), nd_bit, Nat.testBit_two_pow]
        by_cases h2 : q = a
        · subst h2; simp
        · simp [h2, Ne.symm h2, h1]
    · rw [if_neg h3]; simp [h1, h3]
theorem bit_lt {w n : Nat} (h : ∀ i, n ≤ i → w.testBit i = false) : w < 2 ^ n := Nat.lt_pow_two_of_testBit w h
theorem tb_out {w n i : Nat} (h : w < 2 ^ n) (hi : n ≤ i) : w.testBit i = false := Nat.testBit_lt_two_pow (Nat.lt_of_lt_of_le h (two_pow_le hi))
theorem tieN_wf {N : Nt} (wf : WfN N) {a b : Nat} {on : Bool} (ha : a < n_n N) (hb : b < n_n N) (hab : a ≠ b) : WfN (tieN N a b on) := by
  refine ⟨wf.1, fun p hp => ?_⟩
  have hp' : p < n_n N := hp
  obtain ⟨w1, w2, w3, w4, w5⟩ := wf.2 p hp'
  refine ⟨w1, w2, bit_lt (fun i hi => ?_), ?_, fun q hq => ?_⟩
  · rw [tieN_bit hab, if_neg (by have : n_n N ≤ i := hi; omega)]
    exact tb_out w3 hi
  · rw [tieN_bit hab, if_neg (by omega)]
    exact w4
  · rw [tieN_bit hab, tieN_bit hab, w5 q hq]
    by_cases h : (p = a ∧ q = b) ∨ (p = b ∧ q = a)
    · rw [if_pos h, if_pos (by omega)]
    · rw [if_neg h, if_neg (by omega)]
theorem nt_tie {σ : Sto} {o : Nat} {N : Nt} (h : NetAt σ o N) (wf : WfN N) {a b : Nat} {on : Bool} {x : Int32} (hx : x = 0 ↔ on = false) (ha : a < n_n N) (hb : b < n_n N) (hab : a ≠ b) :
    ∃ σ', f_Net_tie o (nI a) (nI b) x σ = some ((), σ') ∧ NetAt σ' o (tieN N a b on) ∧ FrN o σ σ' := by
  have hn := wf.1
  obtain ⟨a1, a2, a3, a4⟩ := h.2 a ha
  obtain ⟨b1, b2, b3, b4⟩ := h.2 b hb
  obtain ⟨wa1, wa2, wa3, wa4, wa5⟩ := wf.2 a ha
  obtain ⟨wb1, wb2, wb3, wb4, wb5⟩ := wf.2 b hb
  have wf' := tieN_wf wf (on := on) ha hb hab
  have hja : n_j (tieN N a b on) a < 2 ^ 64 := jn_lt64 wf' ha
  have hjb : n_j (tieN N a b on) b < 2 ^ 64 := jn_lt64 wf' hb
  have eja : n_j (tieN N a b on) a = (if on then n_j N a ||| 2 ^ b else nd (n_j N a) (2 ^ b)) := by rw [tieN_j, if_pos rfl]
  have ejb : n_j (tieN N a b on) b = (if on then n_j N b ||| 2 ^ a else nd (n_j N b) (2 ^ a)) := by rw [tieN_j, if_neg (Ne.symm hab), if_pos rfl]
  -- the store after both joins
  obtain ⟨σ2, hσ2⟩ : ∃ σ2, σ2 = sL (sL σ (o + 3) a (lN (n_j (tieN N a b on) a))) (o + 3) b (lN (n_j (tieN N a b on) b)) := ⟨_, rfl⟩
  have r0 : ∀ c j, gI σ2 c j = gI σ c j := fun c j => by rw [hσ2]; rfl
  have ra : gL σ2 (o + 3) a = lN (n_j (tieN N a b on) a) := by
    rw [hσ2, g_sL_ne (by omega), g_sL_eq]
  have rb : gL σ2 (o + 3) b = lN (n_j (tieN N a b on) b) := by rw [hσ2, g_sL_eq]
  have rq : ∀ q, q ≠ a → q ≠ b → gL σ2 (o + 3) q = gL σ (o + 3) q := fun q h1 h2 => by
    rw [hσ2, g_sL_ne (by omega), g_sL_ne (by omega)]
  have wA := nt_weigh (σ := σ2) (o := o) hn ha (by rw [r0]; exact h.1) (by rw [r0]; exact a1) (by rw [r0]; exact a2) ra wa1 wa2 hja
  have wB := nt_weigh (σ := sI σ2 (o + 4) a (nI (wtv (n_k N a) (n_f N a) (pc (n_j (tieN N a b on) a))))) (o := o) hn hb (by rw [g_sI_ne (by omega), r0]; exact h.1) (by rw [g_sI_ne (by omega), r0]; exact b1) (by rw [g_sI_ne (by omega), r0]; exact b2) (by rw [gL_sI]; exact rb) wb1 wb2 hjb
  refine ⟨sI (sI σ2 (o + 4) a (nI (wtv (n_k N a) (n_f N a) (pc (n_j (tieN N a b on) a))))) (o + 4) b (nI (wtv (n_k N b) (n_f N b) (pc (n_j (tieN N a b on) b)))), ?_, ?_, ?_⟩
  · unfold f_Net_tie B_Net_tie_0
    rw [nt_hasN h wf ha, Option.bind_some, nt_hasN h wf hb, Option.bind_some]
    simp only [b2i_t, inb_ok (show a < 40 by omega) (by decide), inb_ok (show b < 40 by omega) (by decide), if_true, nI_clamp (show a < 2 ^ 31 by omega), nI_clamp (show b < 2 ^ 31 by omega), lt1_eq, nI_eq (show a < 2 ^ 31 by omega) (show b < 2 ^ 31 by omega), if_neg hab, hx, lsh_1 (show a < 64 by omega), lsh_1 (show b < 64 by omega), a3]
    rw [if_neg (by decide), if_neg (by decide)]
    have hja0 := jn_lt64 wf ha
    have hjb0 := jn_lt64 wf hb
    cases on with
    | false =>
      rw [if_pos rfl]
      rw [lN_nd hja0, g_sL_ne (show ¬ (o + 3 = o + 3 ∧ b = a) by omega), b3, lN_nd hjb0]
      rw [if_neg (by decide)] at eja ejb
      rw [← eja, ← ejb, ← hσ2, wA, Option.bind_some, wB, Option.bind_some]
    | true =>
      rw [if_neg (by decide)]
      rw [fb_orL, g_sL_ne (show ¬ (o + 3 = o + 3 ∧ b = a) by omega), b3, fb_orL]
      rw [if_pos rfl] at eja ejb
      rw [← eja, ← ejb, ← hσ2, wA, Option.bind_some, wB, Option.bind_some]
  · refine ⟨by rw [g_sI_ne (by omega), g_sI_ne (by omega), r0]; exact h.1, fun p hp => ?_⟩
    have hp' : p < n_n N := hp
    obtain ⟨p1, p2, p3, p4⟩ := h.2 p hp'
    refine ⟨by rw [g_sI_ne (by omega), g_sI_ne (by omega), r0]; exact p1, by rw [g_sI_ne (by omega), g_sI_ne (by omega), r0]; exact p2, ?_, ?_⟩
    · rw [gL_sI, gL_sI]
      by_cases h1 : p = a
      · subst h1; exact ra
      · by_cases h2 : p = b
        · subst h2; exact rb
        · rw [rq p h1 h2, p3]
          rw [tieN_j, if_neg h1, if_neg h2]
    · by_cases h2 : p = b
      · subst h2
        rw [g_sI_eq]; rfl
      · rw [g_sI_ne (by omega)]
        by_cases h1 : p = a
        · subst h1
          rw [g_sI_eq]; rfl
        · rw [g_sI_ne (by omega), r0, p4]
          unfold wt
          rw [tieN_j, if_neg h1, if_neg h2]
          rfl
  · have f1 : FrN o σ σ2 := by rw [hσ2]; exact FrN.tr (FrN.sL (by omega)) (FrN.sL (by omega))
    exact FrN.tr f1 (FrN.tr (FrN.sI (by omega)) (FrN.sI (by omega)))
