/-! the reference's small methods -/
theorem mo_in (a lo hi : Int64) (σ : Sto) : f_Mo_in a lo hi σ = some (decide (lo ≤ a) && decide (a ≤ hi), σ) := by
  unfold f_Mo_in B_Mo_in_0
  by_cases h1 : a < lo
  · rw [if_pos h1, decide_eq_false (Int64.not_le.mpr h1)]; rfl
  · rw [if_neg h1, decide_eq_true (Int64.not_lt.mp h1), Bool.true_and]
    by_cases h2 : hi < a
    · rw [if_pos h2, decide_eq_false (Int64.not_le.mpr h2)]
    · rw [if_neg h2, decide_eq_true (Int64.not_lt.mp h2)]
theorem mo_inI (x : Int32) (lo hi : Int64) (σ : Sto) : f_Mo_in (Int32.toInt64 x) lo hi σ = some (decide (lo.toInt ≤ x.toInt) && decide (x.toInt ≤ hi.toInt), σ) := by
  rw [mo_in]
  congr 3
  · congr 1; apply propext; rw [Int64.le_iff_toInt_le]; simp
  · congr 1; apply propext; rw [Int64.le_iff_toInt_le]; simp
theorem mo_isPoint {σ : Sto} {N : Nt} (h : ModAt σ N) (wf : WfN N) (x : Int32) : f_Mo_isPoint x σ = some (ptB x (n_n N), σ) := by
  unfold f_Mo_isPoint B_Mo_isPoint_0
  have hn := wf.1
  rw [h.1, mo_inI, Option.bind_some]
  have e : (Int32.toInt64 (nI (n_n N) - 1)).toInt = (n_n N : Int) - 1 := by
    rw [Int32.toInt_toInt64, fb_subI] <;> rw [nI_toInt (by omega), show (1 : Int32).toInt = 1 by decide +kernel] <;> omega
  rw [e]
  simp only [show ((0 : Int64).toInt) = 0 by decide +kernel]
  unfold ptB
  congr 3
  congr 1
  apply propext
  constructor <;> intro q <;> omega
theorem mo_isSet {σ : Sto} {N : Nt} (h : ModAt σ N) (wf : WfN N) {u : Nat} (hu : u < 2 ^ 64) : f_Mo_isSet (lN u) σ = some (decide (u < 2 ^ n_n N), σ) := by
  unfold f_Mo_isSet B_Mo_isSet_0
  have hn := wf.1
  rw [h.1, lur_N hu (by omega)]
  have e : (lN (u / 2 ^ n_n N) = (0 : Int64)) ↔ u < 2 ^ n_n N := by
    rw [lN_eq0 (Nat.lt_of_le_of_lt (Nat.div_le_self _ _) hu), Nat.div_eq_zero_iff]
    have : 0 < 2 ^ n_n N := Nat.two_pow_pos _
    constructor
    · rintro (q | q)
      · omega
      · exact q
    · exact fun q => Or.inr q
  simp only [e]
  by_cases hs : u < 2 ^ n_n N <;> simp [hs]
def oneB (x : Int32) : Bool := decide (x = 0) || decide (x = 1)
theorem oneB_of {x : Int32} (h : oneB x = true) : ∃ s, s < 2 ∧ x = nI s := by
  simp only [oneB, Bool.or_eq_true, decide_eq_true_eq] at h
  rcases h with h | h
  · exact ⟨0, by omega, h⟩
  · exact ⟨1, by omega, h⟩
theorem mo_isOne (x : Int32) (σ : Sto) : f_Mo_isOne x σ = some (oneB x, σ) := by
  unfold f_Mo_isOne B_Mo_isOne_0 oneB
  by_cases h0 : x = 0
  · simp [h0]
  · by_cases h1 : x = 1 <;> simp [h0, h1]
theorem fr_isBit (x : Int32) (σ : Sto) : f_FR_isBit x σ = some (oneB x, σ) := by
  unfold f_FR_isBit B_FR_isBit_0 oneB
  by_cases h0 : x = 0
  · simp [h0]
  · by_cases h1 : x = 1 <;> simp [h0, h1]
theorem mo_most {a b : Nat} (ha : a < 2 ^ 31) (hb : b < 2 ^ 31) (σ : Sto) : f_Mo_most (nI a) (nI b) σ = some (nI (max a b), σ) := by
  unfold f_Mo_most B_Mo_most_0
  by_cases h : a ≤ b
  · rw [if_pos (nI_le h hb), Nat.max_eq_right h]
  · rw [if_neg (nI_ge (by omega) ha), Nat.max_eq_left (by omega)]
theorem mo_weight {σ : Sto} {N : Nt} (h : ModAt σ N) (wf : WfN N) {p : Nat} (hp : p < n_n N) : f_Mo_weight (nI p) σ = some (nI (wt N p), σ) := by
  have hn := wf.1
  obtain ⟨a1, a2, a3⟩ := h.2 p hp
  obtain ⟨w1, w2, w3, w4, w5⟩ := wf.2 p hp
  have hc := pc_le (n_j N p)
  unfold f_Mo_weight B_Mo_weight_0
  simp only [inb_ok (show p < 40 by omega) (by decide), if_true, nI_clamp (show p < 2 ^ 31 by omega), a3]
  rw [many_eq (jn_lt64 wf hp), Option.bind_some]
  simp only [a2, nI_leI (show n_f N p < 2 ^ 31 by omega) (show pc (n_j N p) < 2 ^ 31 by omega)]
  have key : ∀ s0, s0 = n_f N p - pc (n_j N p) → B_Mo_weight_32 (nI p) (nI (pc (n_j N p))) (nI s0) σ = some (nI (wt N p), σ) := by
    rintro s0 rfl
    unfold B_Mo_weight_32
    generalize hk : n_k N p = k at *
    generalize hff : n_f N p = f at *
    generalize hcc : pc (n_j N p) = c at *
    simp only [inb_ok (show p < 40 by omega) (by decide), if_true, nI_clamp (show p < 2 ^ 31 by omega), a1, a2, nI_litN, nI_eq (show k < 2 ^ 31 by omega) (show 1 < 2 ^ 31 by omega), nI_eq (show k < 2 ^ 31 by omega) (show 2 < 2 ^ 31 by omega), nI_eq (show k < 2 ^ 31 by omega) (show 3 < 2 ^ 31 by omega), nI_eq (show k < 2 ^ 31 by omega) (show 4 < 2 ^ 31 by omega), nI_eq (show k < 2 ^ 31 by omega) (show 5 < 2 ^ 31 by omega), nI_eq (show c < 2 ^ 31 by omega) (show 0 < 2 ^ 31 by omega), nI_eq (show 2 < 2 ^ 31 by omega) (show 0 < 2 ^ 31 by omega), nI_mul, nI_add]
    rw [show (nI 2 : Int32) = 2 from rfl, nI_div2 (by omega)]
    have e : wt N p = wtv k f c := by unfold wt; rw [hk, hff, hcc]
    rw [e]
    unfold wtv
    rcases (show k = 0 ∨ k = 1 ∨ k = 2 ∨ k = 3 ∨ k = 4 ∨ k = 5 by omega) with rfl | rfl | rfl | rfl | rfl | rfl <;> simp
    split <;> rfl
  by_cases hfc : n_f N p ≤ pc (n_j N p)
  · rw [if_pos hfc, show (0 : Int32) = nI 0 from rfl]
    exact key 0 (by omega)
  · rw [if_neg hfc, nI_sub (by omega)]
    exact key _ rfl
theorem mo_worth {σ : Sto} {N : Nt} (h : ModAt σ N) (wf : WfN N) {m p : Nat} (hm : m < 2) (hp : p < n_n N) : f_Mo_worth (nI m) (nI p) σ = some (nI (mea1 N m p), σ) := by
  unfold f_Mo_worth B_Mo_worth_0 mea1
  simp only [nI_s0 hm]
  split
  · rfl
  · rw [mo_weight h wf hp, Option.bind_some]
theorem mo_fits {σ : Sto} {N : Nt} (h : ModAt σ N) (wf : WfN N) {s p w : Nat} (hs : s < 2) (hp : p < n_n N) (hw : w < 2 ^ 64) : f_Mo_fits (nI s) (nI p) (lN w) σ = some (lN (fit N s p w), σ) := by
  unfold f_Mo_fits B_Mo_fits_0 fit
  have hn := wf.1
  rw [bit_eq (by omega), Option.bind_some]
  simp only [inb_ok (show p < 40 by omega) (by decide), if_true, nI_clamp (show p < 2 ^ 31 by omega), (h.2 p hp).2.2, nI_s0 hs]
  rw [fb_andL, Nat.and_comm, lN_nd hw, lN_nd (nd_lt hw)]
  split <;> rfl
theorem mo_fitsAll {σ : Sto} {N : Nt} (h : ModAt σ N) (wf : WfN N) {s p w : Nat} (hs : s < 2) (hp : p < n_n N) (hw : w < 2 ^ 64) : f_Mo_fitsAll (nI s) (nI p) (lN w) σ = some (decide (fit N s p w = w), σ) := by
  unfold f_Mo_fitsAll B_Mo_fitsAll_0
  rw [mo_fits h wf hs hp hw, Option.bind_some]
  simp only [lN_inj64 (fit_lt hw) hw]
  by_cases hq : fit N s p w = w <;> simp [hq]
