/-! more of the class's Net: what reads it -/
def allB (g : Nat → Bool) : Nat → Bool
  | 0 => true
  | n + 1 => allB g n && g n
theorem allB_iff (g : Nat → Bool) : ∀ n, allB g n = true ↔ ∀ p, p < n → g p = true
  | 0 => by simp [allB]
  | n + 1 => by
    rw [allB, Bool.and_eq_true, allB_iff g n]
    constructor
    · rintro ⟨h1, h2⟩ p hp
      rcases Nat.lt_or_ge p n with q | q
      · exact h1 p q
      · rw [show p = n by omega]; exact h2
    · intro h
      exact ⟨fun p hp => h p (by omega), h n (by omega)⟩
theorem allB_no {g : Nat → Bool} {n p : Nat} (hp : p < n) (h : g p = false) : allB g n = false := by
  cases hc : allB g n with
  | false => rfl
  | true => rw [(allB_iff g n).mp hc p hp] at h; cases h
/-- whether w is a ring -/
def ringB (N : Nt) (s w : Nat) : Bool := allB (fun p => !w.testBit p || decide (fit N s p w = nd w (2 ^ p))) (n_n N)
theorem nt_allFit_loop {σ : Sto} {o : Nat} {N : Nt} (h : NetAt σ o N) (wf : WfN N) {s w : Nat} (hs : s < 2) (hw : w < 2 ^ 64) : ∀ (k fu p : Nat), p + k = n_n N → k < fu → allB (fun p => !w.testBit p || decide (fit N s p w = nd w (2 ^ p))) p = true → L_Net_allFit_3 fu o (nI s) (lN w) (nI p) σ = some (ringB N s w, σ) := by
  intro k
  have hn := wf.1
  induction k with
  | zero =>
    intro fu p hp hf ha
    obtain ⟨fu, rfl⟩ : ∃ f, fu = f + 1 := ⟨fu - 1, by omega⟩
    show B_Net_allFit_3 (L_Net_allFit_3 fu) _ _ _ _ _ = _
    unfold B_Net_allFit_3
    rw [h.1, if_pos (nI_le (by omega) (by omega))]
    unfold ringB
    rw [show n_n N = p by omega, ha]
  | succ k ih =>
    intro fu p hp hf ha
    obtain ⟨fu, rfl⟩ : ∃ f, fu = f + 1 := ⟨fu - 1, by omega⟩
    have hpn : p < n_n N := by omega
    show B_Net_allFit_3 (L_Net_allFit_3 fu) _ _ _ _ _ = _
    unfold B_Net_allFit_3
    rw [h.1, if_neg (nI_ge hpn (by omega)), nt_isOf hw (by omega), Option.bind_some]
    have e := ih fu (p + 1) (by omega) (by omega)
    rw [allB, ha, Bool.true_and] at e
    rw [nt_fitting h wf hs hpn hw, Option.bind_some, lsh_1 (by omega), lN_nd hw]
    simp only [b2i_eq0, nI_1, lN_inj64 (fit_lt hw) (nd_lt hw)]
    cases hb : w.testBit p with
    | false =>
      rw [if_pos rfl]
      exact e (by simp [hb])
    | true =>
      rw [if_neg (by decide)]
      by_cases hf : fit N s p w = nd w (2 ^ p)
      · rw [if_pos hf]
        exact e (by simp [hf])
      · rw [if_neg hf]
        unfold ringB
        rw [allB_no hpn (by simp [hb, hf])]
theorem LF_big : LF = 1000000 := rfl
theorem nt_allFit {σ : Sto} {o : Nat} {N : Nt} (h : NetAt σ o N) (wf : WfN N) {s w : Nat} (hs : s < 2) (hw : w < 2 ^ 64) : f_Net_allFit o (nI s) (lN w) σ = some (ringB N s w, σ) :=
  nt_allFit_loop h wf hs hw (n_n N) LF 0 (by omega) (by have := wf.1; rw [LF_big]; omega) rfl
/-- MEASURE of one point -/
def mea1 (N : Nt) (m p : Nat) : Nat := if m = 0 then 1 else wt N p
theorem nt_worthOf {σ : Sto} {o : Nat} {N : Nt} (h : NetAt σ o N) (wf : WfN N) {m p : Nat} (hm : m < 2) (hp : p < n_n N) : f_Net_worthOf o (nI m) (nI p) σ = some (nI (mea1 N m p), σ) := by
  unfold f_Net_worthOf B_Net_worthOf_0 mea1
  have hn := wf.1
  rw [nt_hasN h wf hp, Option.bind_some]
  simp only [nI_s0 hm, b2i_t, inb_ok (show p < 40 by omega) (by decide), if_true, nI_clamp (show p < 2 ^ 31 by omega), (h.2 p hp).2.2.2]
  split
  · rfl
  · rw [if_neg (by decide)]
/-- the greatest measure of one point of w, among those below n -/
def peakN (N : Nt) (m w : Nat) : Nat → Nat
  | 0 => 0
  | n + 1 => if w.testBit n then max (peakN N m w n) (mea1 N m n) else peakN N m w n
theorem peakN_s (N : Nt) (m w n : Nat) : peakN N m w (n + 1) = if w.testBit n then max (peakN N m w n) (mea1 N m n) else peakN N m w n := rfl
theorem mea1_lt {N : Nt} (wf : WfN N) {m p : Nat} (hp : p < n_n N) : mea1 N m p < 300 := by
  unfold mea1; split
  · omega
  · exact wt_lt wf hp
theorem peakN_lt {N : Nt} (wf : WfN N) {m w : Nat} : ∀ n, n ≤ n_n N → peakN N m w n < 300
  | 0, _ => by show 0 < 300; omega
  | n + 1, h => by
    have h1 := peakN_lt wf (m := m) (w := w) n (by omega)
    have h2 := mea1_lt wf (m := m) (show n < n_n N by omega)
    unfold peakN
    split
    · exact Nat.max_lt.mpr ⟨h1, h2⟩
    · exact h1
theorem mxI_N {a b : Nat} (ha : a < 2 ^ 31) (hb : b < 2 ^ 31) : mxI (nI a) (nI b) = nI (max a b) := by
  unfold mxI
  by_cases h : a < b
  · rw [if_pos (nI_lt h hb), Nat.max_eq_right (by omega)]
  · rw [if_neg (nI_nlt (by omega) ha), Nat.max_eq_left (by omega)]
theorem nt_peak_loop {σ : Sto} {o : Nat} {N : Nt} (h : NetAt σ o N) (wf : WfN N) {m w : Nat} (hm : m < 2) (hw : w < 2 ^ 64) : ∀ (k fu p : Nat), p + k = n_n N → k < fu → L_Net_peak_6 fu o (nI m) (lN w) (nI (peakN N m w p)) (nI p) σ = some (nI (peakN N m w (n_n N)), σ) := by
  intro k
  have hn := wf.1
  induction k with
  | zero =>
    intro fu p hp hf
    obtain ⟨fu, rfl⟩ : ∃ f, fu = f + 1 := ⟨fu - 1, by omega⟩
    show B_Net_peak_6 (L_Net_peak_6 fu) _ _ _ _ _ _ = _
    unfold B_Net_peak_6
    rw [h.1, if_pos (nI_le (by omega) (by omega)), show p = n_n N by omega]
  | succ k ih =>
    intro fu p hp hf
    obtain ⟨fu, rfl⟩ : ∃ f, fu = f + 1 := ⟨fu - 1, by omega⟩
    have hpn : p < n_n N := by omega
    show B_Net_peak_6 (L_Net_peak_6 fu) _ _ _ _ _ _ = _
    unfold B_Net_peak_6
    rw [h.1, if_neg (nI_ge hpn (by omega)), nt_isOf hw (by omega), Option.bind_some]
    have e := ih fu (p + 1) (by omega) (by omega)
    rw [nt_worthOf h wf hm hpn, Option.bind_some]
    have h1 := peakN_lt wf (m := m) (w := w) p (by omega)
    have h2 := mea1_lt wf (m := m) hpn
    simp only [b2i_eq0, nI_1, mxI_N (show peakN N m w p < 2 ^ 31 by omega) (show mea1 N m p < 2 ^ 31 by omega)]
    rw [peakN_s] at e
    cases hb : w.testBit p with
    | false =>
      rw [if_pos rfl]
      rw [hb] at e
      simpa using e
    | true =>
      rw [if_neg (by decide)]
      rw [hb] at e
      simpa using e
theorem nt_peak {σ : Sto} {o : Nat} {N : Nt} (h : NetAt σ o N) (wf : WfN N) {m w : Nat} (hm : m < 2) (hw : w < 2 ^ 64) : f_Net_peak o (nI m) (lN w) σ = some (nI (peakN N m w (n_n N)), σ) :=
  nt_peak_loop h wf hm hw (n_n N) LF 0 (by omega) (by have := wf.1; rw [LF_big]; omega)
theorem nt_isTied {σ : Sto} {o : Nat} {N : Nt} (h : NetAt σ o N) (wf : WfN N) {a b : Nat} (ha : a < n_n N) (hb : b < n_n N) : f_Net_isTied o (nI a) (nI b) σ = some ((n_j N a).testBit b, σ) := by
  unfold f_Net_isTied B_Net_isTied_0
  have hn := wf.1
  rw [nt_hasN h wf ha, Option.bind_some, nt_hasN h wf hb, Option.bind_some]
  simp only [b2i_t, inb_ok (show a < 40 by omega) (by decide), if_true, nI_clamp (show a < 2 ^ 31 by omega), (h.2 a ha).2.2.1]
  rw [if_neg (by decide), if_neg (by decide), nt_isOf (jn_lt64 wf ha) (by omega), Option.bind_some]
  simp only [b2i_eq0]
  cases (n_j N a).testBit b <;> rfl
theorem two_pow_le {a b : Nat} (h : a ≤ b) : 2 ^ a ≤ 2 ^ b := Nat.pow_le_pow_right (by decide) h
theorem whole_lt {n : Nat} (h : n ≤ 40) : 2 ^ n - 1 < 2 ^ 64 := by
  have := two_pow_le (show n ≤ 40 from h)
  have e : (2 : Nat) ^ 40 < 2 ^ 64 := by decide
  omega
theorem nt_fits {σ : Sto} {o : Nat} {N : Nt} (h : NetAt σ o N) (wf : WfN N) {s p : Nat} (hs : s < 2) (hp : p < n_n N) : f_Net_fits o (nI s) (nI p) σ = some (nI (pc (fit N s p (2 ^ n_n N - 1))), σ) := by
  unfold f_Net_fits B_Net_fits_0
  rw [nt_whole h wf, Option.bind_some]
  simp only []
  rw [nt_fitting h wf hs hp (whole_lt wf.1), Option.bind_some]
  simp only []
  rw [bitCount_eq (fit_lt (whole_lt wf.1)), Option.bind_some]
/-- those of w that fit each of a ring, below n -/
def fitAll (N : Nt) (s r w : Nat) : Nat → Nat
  | 0 => w
  | n + 1 => if r.testBit n then fit N s n (fitAll N s r w n) else fitAll N s r w n
theorem fitAll_s (N : Nt) (s r w n : Nat) : fitAll N s r w (n + 1) = if r.testBit n then fit N s n (fitAll N s r w n) else fitAll N s r w n := rfl
theorem fitAll_lt {N : Nt} {s r w K : Nat} (hw : w < 2 ^ K) : ∀ n, fitAll N s r w n < 2 ^ K
  | 0 => hw
  | n + 1 => by
    unfold fitAll
    split
    · exact fit_lt (fitAll_lt hw n)
    · exact fitAll_lt hw n
theorem nt_fittingAll_loop {σ : Sto} {o : Nat} {N : Nt} (h : NetAt σ o N) (wf : WfN N) {s r w : Nat} (hs : s < 2) (hr : r < 2 ^ 64) (hw : w < 2 ^ 64) : ∀ (k fu p : Nat), p + k = n_n N → k < fu → L_Net_fittingAll_7 fu o (nI s) (lN r) (lN (fitAll N s r w p)) (nI p) σ = some (lN (fitAll N s r w (n_n N)), σ) := by
  intro k
  have hn := wf.1
  induction k with
  | zero =>
    intro fu p hp hf
    obtain ⟨fu, rfl⟩ : ∃ f, fu = f + 1 := ⟨fu - 1, by omega⟩
    show B_Net_fittingAll_7 (L_Net_fittingAll_7 fu) _ _ _ _ _ _ = _
    unfold B_Net_fittingAll_7
    rw [h.1, if_pos (nI_le (by omega) (by omega)), show p = n_n N by omega]
  | succ k ih =>
    intro fu p hp hf
    obtain ⟨fu, rfl⟩ : ∃ f, fu = f + 1 := ⟨fu - 1, by omega⟩
    have hpn : p < n_n N := by omega
    show B_Net_fittingAll_7 (L_Net_fittingAll_7 fu) _ _ _ _ _ _ = _
    unfold B_Net_fittingAll_7
    rw [h.1, if_neg (nI_ge hpn (by omega)), nt_isOf hr (by omega), Option.bind_some]
    have e := ih fu (p + 1) (by omega) (by omega)
    rw [nt_fitting h wf hs hpn (fitAll_lt hw p), Option.bind_some]
    simp only [b2i_eq0, nI_1]
    rw [fitAll_s] at e
    cases hb : r.testBit p with
    | false =>
      rw [if_pos rfl]
      rw [hb] at e
      simpa using e
    | true =>
      rw [if_neg (by decide)]
      rw [hb] at e
      simpa using e
theorem nt_fittingAll {σ : Sto} {o : Nat} {N : Nt} (h : NetAt σ o N) (wf : WfN N) {s r w : Nat} (hs : s < 2) (hr : r < 2 ^ 64) (hw : w < 2 ^ 64) : f_Net_fittingAll o (nI s) (lN r) (lN w) σ = some (lN (fitAll N s r w (n_n N)), σ) :=
  nt_fittingAll_loop h wf hs hr hw (n_n N) LF 0 (by omega) (by have := wf.1; rw [LF_big]; omega)
