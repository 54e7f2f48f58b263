/-! cover: classes told by a row -/
def alM (w L : Nat) (g : Nat → Int32) (v : Int32) : Nat → Nat
  | 0 => 0
  | k + 1 => if (w.testBit k && (decide (k < L) && decide (g k = v))) = true then alM w L g v k ||| 2 ^ k else alM w L g v k
theorem alM_s (w L : Nat) (g : Nat → Int32) (v : Int32) (k : Nat) : alM w L g v (k + 1) = if (w.testBit k && (decide (k < L) && decide (g k = v))) = true then alM w L g v k ||| 2 ^ k else alM w L g v k := rfl
theorem alM_bit (w L : Nat) (g : Nat → Int32) (v : Int32) (i : Nat) : ∀ k, (alM w L g v k).testBit i = (decide (i < k) && (w.testBit i && (decide (i < L) && decide (g i = v))))
  | 0 => by simp [alM]
  | k + 1 => by
    have ih := alM_bit w L g v i k
    rw [alM_s]
    by_cases e : i = k
    · subst e
      split
      · rename_i h
        rw [or1_bit, h]; simp
      · rename_i h
        rw [ih, Bool.eq_false_iff.mpr h]; simp
    · have e2 : decide (i < k + 1) = decide (i < k) := by
        congr 1
        apply propext
        constructor <;> intro q <;> omega
      rw [e2, ← ih]
      split
      · rw [or1_bit]; simp [e]
      · rfl
theorem alM_lt {w L n : Nat} {g : Nat → Int32} {v : Int32} (hw : w < 2 ^ n) (k : Nat) : alM w L g v k < 2 ^ n := bit_lt (fun i hi => by rw [alM_bit, tb_out hw hi]; simp)
/-- the number at a place -/
def atC (L : Nat) (g : Nat → Int32) (p : Nat) : Int32 := if p < L then g p else -1
theorem sh_alike {w L o p : Nat} {g : Nat → Int32} (hw : w < 2 ^ 64) (hL : L ≤ 60) (hp : p < 40) {σ : Sto} (h1 : gI σ o 1 = nI L) (h2 : ∀ j, j < L → gI σ (o + 1) j = g j) : ∀ (k fu i : Nat), i + k = min L 40 → k < fu → L_Sheet_alike_6 fu o (nI p) (lN w) (lN (alM w L g (atC L g p) i)) (nI i) σ = some (lN (alM w L g (atC L g p) (min L 40)), σ) := by
  intro k
  induction k with
  | zero =>
    intro fu i hi hf
    obtain ⟨fu, rfl⟩ : ∃ f, fu = f + 1 := ⟨fu - 1, by omega⟩
    show B_Sheet_alike_6 (L_Sheet_alike_6 fu) _ _ _ _ _ _ = _
    unfold B_Sheet_alike_6
    rw [h1, show i = min L 40 by omega]
    by_cases hq : L ≤ 40
    · rw [if_pos (nI_le (by omega) (by omega))]
    · rw [if_neg (nI_ge (by omega) (by omega)), show (40 : Int32) = nI 40 from rfl, if_pos (nI_le (by omega) (by omega))]
  | succ k ih =>
    intro fu i hi hf
    obtain ⟨fu, rfl⟩ : ∃ f, fu = f + 1 := ⟨fu - 1, by omega⟩
    have e := ih fu (i + 1) (by omega) (by omega)
    rw [alM_s] at e
    show B_Sheet_alike_6 (L_Sheet_alike_6 fu) _ _ _ _ _ _ = _
    unfold B_Sheet_alike_6
    rw [h1, if_neg (nI_ge (by omega) (by omega)), show (40 : Int32) = nI 40 from rfl, if_neg (nI_ge (by omega) (by omega)), nt_isOf hw (by omega), Option.bind_some]
    have eat : (if p < L then gI σ (o + 1) p else -1) = atC L g p := by
      unfold atC
      by_cases hq : p < L
      · rw [if_pos hq, if_pos hq, h2 p hq]
      · rw [if_neg hq, if_neg hq]
    simp only [b2i_eq0, inb_ok (show i < 60 by omega) (show 60 < 2 ^ 31 by decide), if_true, nI_clamp (show i < 2 ^ 31 by omega), sh_at h1 hL (show p < 2 ^ 31 by omega), eat, Option.bind_some, h2 i (show i < L by omega), lt1_eq, lsh_1 (show i < 64 by omega), fb_orL, nI_1]
    rw [decide_eq_true (show i < L by omega), Bool.true_and] at e
    cases hb : w.testBit i with
    | false =>
      rw [if_pos rfl]
      rw [hb, Bool.false_and, if_neg (by decide)] at e
      exact e
    | true =>
      rw [if_neg (by decide)]
      rw [hb, Bool.true_and] at e
      by_cases hq : g i = atC L g p
      · rw [if_pos hq]
        rw [if_pos (by simp [hq])] at e
        exact e
      · rw [if_neg hq]
        rw [if_neg (by simp [hq])] at e
        exact e
/-- those of a set told as p is -/
def alN (w L : Nat) (g : Nat → Int32) (p : Nat) : Nat := alM w L g (atC L g p) (min L 40)
theorem alN_bit {w L p i n : Nat} {g : Nat → Int32} (hw : w < 2 ^ n) (hn : n ≤ 40) : (alN w L g p).testBit i = (w.testBit i && (decide (i < L) && decide (g i = atC L g p))) := by
  unfold alN
  rw [alM_bit]
  cases hb : w.testBit i with
  | false => simp
  | true =>
    have := bit_in hw hb
    by_cases hL : i < L
    · rw [decide_eq_true (show i < min L 40 by omega)]; simp
    · rw [decide_eq_false hL]; simp
def lsN (w L : Nat) (g : Nat → Int32) (p : Nat) : Nat := alN w L g p &&& (2 ^ p - 1)
theorem lsN_bit {w L p i n : Nat} {g : Nat → Int32} (hw : w < 2 ^ n) (hn : n ≤ 40) : (lsN w L g p).testBit i = ((w.testBit i && (decide (i < L) && decide (g i = atC L g p))) && decide (i < p)) := by
  unfold lsN
  rw [Nat.testBit_and, alN_bit hw hn, Nat.testBit_two_pow_sub_one]
/-- a fault at p -/
def cvF (N : Nt) (s w L : Nat) (g : Nat → Int32) (p : Nat) : Bool := decide (atC L g p < 0) || decide (fit N s p (lsN w L g p) ≠ 0)
/-- the class's sum and answer -/
def cvA (N : Nt) (m w L : Nat) (g : Nat → Int32) (p : Nat) : Nat := if w.testBit p = true ∧ lsN w L g p = 0 then peakN N m (alN w L g p) (n_n N) else 0
def cvG (N : Nt) (s m w L : Nat) (g : Nat → Int32) : Nat → Nat → Int32
  | 0, _ => nI (fb_sm (cvA N m w L g) (n_n N))
  | k + 1, p => if (w.testBit p && cvF N s w L g p) = true then -100 - nI p else cvG N s m w L g k (p + 1)
theorem fr_cover_loop {N : Nt} (wf : WfN N) {s m w L q : Nat} {g : Nat → Int32} (hs : s < 2) (hm : m < 2) (hw : w < 2 ^ n_n N) (hL : L ≤ 60) (hq : q < 4) {σ : Sto} (h : NetAt σ 1 N) (h1 : gI σ (36 + 2 * q) 1 = nI L) (h2 : ∀ j, j < L → gI σ (37 + 2 * q) j = g j) : ∀ (k fu p : Nat), p + k = n_n N → k < fu → L_FR_cover_46 fu (nI s) (nI m) (lN w) (36 + 2 * q) (nI (fb_sm (cvA N m w L g) p)) (nI p) σ = some (cvG N s m w L g k p, σ) := by
  intro k
  have hn := wf.1
  have hw64 := lt64 wf hw
  induction k with
  | zero =>
    intro fu p hp hf
    obtain ⟨fu, rfl⟩ : ∃ f, fu = f + 1 := ⟨fu - 1, by omega⟩
    show B_FR_cover_46 (L_FR_cover_46 fu) _ _ _ _ _ _ _ = _
    unfold B_FR_cover_46
    rw [h.1, if_pos (nI_le (by omega) (by omega)), show p = n_n N by omega]; rfl
  | succ k ih =>
    intro fu p hp hf
    obtain ⟨fu, rfl⟩ : ∃ f, fu = f + 1 := ⟨fu - 1, by omega⟩
    have hpn : p < n_n N := by omega
    have e := ih fu (p + 1) (by omega) (by omega)
    rw [fb_sm_succ] at e
    have ha64 : alN w L g p < 2 ^ 64 := alM_lt hw64 _
    have hl64 : lsN w L g p < 2 ^ 64 := and_lt ha64
    have eal := sh_alike (o := 36 + 2 * q) (g := g) hw64 hL (show p < 40 by omega) h1 (fun j hj => by rw [show 36 + 2 * q + 1 = 37 + 2 * q by omega]; exact h2 j hj) (min L 40) LF 0 (by omega) (by rw [LF_big]; omega)
    have eat : f_Sheet_at (36 + 2 * q) (nI p) σ = some (atC L g p, σ) := by
      rw [sh_at h1 hL (by omega)]
      unfold atC
      by_cases hz : p < L
      · rw [if_pos hz, if_pos hz, show 36 + 2 * q + 1 = 37 + 2 * q by omega, h2 p hz]
      · rw [if_neg hz, if_neg hz]
    have e0 : L_FR_cover_46 (fu + 1) (nI s) (nI m) (lN w) (36 + 2 * q) (nI (fb_sm (cvA N m w L g) p)) (nI p) σ = (if w.testBit p = false then L_FR_cover_46 fu (nI s) (nI m) (lN w) (36 + 2 * q) (nI (fb_sm (cvA N m w L g) p)) (nI (p + 1)) σ else (if atC L g p < 0 then some (-100 - nI p, σ) else (if fit N s p (lsN w L g p) = 0 then (if lsN w L g p = 0 then L_FR_cover_46 fu (nI s) (nI m) (lN w) (36 + 2 * q) (nI (fb_sm (cvA N m w L g) p + peakN N m (alN w L g p) (n_n N))) (nI (p + 1)) σ else L_FR_cover_46 fu (nI s) (nI m) (lN w) (36 + 2 * q) (nI (fb_sm (cvA N m w L g) p)) (nI (p + 1)) σ) else some (-100 - nI p, σ)))) := by
      show B_FR_cover_46 (L_FR_cover_46 fu) _ _ _ _ _ _ _ = _
      unfold B_FR_cover_46
      rw [h.1, if_neg (nI_ge hpn (by omega)), nt_isOf hw64 (by omega), Option.bind_some]
      unfold f_Sheet_alike B_Sheet_alike_0
      simp only [b2i_eq0, nI_1]
      rw [show L_Sheet_alike_6 LF (36 + 2 * q) (nI p) (lN w) (0 : Int64) (0 : Int32) σ = some (lN (alN w L g p), σ) from eal, Option.bind_some]
      simp only [lt1_eq]
      rw [lsh_1 (by omega), show (1 : Int64) = lN 1 from rfl, lN_sub (Nat.one_le_two_pow), fb_andL, show alN w L g p &&& (2 ^ p - 1) = lsN w L g p from rfl, eat, Option.bind_some]
      simp only [nt_fitting h wf hs hpn hl64, Option.bind_some, lN_eq0 hl64, lN_eq0 (fit_lt (N := N) (s := s) (p := p) hl64), nt_peak h wf hm ha64, nI_add]
    rw [e0]
    show _ = some (if (w.testBit p && cvF N s w L g p) = true then -100 - nI p else cvG N s m w L g k (p + 1), σ)
    rw [show cvA N m w L g p = if w.testBit p = true ∧ lsN w L g p = 0 then peakN N m (alN w L g p) (n_n N) else 0 from rfl] at e
    cases hb : w.testBit p with
    | false =>
      rw [if_pos rfl, Bool.false_and, if_neg (by decide)]
      rw [hb, if_neg (by simp), Nat.add_zero] at e
      exact e
    | true =>
      rw [if_neg (by decide), Bool.true_and]
      rw [hb] at e
      unfold cvF
      by_cases c1 : atC L g p < 0
      · rw [if_pos c1, decide_eq_true c1, Bool.true_or, if_pos rfl]
      · rw [if_neg c1, decide_eq_false c1, Bool.false_or]
        by_cases c2 : fit N s p (lsN w L g p) = 0
        · rw [if_pos c2, show (decide (fit N s p (lsN w L g p) ≠ 0)) = false by simp [c2]]
          simp only [Bool.false_eq_true, if_false]
          by_cases c3 : lsN w L g p = 0
          · rw [if_pos c3]
            rw [if_pos ⟨rfl, c3⟩] at e
            exact e
          · rw [if_neg c3]
            rw [if_neg (fun z => c3 z.2), Nat.add_zero] at e
            exact e
        · rw [if_neg c2, show (decide (fit N s p (lsN w L g p) ≠ 0)) = true by simp [c2]]
          simp only [if_true]
/-! the reference's sum: what each point adds to those before it -/
def cvB (N : Nt) (m w L : Nat) (g : Nat → Int32) (P p : Nat) : Nat := if w.testBit p = true ∧ lsN w L g p = 0 then peakN N m (alN w L g p) P else 0
theorem peakN_cong {N : Nt} {m a b : Nat} : ∀ n, (∀ i, i < n → a.testBit i = b.testBit i) → peakN N m a n = peakN N m b n
  | 0, _ => rfl
  | n + 1, h => by
    rw [peakN_s, peakN_s, h n (by omega), peakN_cong n (fun i hi => h i (by omega))]
theorem peakN_none {N : Nt} {m a : Nat} : ∀ n, (∀ i, i < n → a.testBit i = false) → peakN N m a n = 0
  | 0, _ => rfl
  | n + 1, h => by
    rw [peakN_s, h n (by omega), if_neg (by decide), peakN_none n (fun i hi => h i (by omega))]
theorem ls_first {w L P n : Nat} {g : Nat → Int32} (hw : w < 2 ^ n) (hn : n ≤ 40) (hP : P < L) (hne : lsN w L g P ≠ 0) : ∃ p0, p0 < P ∧ w.testBit p0 = true ∧ p0 < L ∧ g p0 = g P ∧ lsN w L g p0 = 0 := by
  have eP : atC L g P = g P := if_pos hP
  obtain ⟨i, hi⟩ := ex_bit hne
  rw [lsN_bit hw hn, eP] at hi
  simp only [Bool.and_eq_true, decide_eq_true_eq] at hi
  have hex : ∃ j, j < P ∧ (w.testBit j = true ∧ j < L ∧ g j = g P) := ⟨i, hi.2, hi.1.1, hi.1.2.1, hi.1.2.2⟩
  obtain ⟨p0, h1, ⟨h2, h3, h4⟩, h5⟩ := fb_first (p := fun j => w.testBit j = true ∧ j < L ∧ g j = g P) hex
  refine ⟨p0, h1, h2, h3, h4, ?_⟩
  apply bx
  intro j
  rw [lsN_bit hw hn, Nat.zero_testBit, show atC L g p0 = g p0 from if_pos h3, h4]
  by_cases hj : j < p0
  · cases hb : (w.testBit j && (decide (j < L) && decide (g j = g P))) with
    | false => rfl
    | true =>
      simp only [Bool.and_eq_true, decide_eq_true_eq] at hb
      exact absurd ⟨hb.1, hb.2.1, hb.2.2⟩ (h5 j hj)
  · rw [decide_eq_false hj, Bool.and_false]
theorem cv_step {N : Nt} {m w L P n : Nat} {g : Nat → Int32} (hw : w < 2 ^ n) (hn : n ≤ 40) (hP : w.testBit P = true → P < L) : fb_sm (cvB N m w L g (P + 1)) (P + 1) = fb_sm (cvB N m w L g P) P + (if w.testBit P = true then (if lsN w L g P = 0 then mea1 N m P else mea1 N m P - peakN N m (alN w L g P) P) else 0) := by
  rw [fb_sm_succ]
  cases hb : w.testBit P with
  | false =>
    rw [if_neg (by decide), Nat.add_zero]
    have e1 : cvB N m w L g (P + 1) P = 0 := by unfold cvB; rw [hb, if_neg (by simp)]
    rw [e1, Nat.add_zero]
    refine fb_sm_cong (fun k _ => ?_)
    unfold cvB
    rw [peakN_s, alN_bit hw hn, hb, Bool.false_and]
    simp only [Bool.false_eq_true, if_false]
  | true =>
    rw [if_pos rfl]
    have hPL := hP hb
    have eP : atC L g P = g P := if_pos hPL
    by_cases h0 : lsN w L g P = 0
    · rw [if_pos h0]
      have e1 : cvB N m w L g (P + 1) P = mea1 N m P := by
        unfold cvB
        rw [if_pos ⟨hb, h0⟩, peakN_s, alN_bit hw hn, hb, decide_eq_true hPL, eP, decide_eq_true rfl]
        rw [peakN_none P (fun i hi => by
          have := lsN_bit (L := L) (p := P) (i := i) (g := g) hw hn
          rw [h0, Nat.zero_testBit, decide_eq_true hi, Bool.and_true] at this
          rw [alN_bit hw hn]; exact this.symm)]
        simp
      rw [e1]
      congr 1
      refine fb_sm_cong (fun k hk => ?_)
      unfold cvB
      by_cases hc : w.testBit k = true ∧ lsN w L g k = 0
      · rw [if_pos hc, if_pos hc, peakN_s]
        have : (alN w L g k).testBit P = false := by
          rw [alN_bit hw hn, hb, decide_eq_true hPL, Bool.true_and, Bool.true_and]
          apply decide_eq_false
          intro hz
          -- then k would be lesser than P in its class
          have hk2 : k < L := by omega
          have hz2 : g P = g k := by rw [hz]; exact if_pos hk2
          have := lsN_bit (L := L) (p := P) (i := k) (g := g) hw hn
          rw [h0, Nat.zero_testBit, hc.1, decide_eq_true hk2, eP, decide_eq_true hz2.symm, decide_eq_true hk] at this
          cases this
        rw [this, if_neg (by decide)]
      · rw [if_neg hc, if_neg hc]
    · rw [if_neg h0]
      have e1 : cvB N m w L g (P + 1) P = 0 := by unfold cvB; rw [if_neg (fun z => h0 z.2)]
      rw [e1, Nat.add_zero]
      obtain ⟨p0, q1, q2, q3, q4, q5⟩ := ls_first hw hn hPL h0
      have eal : alN w L g p0 = alN w L g P := bx (fun i => by rw [alN_bit hw hn, alN_bit hw hn, eP, show atC L g p0 = g p0 from if_pos q3, q4])
      have u := fb_sm_upd (cvB N m w L g P) (cvB N m w L g P p0 + (mea1 N m P - peakN N m (alN w L g P) P)) (i := p0) (n := P) q1
      have e2 : fb_sm (cvB N m w L g (P + 1)) P = fb_sm (fun k => if k = p0 then cvB N m w L g P p0 + (mea1 N m P - peakN N m (alN w L g P) P) else cvB N m w L g P k) P := by
        refine fb_sm_cong (fun k hk => ?_)
        by_cases ek : k = p0
        · subst ek
          rw [if_pos rfl]
          unfold cvB
          rw [if_pos ⟨q2, q5⟩, if_pos ⟨q2, q5⟩, peakN_s, eal, alN_bit hw hn, hb, decide_eq_true hPL, eP, decide_eq_true rfl]
          simp only [Bool.and_self, if_true]
          omega
        · rw [if_neg ek]
          unfold cvB
          by_cases hc : w.testBit k = true ∧ lsN w L g k = 0
          · rw [if_pos hc, if_pos hc, peakN_s]
            have : (alN w L g k).testBit P = false := by
              rw [alN_bit hw hn, hb, decide_eq_true hPL, Bool.true_and, Bool.true_and]
              apply decide_eq_false
              intro hz
              have hk2 : k < L := by omega
              have hz2 : g P = g k := by rw [hz]; exact if_pos hk2
              rcases Nat.lt_or_ge k p0 with y | y
              · have := lsN_bit (L := L) (p := p0) (i := k) (g := g) hw hn
                rw [q5, Nat.zero_testBit, hc.1, decide_eq_true hk2, show atC L g p0 = g p0 from if_pos q3, q4, decide_eq_true hz2.symm, decide_eq_true y] at this
                cases this
              · have y2 : p0 < k := by omega
                have := lsN_bit (L := L) (p := k) (i := p0) (g := g) hw hn
                rw [hc.2, Nat.zero_testBit, q2, decide_eq_true q3, show atC L g k = g k from if_pos hk2, q4, decide_eq_true hz2, decide_eq_true y2] at this
                cases this
            rw [this, if_neg (by decide)]
          · rw [if_neg hc, if_neg hc]
      rw [e2]
      omega
