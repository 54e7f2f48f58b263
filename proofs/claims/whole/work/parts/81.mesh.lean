/-! mesh -/
def mhJ (N : Nt) (w : Nat) (on : Bool) (p : Nat) : Nat := if w.testBit p then (if on then n_j N p ||| nd w (2 ^ p) else nd (n_j N p) (nd w (2 ^ p))) else n_j N p
def mhP (N : Nt) (w : Nat) (on : Bool) (P : Nat) : Nt := (n_n N, n_k N, n_f N, fun q => if q < P then mhJ N w on q else n_j N q)
def mhN (N : Nt) (w : Nat) (on : Bool) : Nt := (n_n N, n_k N, n_f N, mhJ N w on)
theorem mhJ_bit (N : Nt) (w : Nat) (on : Bool) (p q : Nat) : (mhJ N w on p).testBit q = if w.testBit p = true ∧ w.testBit q = true ∧ q ≠ p then on else (n_j N p).testBit q := by
  unfold mhJ
  cases hp : w.testBit p with
  | false => simp
  | true =>
    rw [if_pos rfl]
    cases hq : w.testBit q with
    | false =>
      cases on
      · simp [nd_bit, hq]
      · simp [nd_bit, hq]
    | true =>
      by_cases e : q = p
      · subst e
        cases on
        · simp [nd_bit]
        · simp [nd_bit]
      · cases on
        · simp [nd_bit, hq, e, Ne.symm e, Nat.testBit_two_pow]
        · simp [nd_bit, hq, e, Ne.symm e, Nat.testBit_two_pow]
theorem mhN_wf {N : Nt} (wf : WfN N) {w : Nat} (hw : w < 2 ^ n_n N) (on : Bool) : WfN (mhN N w on) := by
  refine ⟨wf.1, fun p hp => ?_⟩
  have hp' : p < n_n N := hp
  obtain ⟨w1, w2, w3, w4, w5⟩ := wf.2 p hp'
  refine ⟨w1, w2, bit_lt (fun i hi => ?_), ?_, fun q hq => ?_⟩
  · have hi' : n_n N ≤ i := hi
    show (mhJ N w on p).testBit i = false
    rw [mhJ_bit, if_neg (fun z => by rw [tb_out hw hi'] at z; exact absurd z.2.1 (by decide))]
    exact tb_out w3 hi'
  · show (mhJ N w on p).testBit p = false
    rw [mhJ_bit, if_neg (fun z => z.2.2 rfl)]; exact w4
  · show (mhJ N w on p).testBit q = (mhJ N w on q).testBit p
    rw [mhJ_bit, mhJ_bit, w5 q hq]
    by_cases h : w.testBit p = true ∧ w.testBit q = true ∧ q ≠ p
    · rw [if_pos h, if_pos ⟨h.2.1, h.1, Ne.symm h.2.2⟩]
    · rw [if_neg h, if_neg (fun z => h ⟨z.2.1, z.1, Ne.symm z.2.2⟩)]
theorem mhJ_lt {N : Nt} (wf : WfN N) {w : Nat} (hw : w < 2 ^ n_n N) (on : Bool) {p : Nat} (hp : p < n_n N) : mhJ N w on p < 2 ^ 64 := jn_lt64 (mhN_wf wf hw on) (p := p) hp
theorem nt_tieAll_loop {N : Nt} (wf : WfN N) {w : Nat} (hw : w < 2 ^ n_n N) {on : Bool} {x : Int32} (hx : x = 0 ↔ on = false) : ∀ (k fu p : Nat) (σ : Sto), p + k = n_n N → k < fu → NetAt σ 1 (mhP N w on p) →
    ∃ σ', L_Net_tieAll_3 fu 1 (lN w) x (nI p) σ = some ((), σ') ∧ NetAt σ' 1 (mhP N w on (n_n N)) ∧ FrN 1 σ σ' := by
  intro k
  have hn := wf.1
  have hw64 := lt64 wf hw
  induction k with
  | zero =>
    intro fu p σ hp hf h
    obtain ⟨fu, rfl⟩ : ∃ f, fu = f + 1 := ⟨fu - 1, by omega⟩
    refine ⟨σ, ?_, by rw [← show p = n_n N by omega]; exact h, FrN.rf⟩
    show B_Net_tieAll_3 (L_Net_tieAll_3 fu) _ _ _ _ _ = _
    unfold B_Net_tieAll_3
    rw [show gI σ 1 0 = nI (n_n N) from h.1, if_pos (nI_le (by omega) (by omega))]
  | succ k ih =>
    intro fu p σ hp hf h
    obtain ⟨fu, rfl⟩ : ∃ f, fu = f + 1 := ⟨fu - 1, by omega⟩
    have hpn : p < n_n N := by omega
    obtain ⟨p1, p2, p3, p4⟩ := h.2 p hpn
    have p3' : gL σ 4 p = lN (n_j N p) := by rw [show gL σ 4 p = _ from p3]; show lN (if p < p then _ else n_j N p) = _; rw [if_neg (by omega)]
    obtain ⟨w1, w2, w3, w4, w5⟩ := wf.2 p hpn
    have hjl := mhJ_lt wf hw on hpn
    have hj0 := jn_lt64 wf hpn
    have e0 : L_Net_tieAll_3 (fu + 1) 1 (lN w) x (nI p) σ = if w.testBit p = false then L_Net_tieAll_3 fu 1 (lN w) x (nI (p + 1)) σ else ((f_Net_weigh 1 (nI p) (sL σ 4 p (lN (mhJ N w on p)))).bind fun q => L_Net_tieAll_3 fu 1 (lN w) x (nI (p + 1)) q.2) := by
      show B_Net_tieAll_3 (L_Net_tieAll_3 fu) _ _ _ _ _ = _
      unfold B_Net_tieAll_3
      rw [show gI σ 1 0 = nI (n_n N) from h.1, if_neg (nI_ge hpn (by omega)), nt_isOf hw64 (by omega), Option.bind_some]
      simp only [b2i_eq0, lt1_eq, inb_ok (show p < 40 by omega) (show 40 < 2 ^ 31 by decide), if_true, nI_clamp (show p < 2 ^ 31 by omega), nI_1, hx, lsh_1 (show p < 64 by omega), lN_nd hw64, show 1 + 3 = 4 from rfl, p3', lN_nd hj0, fb_orL]
      rcases Bool.eq_false_or_eq_true (w.testBit p) with hb | hb
      · have em : mhJ N w on p = (if on then n_j N p ||| nd w (2 ^ p) else nd (n_j N p) (nd w (2 ^ p))) := by unfold mhJ; rw [hb]; rfl
        rw [em]
        simp only [hb, Bool.true_eq_false, if_false]
        cases on <;> simp
      · simp only [hb, if_true]
    rw [e0]
    cases hb : w.testBit p with
    | false =>
      rw [if_pos rfl]
      have hmj : mhJ N w on p = n_j N p := by unfold mhJ; rw [hb]; rfl
      refine ih fu (p + 1) σ (by omega) (by omega) ⟨h.1, fun q hq => ?_⟩
      have hq' : q < n_n N := hq
      obtain ⟨q1, q2, q3, q4⟩ := h.2 q hq
      have ej : n_j (mhP N w on (p + 1)) q = n_j (mhP N w on p) q := by
        show (if q < p + 1 then mhJ N w on q else n_j N q) = (if q < p then mhJ N w on q else n_j N q)
        by_cases e : q = p
        · subst e; rw [if_pos (by omega), if_neg (by omega), hmj]
        · by_cases e2 : q < p
          · rw [if_pos (by omega), if_pos e2]
          · rw [if_neg (by omega), if_neg e2]
      refine ⟨q1, q2, by rw [ej]; exact q3, ?_⟩
      have : wt (mhP N w on (p + 1)) q = wt (mhP N w on p) q := by unfold wt; rw [ej]; rfl
      rw [this]; exact q4
    | true =>
      rw [if_neg (by decide)]
      have hwg := nt_weigh (σ := sL σ 4 p (lN (mhJ N w on p))) (o := 1) hn hpn (show gI σ 1 0 = nI (n_n N) from h.1) (show gI σ 2 p = nI (n_k N p) from p1) (show gI σ 3 p = nI (n_f N p) from p2) (g_sL_eq _ _ _ _) w1 w2 hjl
      obtain ⟨τ, hτ⟩ : ∃ τ, τ = sI (sL σ 4 p (lN (mhJ N w on p))) 5 p (nI (wtv (n_k N p) (n_f N p) (pc (mhJ N w on p)))) := ⟨_, rfl⟩
      have hfr : FrN 1 σ τ := by rw [hτ]; exact FrN.tr (FrN.sL (by omega)) (FrN.sI (by omega))
      have hNτ : NetAt τ 1 (mhP N w on (p + 1)) := by
        refine ⟨by rw [hτ, g_sI_ne (by omega)]; exact h.1, fun q hq => ?_⟩
        have hq' : q < n_n N := hq
        obtain ⟨q1, q2, q3, q4⟩ := h.2 q hq
        refine ⟨by rw [hτ, g_sI_ne (by omega)]; exact q1, by rw [hτ, g_sI_ne (by omega)]; exact q2, ?_, ?_⟩
        · show gL τ 4 q = lN (if q < p + 1 then mhJ N w on q else n_j N q)
          rw [hτ, gL_sI]
          by_cases e : q = p
          · subst e; rw [g_sL_eq, if_pos (by omega)]
          · rw [g_sL_ne (by omega), show gL σ 4 q = _ from q3]
            show lN (if q < p then mhJ N w on q else n_j N q) = _
            by_cases e2 : q < p
            · rw [if_pos e2, if_pos (show q < p + 1 by omega)]
            · rw [if_neg e2, if_neg (show ¬ q < p + 1 by omega)]
        · show gI τ 5 q = nI (wtv (n_k N q) (n_f N q) (pc (if q < p + 1 then mhJ N w on q else n_j N q)))
          rw [hτ]
          by_cases e : q = p
          · subst e; rw [g_sI_eq, if_pos (by omega)]
          · rw [g_sI_ne (by omega), gI_sL, show gI σ 5 q = _ from q4]
            show nI (wtv (n_k N q) (n_f N q) (pc (if q < p then mhJ N w on q else n_j N q))) = _
            by_cases e2 : q < p
            · rw [if_pos e2, if_pos (show q < p + 1 by omega)]
            · rw [if_neg e2, if_neg (show ¬ q < p + 1 by omega)]
      obtain ⟨σ', e, g1, g2⟩ := ih fu (p + 1) τ (by omega) (by omega) hNτ
      refine ⟨σ', ?_, g1, hfr.tr g2⟩
      rw [show f_Net_weigh 1 (nI p) (sL σ 4 p (lN (mhJ N w on p))) = some ((), τ) from by rw [hτ]; exact hwg, Option.bind_some]
      exact e
theorem NetAt.cg {σ : Sto} {o : Nat} {N M : Nt} (h : NetAt σ o N) (h1 : n_n M = n_n N) (h2 : ∀ p, p < n_n N → n_k M p = n_k N p ∧ n_f M p = n_f N p ∧ n_j M p = n_j N p) : NetAt σ o M := by
  refine ⟨by rw [h1]; exact h.1, fun p hp => ?_⟩
  rw [h1] at hp
  obtain ⟨a1, a2, a3, a4⟩ := h.2 p hp
  obtain ⟨b1, b2, b3⟩ := h2 p hp
  refine ⟨by rw [b1]; exact a1, by rw [b2]; exact a2, by rw [b3]; exact a3, ?_⟩
  unfold wt
  rw [b1, b2, b3]; exact a4
theorem ModAt.cg {σ : Sto} {N M : Nt} (h : ModAt σ N) (h1 : n_n M = n_n N) (h2 : ∀ p, p < n_n N → n_k M p = n_k N p ∧ n_f M p = n_f N p ∧ n_j M p = n_j N p) : ModAt σ M := by
  refine ⟨by rw [h1]; exact h.1, fun p hp => ?_⟩
  rw [h1] at hp
  obtain ⟨a1, a2, a3⟩ := h.2 p hp
  obtain ⟨b1, b2, b3⟩ := h2 p hp
  exact ⟨by rw [b1]; exact a1, by rw [b2]; exact a2, by rw [b3]; exact a3⟩
theorem nt_tieAll {σ : Sto} {N : Nt} (h : NetAt σ 1 N) (wf : WfN N) {w : Nat} (hw : w < 2 ^ n_n N) {on : Bool} {x : Int32} (hx : x = 0 ↔ on = false) : ∃ σ', f_Net_tieAll 1 (lN w) x σ = some ((), σ') ∧ NetAt σ' 1 (mhN N w on) ∧ FrN 1 σ σ' := by
  obtain ⟨σ', e, g1, g2⟩ := nt_tieAll_loop wf hw hx (n_n N) LF 0 σ (by omega) (by have := wf.1; rw [LF_big]; omega) (h.cg rfl (fun p hp => ⟨rfl, rfl, by
    show (if p < 0 then mhJ N w on p else n_j N p) = n_j N p
    rw [if_neg (by omega)]⟩))
  refine ⟨σ', e, g1.cg rfl (fun p hp => ⟨rfl, rfl, ?_⟩), g2⟩
  have hp' : p < n_n N := hp
  show mhJ N w on p = (if p < n_n N then mhJ N w on p else n_j N p)
  rw [if_pos hp']
/-! how many ends -/
theorem ends_fl {N : Nt} (wf : WfN N) {a b : Nat} (ha : a < n_n N) (hb : b < n_n N) (hab : a ≠ b) : ((n_j N a).testBit b = true → ends (flipN N a b) (n_n N) + 2 = ends N (n_n N)) ∧ ((n_j N a).testBit b = false → ends (flipN N a b) (n_n N) = ends N (n_n N) + 2) := by
  have hn := wf.1
  have hsym : (n_j N b).testBit a = (n_j N a).testBit b := ((wf.2 a ha).2.2.2.2 b hb).symm
  have e1 : ends (flipN N a b) (n_n N) = fb_sm (fun k => if k = a then pc (n_j N a ^^^ 2 ^ b) else if k = b then pc (n_j N b ^^^ 2 ^ a) else pc (n_j N k)) (n_n N) := by
    unfold ends
    refine fb_sm_cong (fun k _ => ?_)
    rw [fl_j wf ha hb hab]
    by_cases c1 : k = a
    · rw [if_pos c1, if_pos c1]
    · rw [if_neg c1, if_neg c1]
      by_cases c2 : k = b
      · rw [if_pos c2, if_pos c2]
      · rw [if_neg c2, if_neg c2]
  have u1 := fb_sm_upd (fun k => if k = b then pc (n_j N b ^^^ 2 ^ a) else pc (n_j N k)) (pc (n_j N a ^^^ 2 ^ b)) (i := a) (n := n_n N) ha
  have u2 := fb_sm_upd (fun k => pc (n_j N k)) (pc (n_j N b ^^^ 2 ^ a)) (i := b) (n := n_n N) hb
  rw [if_neg hab] at u1
  have v1 : fb_sm (fun k => if k = a then pc (n_j N a ^^^ 2 ^ b) else if k = b then pc (n_j N b ^^^ 2 ^ a) else pc (n_j N k)) (n_n N) + pc (n_j N a) = fb_sm (fun k => if k = b then pc (n_j N b ^^^ 2 ^ a) else pc (n_j N k)) (n_n N) + pc (n_j N a ^^^ 2 ^ b) := u1
  have v2 : fb_sm (fun k => if k = b then pc (n_j N b ^^^ 2 ^ a) else pc (n_j N k)) (n_n N) + pc (n_j N b) = ends N (n_n N) + pc (n_j N b ^^^ 2 ^ a) := u2
  rw [← e1] at v1
  clear u1 u2 e1
  constructor
  · intro h
    have x1 : pc (n_j N a ^^^ 2 ^ b) + 1 = pc (n_j N a) := by rw [xor_bit1, h, if_pos rfl]; exact pc_nd (by omega) h
    have x2 : pc (n_j N b ^^^ 2 ^ a) + 1 = pc (n_j N b) := by rw [xor_bit1, hsym, h, if_pos rfl]; exact pc_nd (by omega) (by rw [hsym]; exact h)
    omega
  · intro h
    have x1 : pc (n_j N a ^^^ 2 ^ b) = pc (n_j N a) + 1 := by rw [xor_bit1, h, if_neg (by decide)]; exact pc_or (by omega) h
    have x2 : pc (n_j N b ^^^ 2 ^ a) = pc (n_j N b) + 1 := by rw [xor_bit1, hsym, h, if_neg (by decide)]; exact pc_or (by omega) (by rw [hsym]; exact h)
    omega
/-- what the reference's mesh has come to, when pairs before (a, b) are done -/
def MhS (N : Nt) (w : Nat) (on : Bool) (a b F : Nat) (M : Nt) : Prop := WfN M ∧ n_n M = n_n N ∧ n_k M = n_k N ∧ n_f M = n_f N ∧ (∀ x y, x < y → y < n_n N → (n_j M x).testBit y = if w.testBit x = true ∧ w.testBit y = true ∧ (x < a ∨ (x = a ∧ y < b)) then on else (n_j N x).testBit y) ∧ (if on = true then ends M (n_n N) = ends N (n_n N) + 2 * F else ends M (n_n N) + 2 * F = ends N (n_n N)) ∧ F ≤ a * 40 + b
theorem mo_mesh_in {N : Nt} {w : Nat} (hw : w < 2 ^ 40) (hn : n_n N ≤ 40) {on : Bool} {x : Int32} (hx : x = 1 ↔ on = true) {a : Nat} (ha : a < n_n N) {k24 : Int64 → Int32 → Int32 → Int32 → Sto → Option (Int32 × Sto)} : ∀ (k fu b F : Nat) (M : Nt) (σ : Sto), b + k = n_n N → a < b → k < fu → ModAt σ M → MhS N w on a b F M →
    ∃ (F' : Nat) (M' : Nt) (σ' : Sto), L_Mo_mesh_39 k24 fu (lN w) x (nI F) (nI a) (nI b) σ = k24 (lN w) x (nI F') (nI (a + 1)) σ' ∧ ModAt σ' M' ∧ MhS N w on a (n_n N) F' M' ∧ FrJ σ σ' := by
  intro k
  have hw64 : w < 2 ^ 64 := Nat.lt_trans hw (by decide)
  induction k with
  | zero =>
    intro fu b F M σ hb hab hf h hS
    obtain ⟨fu, rfl⟩ : ∃ f, fu = f + 1 := ⟨fu - 1, by omega⟩
    refine ⟨F, M, σ, ?_, h, by rw [← show b = n_n N by omega]; exact hS, FrJ.rf⟩
    show B_Mo_mesh_39 k24 (L_Mo_mesh_39 k24 fu) _ _ _ _ _ _ = _
    unfold B_Mo_mesh_39
    rw [h.1, hS.2.1, if_pos (nI_le (by omega) (by omega)), nI_1]
  | succ k ih =>
    intro fu b F M σ hb hab hf h hS
    obtain ⟨fu, rfl⟩ : ∃ f, fu = f + 1 := ⟨fu - 1, by omega⟩
    have hS' := hS
    obtain ⟨wfM, s1, s2, s3, s4, s5, s6⟩ := hS
    have hbn : b < n_n N := by omega
    have hab' : a ≠ b := by omega
    have haM : a < n_n M := by rw [s1]; exact ha
    have hbM : b < n_n M := by rw [s1]; exact hbn
    have hjM := jn_lt64 wfM haM
    have ebit : (n_j M a).testBit b = (n_j N a).testBit b := by rw [s4 a b hab hbn, if_neg (by omega)]
    obtain ⟨f1, f2⟩ := mo_flS h wfM haM hbM hab'
    have frj : FrJ σ (flS σ M a b) := FrJ.tr FrJ.sL FrJ.sL
    have e0 : L_Mo_mesh_39 k24 (fu + 1) (lN w) x (nI F) (nI a) (nI b) σ = (if w.testBit a = true ∧ w.testBit b = true ∧ (n_j N a).testBit b ≠ on then L_Mo_mesh_39 k24 fu (lN w) x (nI (F + 1)) (nI a) (nI (b + 1)) (flS σ M a b) else L_Mo_mesh_39 k24 fu (lN w) x (nI F) (nI a) (nI (b + 1)) σ) := by
      show B_Mo_mesh_39 k24 (L_Mo_mesh_39 k24 fu) _ _ _ _ _ _ = _
      unfold B_Mo_mesh_39
      rw [h.1, s1, if_neg (nI_ge hbn (by omega)), has_eq hw64 (by omega), Option.bind_some]
      simp only [b2i_eq0, has_eq hw64 (show b < 64 by omega), Option.bind_some, inb_ok (show a < 40 by omega) (show 40 < 2 ^ 31 by decide), if_true, nI_clamp (show a < 2 ^ 31 by omega), (h.2 a haM).2.2, has_eq hjM (show b < 64 by omega), ebit, hx, f1, nI_1]
      rcases Bool.eq_false_or_eq_true (w.testBit a) with c1 | c1
      · rcases Bool.eq_false_or_eq_true (w.testBit b) with c2 | c2
        · simp only [c1, c2, true_and, Bool.true_eq_false, if_false]
          cases on <;> rcases Bool.eq_false_or_eq_true ((n_j N a).testBit b) with c3 | c3 <;> simp [c3, b2i]
        · simp only [c1, c2, Bool.true_eq_false, if_false, if_true, Bool.false_eq_true, false_and, and_false]
      · simp only [c1, if_true, Bool.false_eq_true, false_and, if_false]
    rw [e0]
    by_cases hc : w.testBit a = true ∧ w.testBit b = true ∧ (n_j N a).testBit b ≠ on
    · rw [if_pos hc]
      obtain ⟨F', M', σ', e, g1, g2, g3⟩ := ih fu (b + 1) (F + 1) (flipN M a b) (flS σ M a b) (by omega) (by omega) (by omega) f2 ⟨fl_wf wfM haM hbM hab', s1, s2, s3, fun p q hpq hq => by
          unfold flipN
          rw [tieN_bit hab', ebit]
          by_cases cc : (p = a ∧ q = b) ∨ (p = b ∧ q = a)
          · rw [if_pos cc]
            have : p = a ∧ q = b := by omega
            rw [this.1, this.2, if_pos ⟨hc.1, hc.2.1, by omega⟩]
            have := hc.2.2
            revert this
            cases (n_j N a).testBit b <;> cases on <;> simp
          · rw [if_neg cc, s4 p q hpq hq]
            by_cases dd : w.testBit p = true ∧ w.testBit q = true ∧ (p < a ∨ (p = a ∧ q < b))
            · rw [if_pos dd, if_pos ⟨dd.1, dd.2.1, by omega⟩]
            · rw [if_neg dd, if_neg (fun z => dd ⟨z.1, z.2.1, by omega⟩)], by
          have x := ends_fl wfM haM hbM hab'
          rw [s1, ebit] at x
          have y := hc.2.2
          revert y s5
          cases on
          · simp only [Bool.false_eq_true, if_false]
            intro s5 y
            have := x.1 (by revert y; cases (n_j N a).testBit b <;> simp)
            omega
          · simp only [if_true]
            intro s5 y
            have := x.2 (by revert y; cases (n_j N a).testBit b <;> simp)
            omega, by omega⟩
      exact ⟨F', M', σ', e, g1, g2, frj.tr g3⟩
    · rw [if_neg hc]
      refine ih fu (b + 1) F M σ (by omega) (by omega) (by omega) h ⟨wfM, s1, s2, s3, fun p q hpq hq => ?_, s5, by omega⟩
      rw [s4 p q hpq hq]
      by_cases dd : w.testBit p = true ∧ w.testBit q = true ∧ (p < a ∨ (p = a ∧ q < b))
      · rw [if_pos dd, if_pos ⟨dd.1, dd.2.1, by omega⟩]
      · rw [if_neg dd]
        by_cases ee : w.testBit p = true ∧ w.testBit q = true ∧ (p < a ∨ (p = a ∧ q < b + 1))
        · rw [if_pos ee]
          have : p = a ∧ q = b := by
            have := ee.2.2
            have h3 : ¬ (p < a ∨ (p = a ∧ q < b)) := fun z => dd ⟨ee.1, ee.2.1, z⟩
            omega
          rw [this.1, this.2] at ee ⊢
          cases hz : (n_j N a).testBit b <;> cases on
          · rfl
          · exact absurd ⟨ee.1, ee.2.1, by rw [hz]; decide⟩ hc
          · exact absurd ⟨ee.1, ee.2.1, by rw [hz]; decide⟩ hc
          · rfl
        · rw [if_neg ee]
theorem mo_mesh_loop {N : Nt} {w : Nat} (hw : w < 2 ^ 40) (hn : n_n N ≤ 40) {on : Bool} {x : Int32} (hx : x = 1 ↔ on = true) : ∀ (k fu a F : Nat) (M : Nt) (σ : Sto), a + k = n_n N → k < fu → ModAt σ M → MhS N w on a 0 F M →
    ∃ (F' : Nat) (M' : Nt) (σ' : Sto), L_Mo_mesh_24 fu (lN w) x (nI F) (nI a) σ = some (nI F', σ') ∧ ModAt σ' M' ∧ MhS N w on (n_n N) 0 F' M' ∧ FrJ σ σ' := by
  intro k
  induction k with
  | zero =>
    intro fu a F M σ ha hf h hS
    obtain ⟨fu, rfl⟩ : ∃ f, fu = f + 1 := ⟨fu - 1, by omega⟩
    refine ⟨F, M, σ, ?_, h, by rw [← show a = n_n N by omega]; exact hS, FrJ.rf⟩
    show B_Mo_mesh_24 (L_Mo_mesh_24 fu) _ _ _ _ _ = _
    unfold B_Mo_mesh_24
    rw [h.1, hS.2.1, if_pos (nI_le (by omega) (by omega))]
  | succ k ih =>
    intro fu a F M σ ha hf h hS
    obtain ⟨fu, rfl⟩ : ∃ f, fu = f + 1 := ⟨fu - 1, by omega⟩
    have han : a < n_n N := by omega
    obtain ⟨wfM, s1, s2, s3, s4, s5, s6⟩ := hS
    obtain ⟨F1, M1, σ1, e1, g1, g2, g3⟩ := mo_mesh_in hw hn hx han (k24 := L_Mo_mesh_24 fu) k LF (a + 1) F M σ (by omega) (by omega) (by rw [LF_big]; omega) h ⟨wfM, s1, s2, s3, fun p q hpq hq => by
      rw [s4 p q hpq hq]
      by_cases dd : w.testBit p = true ∧ w.testBit q = true ∧ (p < a ∨ (p = a ∧ q < 0))
      · rw [if_pos dd, if_pos ⟨dd.1, dd.2.1, by omega⟩]
      · rw [if_neg dd, if_neg (fun z => dd ⟨z.1, z.2.1, by omega⟩)], s5, by omega⟩
    obtain ⟨wf2, t1, t2, t3, t4, t5, t6⟩ := g2
    obtain ⟨F', M', σ', e, a1, a2, a3⟩ := ih fu (a + 1) F1 M1 σ1 (by omega) (by omega) g1 ⟨wf2, t1, t2, t3, fun p q hpq hq => by
      rw [t4 p q hpq hq]
      by_cases dd : w.testBit p = true ∧ w.testBit q = true ∧ (p < a ∨ (p = a ∧ q < n_n N))
      · rw [if_pos dd, if_pos ⟨dd.1, dd.2.1, by omega⟩]
      · rw [if_neg dd, if_neg (fun z => dd ⟨z.1, z.2.1, by omega⟩)], t5, by omega⟩
    refine ⟨F', M', σ', ?_, a1, a2, g3.tr a3⟩
    show B_Mo_mesh_24 (L_Mo_mesh_24 fu) _ _ _ _ _ = _
    unfold B_Mo_mesh_24
    rw [h.1, s1, if_neg (nI_ge han (by omega)), nI_1]
    exact e1.trans e
