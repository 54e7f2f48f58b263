/-! climb: what the greatest ring comes to -/
theorem mea_sm {N : Nt} {m w : Nat} (hm : m < 2) (hn : n_n N ≤ 40) (hw : w < 2 ^ n_n N) : mea N m w = fb_sm (fun p => if w.testBit p then mea1 N m p else 0) (n_n N) := (sm_mea hm hn hw).symm
theorem mea_mono {N : Nt} (wf : WfN N) {m a b : Nat} (hm : m < 2) (hb : b < 2 ^ n_n N) (h : subN a b) : mea N m a ≤ mea N m b := by
  have ha : a < 2 ^ n_n N := bit_lt (fun i hi => by
    cases hz : a.testBit i with
    | false => rfl
    | true => have := h i hz; rw [tb_out hb hi] at this; cases this)
  rw [mea_sm hm wf.1 ha, mea_sm hm wf.1 hb]
  refine fb_sm_le (fun k _ => ?_)
  show (if a.testBit k then mea1 N m k else 0) ≤ (if b.testBit k then mea1 N m k else 0)
  cases hz : a.testBit k with
  | false => exact Nat.zero_le _
  | true => rw [h k hz]; exact Nat.le_refl _
theorem or_nd {R p : Nat} (h : R.testBit p = true) : nd R (2 ^ p) ||| 2 ^ p = R := bx (fun i => by
  rw [or1_bit, nd1_bit]
  by_cases ei : i = p
  · rw [ei, h]; simp
  · simp [ei])
theorem mxI_I (x y : Int32) : (mxI x y).toInt = max x.toInt y.toInt := by
  unfold mxI
  by_cases h : x < y
  · rw [if_pos h]; rw [Int32.lt_iff_toInt_lt] at h; omega
  · rw [if_neg h]; rw [Int32.lt_iff_toInt_lt] at h; omega
theorem fr_lastOf0 {t : Nat} (ht : t ≤ 40) {σ : Sto} : f_FR_lastOf (lN 0) (nI t - 1) σ = some (-1, σ) := by
  have lp : ∀ (k fu : Nat), k ≤ 40 → k < fu → L_FR_lastOf_2 fu (lN 0) (nI k - 1) σ = some (-1, σ) := by
    intro k
    induction k with
    | zero =>
      intro fu _ hf
      obtain ⟨fu, rfl⟩ : ∃ z, fu = z + 1 := ⟨fu - 1, by omega⟩
      show B_FR_lastOf_2 (L_FR_lastOf_2 fu) _ _ _ = _
      unfold B_FR_lastOf_2
      rw [if_pos m1_neg]
    | succ k ih =>
      intro fu hk hf
      obtain ⟨fu, rfl⟩ : ∃ z, fu = z + 1 := ⟨fu - 1, by omega⟩
      show B_FR_lastOf_2 (L_FR_lastOf_2 fu) _ _ _ = _
      unfold B_FR_lastOf_2
      rw [show nI (k + 1) - (1 : Int32) = nI k from nI_pred k, if_neg (nI_pos (by omega)), nt_isOf (Nat.two_pow_pos 64) (by omega), Option.bind_some, Nat.zero_testBit, ite_bf, nI_m1]
      exact ih fu (by omega) (by omega)
  exact lp t LF ht (by rw [LF_big]; omega)
theorem fi_together {N : Nt} {m op p : Nat} (hop : op < 2 ^ 64) (hp : p < 40) {σ : Sto} (hw : ∀ q, q ≤ p → gI σ 28 q = nI (mea1 N m q)) : f_Finder_worthTogether (lN op) (nI p) σ = some (nI (fb_sm (fun q => if op.testBit q then mea1 N m q else 0) (p + 1)), σ) := by
  have lp : ∀ (k fu i : Nat), i + k = p + 1 → k < fu → L_Finder_worthTogether_6 fu (lN op) (nI p) (nI (fb_sm (fun q => if op.testBit q then mea1 N m q else 0) i)) (nI i) σ = some (nI (fb_sm (fun q => if op.testBit q then mea1 N m q else 0) (p + 1)), σ) := by
    intro k
    induction k with
    | zero =>
      intro fu i hi hf
      obtain ⟨fu, rfl⟩ : ∃ z, fu = z + 1 := ⟨fu - 1, by omega⟩
      show B_Finder_worthTogether_6 (L_Finder_worthTogether_6 fu) _ _ _ _ _ = _
      unfold B_Finder_worthTogether_6
      rw [if_pos (nI_lt (by omega) (by omega)), show i = p + 1 by omega]
    | succ k ih =>
      intro fu i hi hf
      obtain ⟨fu, rfl⟩ : ∃ z, fu = z + 1 := ⟨fu - 1, by omega⟩
      have e := ih fu (i + 1) (by omega) (by omega)
      rw [fb_sm_succ] at e
      show B_Finder_worthTogether_6 (L_Finder_worthTogether_6 fu) _ _ _ _ _ = _
      unfold B_Finder_worthTogether_6
      rw [if_neg (nI_nlt (by omega) (by omega)), nt_isOf hop (by omega), Option.bind_some]
      simp only [b2i_eq0, inb_ok (show i < 40 by omega) (show 40 < 2 ^ 31 by decide), if_true, nI_clamp (show i < 2 ^ 31 by omega), lt1_eq, hw i (by omega), nI_add, nI_1]
      cases hb : op.testBit i with
      | false =>
        rw [if_pos rfl]
        rw [hb, if_neg (by decide), Nat.add_zero] at e
        exact e
      | true =>
        rw [if_neg (by decide)]
        rw [hb, if_pos rfl] at e
        exact e
  exact lp (p + 1) LF 0 (by omega) (by rw [LF_big]; omega)
/-- the finder as it was prepared -/
def FiP (σ : Sto) (o : Nat) (N : Nt) (s m : Nat) (G : Int) : Prop := NetAt σ o N ∧ gN σ = o ∧ gI σ 26 3 = nI s ∧ (∀ p, p < n_n N → gI σ 28 p = nI (mea1 N m p)) ∧ (gI σ 26 9).toInt = G
def k8 (c j : Nat) : Bool := !(decide (c = 26) && decide (j = 8))
theorem k8_t {c j : Nat} (h : ¬ (c = 26 ∧ j = 8)) : k8 c j = true := by
  unfold k8
  simp only [Bool.not_eq_true', Bool.and_eq_false_iff, decide_eq_false_iff_not]
  omega
theorem k8_f : k8 26 8 = false := by decide
theorem FiP.fr {σ σ' : Sto} {o : Nat} {N : Nt} {s m : Nat} {G : Int} (h : FiP σ o N s m G) (ho : o + 5 ≤ 26) (hs : Scr k8 σ σ') (hN : gN σ' = gN σ) : FiP σ' o N s m G :=
  ⟨h.1.scr (fun c j _ b => (hs c j (k8_t (by omega))).1) (fun j => (hs (o + 3) j (k8_t (by omega))).2), hN.trans h.2.1, by rw [(hs 26 3 (k8_t (by omega))).1]; exact h.2.2.1, fun p hp => by rw [(hs 28 p (k8_t (by omega))).1]; exact h.2.2.2.1 p hp, by rw [(hs 26 9 (k8_t (by omega))).1]; exact h.2.2.2.2⟩
theorem clq_sub {N : Nt} {s a b : Nat} (h : subN a b) (hc : Clq N s b) : Clq N s a := fun p q hp hq hpq => hc p q (h p hp) (h q hq) hpq
theorem fi_climb {N : Nt} (wf : WfN N) {o s m : Nat} {G : Int} (ho : o + 5 ≤ 26) (hcls : cls o = 4) (hs : s < 2) (hm : m < 2) : ∀ (f op sum t : Nat) (σ : Sto) (b : Int), pc op < f → op < 2 ^ t → t ≤ n_n N → sum + mea N m op ≤ 12000 → FiP σ o N s m G → (gI σ 26 8).toInt = b → -1 ≤ b → b ≤ 13000 →
    ∃ σ' b', f_Finder_climb f (lN op) (nI sum) (nI t - 1) σ = some ((), σ') ∧ (gI σ' 26 8).toInt = b' ∧ b ≤ b' ∧ b' ≤ 13000 ∧ (b' = b ∨ ∃ R, subN R op ∧ Clq N s R ∧ b' = ((sum + mea N m R : Nat) : Int)) ∧ (G ≤ b' ∨ ∀ R, subN R op → Clq N s R → ((sum + mea N m R : Nat) : Int) ≤ b') ∧ Scr k8 σ σ' ∧ gN σ' = gN σ := by
  intro f
  have hn := wf.1
  induction f with
  | zero => intro op sum t σ b h; omega
  | succ f ih =>
    intro op sum t σ b hf hop ht hsum hF hb hb1 hb2
    have hopn : op < 2 ^ n_n N := Nat.lt_of_lt_of_le hop (two_pow_le ht)
    have hop64 := lt64 wf hopn
    obtain ⟨τ, hτ⟩ : ∃ τ, τ = sI σ 26 8 (mxI (gI σ 26 8) (nI sum)) := ⟨_, rfl⟩
    have hsτ : Scr k8 σ τ := by rw [hτ]; exact Scr.sI k8_f
    have hNτ : gN τ = gN σ := by rw [hτ]; rfl
    have hFτ := hF.fr ho hsτ hNτ
    have hbτ : (gI τ 26 8).toInt = max b (sum : Int) := by rw [hτ, g_sI_eq, mxI_I, hb, nI_toInt (by omega)]
    have c0 : Clq N s 0 := fun p q hp => by rw [Nat.zero_testBit] at hp; exact absurd hp (by decide)
    have s0 : subN 0 op := fun i hi => by rw [Nat.zero_testBit] at hi; exact absurd hi (by decide)
    have first : max b (sum : Int) = b ∨ ∃ R, subN R op ∧ Clq N s R ∧ max b (sum : Int) = ((sum + mea N m R : Nat) : Int) := by
      by_cases hq : (sum : Int) ≤ b
      · left; omega
      · right; exact ⟨0, s0, c0, by rw [mea_0, Nat.add_zero]; omega⟩
    by_cases h0 : op = 0
    · subst h0
      refine ⟨τ, max b (sum : Int), ?_, hbτ, by omega, by omega, first, Or.inr (fun R hR _ => ?_), hsτ, hNτ⟩
      · show B_Finder_climb_0 (f_Finder_climb f) _ _ _ _ = _
        unfold B_Finder_climb_0
        rw [← hτ, fr_lastOf0 (by omega), Option.bind_some]
        simp only [hFτ.2.1, if_pos hcls]
        rw [nt_has hFτ.1 wf, Option.bind_some, ptB_neg, ite_bf]
      · rw [sub_0 hR, mea_0]; omega
    · obtain ⟨b1, b2⟩ := hP_ok hop64 h0
      have hbt := bit_in hop b1
      have hlast := fr_lastOf hop (show t ≤ 40 by omega) (σ := τ) h0
      have hrest := nd_hP hop64 h0
      generalize hP op = p at *
      have hpn : p < n_n N := by omega
      have etog := fi_together (N := N) (m := m) hop64 (show p < 40 by omega) (σ := τ) (fun q hq => hFτ.2.2.2.1 q (by omega))
      have emea : fb_sm (fun q => if op.testBit q then mea1 N m q else 0) (p + 1) = mea N m op := by
        rw [mea_sm hm hn hopn]
        have := fb_sm_split (fun q => if op.testBit q then mea1 N m q else 0) (p + 1) (n_n N - (p + 1))
        rw [show p + 1 + (n_n N - (p + 1)) = n_n N by omega] at this
        have hz : fb_sm (fun k => if op.testBit (p + 1 + k) then mea1 N m (p + 1 + k) else 0) (n_n N - (p + 1)) = 0 := by
          have := fb_sm_bound (f := fun k => if op.testBit (p + 1 + k) then mea1 N m (p + 1 + k) else 0) (c := 0) (n := n_n N - (p + 1)) (fun k _ => by
            show (if op.testBit (p + 1 + k) then mea1 N m (p + 1 + k) else 0) ≤ 0
            rw [tb_out b2 (by omega)]; simp)
          omega
        have this' : fb_sm (fun q => if op.testBit q then mea1 N m q else 0) (n_n N) = fb_sm (fun q => if op.testBit q then mea1 N m q else 0) (p + 1) + fb_sm (fun k => if op.testBit (p + 1 + k) then mea1 N m (p + 1 + k) else 0) (n_n N - (p + 1)) := this
        rw [this', hz]
        exact (Nat.add_zero _).symm
      rw [emea] at etog
      have hm1 := mea_or wf (m := m) (x := nd op (2 ^ p)) hpn (by rw [nd1_bit]; simp)
      rw [or_nd b1] at hm1
      have hfit_sub : subN (fit N s p (nd op (2 ^ p))) (nd op (2 ^ p)) := fit_sub
      have hmf := mea_mono wf (m := m) hm (nd_lt hopn (b := 2 ^ p)) hfit_sub
      have hp1 := pc_nd (w := op) (b := p) (by omega) b1
      have hp2 := pc_mono hfit_sub
      have hnd_sub : subN (nd op (2 ^ p)) op := fun i hi => by rw [nd1_bit, Bool.and_eq_true] at hi; exact hi.1
      have e0 : f_Finder_climb (f + 1) (lN op) (nI sum) (nI t - 1) σ = (if gI τ 26 9 ≤ gI τ 26 8 then some ((), τ) else (if gI τ 26 8 < nI (sum + mea N m op) then ((f_Finder_climb f (lN (fit N s p (nd op (2 ^ p)))) (nI (sum + mea1 N m p)) (nI p - 1) τ).bind fun q8 => (if fit N s p (nd op (2 ^ p)) = nd op (2 ^ p) then some ((), q8.2) else ((f_Finder_climb f (lN (nd op (2 ^ p))) (nI sum) (nI p - 1) q8.2).bind fun q9 => some ((), q9.2)))) else some ((), τ))) := by
        show B_Finder_climb_0 (f_Finder_climb f) _ _ _ _ = _
        unfold B_Finder_climb_0
        rw [← hτ, hlast, Option.bind_some]
        simp only [hFτ.2.1, if_pos hcls]
        rw [nt_hasN hFτ.1 wf hpn, Option.bind_some, ite_bt]
        simp only [etog, Option.bind_some, nI_add, lt1_eq, lsh_1 (show p < 64 by omega), lN_nd hop64, hFτ.2.1, if_pos hcls, hFτ.2.2.1, nt_fitting hFτ.1 wf hs hpn (nd_lt (b := 2 ^ p) hop64), inb_ok (show p < 40 by omega) (show 40 < 2 ^ 31 by decide), if_true, nI_clamp (show p < 2 ^ 31 by omega), hFτ.2.2.2.1 p hpn, lN_inj64 (fit_lt (N := N) (s := s) (p := p) (nd_lt (b := 2 ^ p) hop64)) (nd_lt (b := 2 ^ p) hop64)]
      by_cases hg : gI τ 26 9 ≤ gI τ 26 8
      · refine ⟨τ, max b (sum : Int), by rw [e0, if_pos hg], hbτ, by omega, by omega, first, Or.inl ?_, hsτ, hNτ⟩
        rw [Int32.le_iff_toInt_le, hFτ.2.2.2.2, hbτ] at hg
        exact hg
      by_cases hh : gI τ 26 8 < nI (sum + mea N m op)
      rotate_left
      · refine ⟨τ, max b (sum : Int), by rw [e0, if_neg hg, if_neg hh], hbτ, by omega, by omega, first, Or.inr (fun R hR _ => ?_), hsτ, hNτ⟩
        rw [Int32.lt_iff_toInt_lt, hbτ, nI_toInt (by omega)] at hh
        have := mea_mono wf (m := m) hm hopn hR
        omega
      rw [Int32.lt_iff_toInt_lt, hbτ, nI_toInt (by omega)] at hh
      have hh' : gI τ 26 8 < nI (sum + mea N m op) := by rw [Int32.lt_iff_toInt_lt, hbτ, nI_toInt (by omega)]; exact hh
      obtain ⟨σ1, x1, e1, q1, q2, q2b, q3, q4, q5, q6⟩ := ih (fit N s p (nd op (2 ^ p))) (sum + mea1 N m p) p τ (max b (sum : Int)) (by omega) (fit_lt hrest) (by omega) (by omega) hFτ hbτ (by omega) (by omega)
      have bx1 : b ≤ x1 := Int.le_trans (Int.le_max_left _ _) q2
      have ax1 : -1 ≤ x1 := Int.le_trans hb1 bx1
      have a1 : pc (nd op (2 ^ p)) < f := by clear first q3 q4; omega
      have a2 : p ≤ n_n N := by clear first q3 q4; omega
      have a3 : sum + mea N m (nd op (2 ^ p)) ≤ 12000 := by clear first q3 q4; omega
      -- what the first branch found, as a ring of op
      have lift1 : x1 = max b (sum : Int) ∨ ∃ R, subN R op ∧ Clq N s R ∧ x1 = ((sum + mea N m R : Nat) : Int) := by
        rcases q3 with q3 | ⟨R, r1, r2, r3⟩
        · exact Or.inl q3
        · right
          have hRp : R.testBit p = false := by
            cases hz : R.testBit p with
            | false => rfl
            | true => have := hfit_sub p (r1 p hz); rw [nd1_bit] at this; simp at this
          refine ⟨R ||| 2 ^ p, fun i hi => ?_, fun x y hx hy hxy => ?_, ?_⟩
          · rw [or1_bit, Bool.or_eq_true, decide_eq_true_eq] at hi
            rcases hi with hi | hi
            · exact hnd_sub i (hfit_sub i (r1 i hi))
            · rw [hi]; exact b1
          · have rlp : ∀ i, R.testBit i = true → rl N s p i = true ∧ i < n_n N := fun i hi => by
              have := r1 i hi
              rw [fit_rl, Bool.and_eq_true] at this
              exact ⟨this.2, bit_in hopn (hnd_sub i this.1)⟩
            rw [or1_bit, Bool.or_eq_true, decide_eq_true_eq] at hx hy
            rcases hx with hx | hx
            · rcases hy with hy | hy
              · exact r2 x y hx hy hxy
              · rw [hy, rl_sym wf (rlp x hx).2 hpn]; exact (rlp x hx).1
            · rcases hy with hy | hy
              · rw [hx]; exact (rlp y hy).1
              · omega
          · rw [mea_or wf hpn hRp, r3]; omega
      have lift1' : x1 = b ∨ ∃ R, subN R op ∧ Clq N s R ∧ x1 = ((sum + mea N m R : Nat) : Int) := by
        rcases lift1 with z | z
        · rcases first with y | y
          · left; omega
          · right; rw [z]; exact y
        · exact Or.inr z
      -- rings with p
      have with_p : G ≤ x1 ∨ ∀ R, subN R op → Clq N s R → R.testBit p = true → ((sum + mea N m R : Nat) : Int) ≤ x1 := by
        rcases q4 with q4 | q4
        · exact Or.inl q4
        · right
          intro R hR hC hRp
          have := q4 (nd R (2 ^ p)) (fun i hi => by
            rw [nd1_bit, Bool.and_eq_true] at hi
            have hip : i ≠ p := fun z => by rw [z] at hi; simp at hi
            rw [fit_rl, nd1_bit, hR i hi.1, hC p i hRp hi.1 (Ne.symm hip)]
            simp [hip]) (clq_sub (fun i hi => by rw [nd1_bit, Bool.and_eq_true] at hi; exact hi.1) hC)
          have e := mea_or wf (m := m) (x := nd R (2 ^ p)) hpn (by rw [nd1_bit]; simp)
          rw [or_nd hRp] at e
          omega
      by_cases hfr : fit N s p (nd op (2 ^ p)) = nd op (2 ^ p)
      · refine ⟨σ1, x1, ?_, q1, bx1, q2b, lift1', ?_, hsτ.tr q5, q6.trans hNτ⟩
        · rw [e0, if_neg hg, if_pos hh', e1, Option.bind_some, if_pos hfr]
        · rcases q4 with q4 | q4
          · exact Or.inl q4
          · right
            intro R hR hC
            have := q4 (nd R (2 ^ p)) (fun i hi => by
              rw [nd1_bit, Bool.and_eq_true] at hi
              rw [hfr, nd1_bit, hR i hi.1]; exact hi.2) (clq_sub (fun i hi => by rw [nd1_bit, Bool.and_eq_true] at hi; exact hi.1) hC)
            have e := mea_or wf (m := m) (x := nd R (2 ^ p)) hpn (by rw [nd1_bit]; simp)
            have hRl : nd R (2 ^ p) ||| 2 ^ p < 2 ^ n_n N := or_lt (nd_lt (bit_lt (fun i hi => by
              cases hz : R.testBit i with
              | false => rfl
              | true => have := hR i hz; rw [tb_out hopn hi] at this; cases this))) (pow_lt hpn)
            have le := mea_mono wf (m := m) (a := R) hm hRl (fun i hi => by
              rw [or1_bit, nd1_bit, hi]
              by_cases ei : i = p
              · simp [ei]
              · simp [ei])
            omega
      · obtain ⟨σ2, x2, e2, t1, t2, t2b, t3, t4, t5, t6⟩ := ih (nd op (2 ^ p)) sum p σ1 x1 a1 hrest a2 a3 (hFτ.fr ho q5 q6) q1 ax1 q2b
        refine ⟨σ2, x2, ?_, t1, Int.le_trans bx1 t2, t2b, ?_, ?_, (hsτ.tr q5).tr t5, t6.trans (q6.trans hNτ)⟩
        · rw [e0, if_neg hg, if_pos hh', e1, Option.bind_some, if_neg hfr]
          simp only []
          rw [e2, Option.bind_some]
        · rcases t3 with t3 | ⟨R, r1, r2, r3⟩
          · rw [t3]; exact lift1'
          · exact Or.inr ⟨R, fun i hi => hnd_sub i (r1 i hi), r2, r3⟩
        · rcases t4 with t4 | t4
          · exact Or.inl t4
          · rcases with_p with wp | wp
            · left; exact Int.le_trans wp t2
            · right
              intro R hR hC
              cases hRp : R.testBit p with
              | true => exact Int.le_trans (wp R hR hC hRp) t2
              | false =>
                exact t4 R (fun i hi => by
                  rw [nd1_bit, hR i hi]
                  by_cases ei : i = p
                  · rw [ei, hRp] at hi; cases hi
                  · simp [ei]) hC
