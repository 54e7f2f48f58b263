/-! deal: the step of the lot is kept as a free function d here -/
def ahN (d : Int32 → Int32) (od : Int32) (p : Nat) : Nat → Nat → Int32 → Nt → Int32 × Nt
  | 0, _, s, N => (s, N)
  | r + 1, q, s, N => ahN d od p r (q + 1) (d s) (if od ≤ irm (iur (d s) 8) 10 then N else tieN N q p true)
theorem ahN_s (d : Int32 → Int32) (od : Int32) (p r q : Nat) (s : Int32) (N : Nt) : ahN d od p (r + 1) q s N = ahN d od p r (q + 1) (d s) (if od ≤ irm (iur (d s) 8) 10 then N else tieN N q p true) := rfl
theorem tieN_free {N : Nt} {p q : Nat} (hqp : q < p) (hb : ∀ j, q ≤ j → j < p → (n_j N p).testBit j = false) : ∀ j, q + 1 ≤ j → j < p → (n_j (tieN N q p true) p).testBit j = false := fun j h1 h2 => by
  rw [tieN_bit (by omega), if_neg (by omega)]; exact hb j (by omega) h2
def LotD (d : Int32 → Int32) : Prop := ∀ σ, f_Lot_draw σ = some (iur (d (gI σ 33 0)) 8, sI σ 33 0 (d (gI σ 33 0)))
def MoD (d : Int32 → Int32) : Prop := ∀ x σ, ¬ x = 0 → f_Mo_draw x σ = some (irm (iur (d (gI σ 48 32)) 8) x, sI σ 48 32 (d (gI σ 48 32)))
theorem ahN_ok (d : Int32 → Int32) (od : Int32) {p : Nat} : ∀ (r q : Nat) (s : Int32) (N : Nt), q + r = p → WfN N → p < n_n N → WfN (ahN d od p r q s N).2 ∧ n_n (ahN d od p r q s N).2 = n_n N := by
  intro r
  induction r with
  | zero => intro q s N hq wf hp; exact ⟨wf, rfl⟩
  | succ r ih =>
    intro q s N hq wf hp
    rw [ahN_s]
    by_cases ho : od ≤ irm (iur (d s) 8) 10
    · rw [if_pos ho]; exact ih (q + 1) (d s) N (by omega) wf hp
    · rw [if_neg ho]; exact ih (q + 1) (d s) (tieN N q p true) (by omega) (tieN_wf wf (by omega) hp (by omega)) hp
theorem lot_ahead {d : Int32 → Int32} (hd : LotD d) {od : Int32} {p o : Nat} (ho5 : o + 5 ≤ 33) : ∀ (r fu q : Nat) (σ : Sto) (s : Int32) (N : Nt), q + r = p → r < fu → gI σ 33 0 = s → NetAt σ o N → WfN N → p < n_n N → (∀ j, q ≤ j → j < p → (n_j N p).testBit j = false) →
    ∃ σ', L_Lot_tieAhead_3 fu o (nI p) od (nI q) σ = some ((), σ') ∧ gI σ' 33 0 = (ahN d od p r q s N).1 ∧ NetAt σ' o (ahN d od p r q s N).2 ∧ (∀ c j, (c < o ∨ o + 5 ≤ c) → ¬ (c = 33 ∧ j = 0) → gI σ' c j = gI σ c j ∧ gL σ' c j = gL σ c j) := by
  intro r
  induction r with
  | zero =>
    intro fu q σ s N hq hf hs h wf hp hb
    obtain ⟨fu, rfl⟩ : ∃ f, fu = f + 1 := ⟨fu - 1, by omega⟩
    refine ⟨σ, ?_, hs, h, fun _ _ _ _ => ⟨rfl, rfl⟩⟩
    have hn := wf.1
    show B_Lot_tieAhead_3 (L_Lot_tieAhead_3 fu) _ _ _ _ _ = _
    unfold B_Lot_tieAhead_3
    rw [if_pos (nI_le (by omega) (by omega))]
  | succ r ih =>
    intro fu q σ s N hq hf hs h wf hp hb
    obtain ⟨fu, rfl⟩ : ∃ f, fu = f + 1 := ⟨fu - 1, by omega⟩
    have hn := wf.1
    have hqp : q < p := by omega
    have h1 : NetAt (sI σ 33 0 (d s)) o N := h.scr (fun c j a b => g_sI_ne (by omega)) (fun j => rfl)
    have e0 : L_Lot_tieAhead_3 (fu + 1) o (nI p) od (nI q) σ = (if od ≤ irm (iur (d s) 8) 10 then (f_Net_tie o (nI q) (nI p) 0 (sI σ 33 0 (d s))).bind (fun q2 => L_Lot_tieAhead_3 fu o (nI p) od (nI (q + 1)) q2.2) else (f_Net_tie o (nI q) (nI p) 1 (sI σ 33 0 (d s))).bind (fun q2 => L_Lot_tieAhead_3 fu o (nI p) od (nI (q + 1)) q2.2)) := by
      show B_Lot_tieAhead_3 (L_Lot_tieAhead_3 fu) _ _ _ _ _ = _
      unfold B_Lot_tieAhead_3
      rw [if_neg (nI_ge hqp (by omega)), hd, hs, Option.bind_some, if_pos (show ¬ ((10 : Int32) = 0) by decide +kernel), nI_1]
    rw [ahN_s]
    by_cases ho : od ≤ irm (iur (d s) 8) 10
    · obtain ⟨σ1, e1, n1, f1⟩ := nt_tie h1 wf (a := q) (b := p) (on := false) (x := 0) (by simp) (by omega) hp (by omega)
      rw [tieN_no (by rw [← (wf.2 p hp).2.2.2.2 q (by omega)]; exact hb q (by omega) hqp) (hb q (by omega) hqp)] at n1
      have s1 : gI σ1 33 0 = d s := by rw [(f1.1 33 (by omega)).1, g_sI_eq]
      obtain ⟨σ', e, a1, a2, a5⟩ := ih fu (q + 1) σ1 (d s) N (by omega) (by omega) s1 n1 wf hp (fun j x y => hb j (by omega) y)
      rw [if_pos ho]
      refine ⟨σ', by rw [e0, if_pos ho, e1, Option.bind_some]; exact e, a1, a2, fun c j x y => ⟨by rw [(a5 c j x y).1, (f1.1 c (by omega)).1, g_sI_ne (by omega)], by rw [(a5 c j x y).2, (f1.1 c (by omega)).2]; rfl⟩⟩
    · obtain ⟨σ1, e1, n1, f1⟩ := nt_tie h1 wf (a := q) (b := p) (on := true) (x := 1) (by simp) (by omega) hp (by omega)
      have s1 : gI σ1 33 0 = d s := by rw [(f1.1 33 (by omega)).1, g_sI_eq]
      obtain ⟨σ', e, a1, a2, a5⟩ := ih fu (q + 1) σ1 (d s) (tieN N q p true) (by omega) (by omega) s1 n1 (tieN_wf wf (by omega) hp (by omega)) hp (tieN_free hqp hb)
      rw [if_neg ho]
      refine ⟨σ', by rw [e0, if_neg ho, e1, Option.bind_some]; exact e, a1, a2, fun c j x y => ⟨by rw [(a5 c j x y).1, (f1.1 c (by omega)).1, g_sI_ne (by omega)], by rw [(a5 c j x y).2, (f1.1 c (by omega)).2]; rfl⟩⟩
theorem mo_ahead {d : Int32 → Int32} (hd : MoD d) {od : Int32} {p : Nat} : ∀ (r fu q : Nat) (σ : Sto) (s : Int32) (N : Nt), q + r = p → r < fu → gI σ 48 32 = s → ModAt σ N → WfN N → p < n_n N →
    ∃ σ', L_Mo_joinsAhead_2 fu (nI p) od (nI q) σ = some ((), σ') ∧ gI σ' 48 32 = (ahN d od p r q s N).1 ∧ ModAt σ' (ahN d od p r q s N).2 ∧ (∀ c j, ¬ (c = 48 ∧ j = 32) → c ≠ 51 → gI σ' c j = gI σ c j ∧ gL σ' c j = gL σ c j) := by
  intro r
  induction r with
  | zero =>
    intro fu q σ s N hq hf hs h wf hp
    obtain ⟨fu, rfl⟩ : ∃ f, fu = f + 1 := ⟨fu - 1, by omega⟩
    refine ⟨σ, ?_, hs, h, fun _ _ _ _ => ⟨rfl, rfl⟩⟩
    have hn := wf.1
    show B_Mo_joinsAhead_2 (L_Mo_joinsAhead_2 fu) _ _ _ _ = _
    unfold B_Mo_joinsAhead_2
    rw [if_pos (nI_le (by omega) (by omega))]
  | succ r ih =>
    intro fu q σ s N hq hf hs h wf hp
    obtain ⟨fu, rfl⟩ : ∃ f, fu = f + 1 := ⟨fu - 1, by omega⟩
    have hn := wf.1
    have hqp : q < p := by omega
    have h1 : ModAt (sI σ 48 32 (d s)) N := ⟨by rw [g_sI_ne (by omega)]; exact h.1, fun x hx => by
      obtain ⟨x1, x2, x3⟩ := h.2 x hx
      exact ⟨by rw [g_sI_ne (by omega)]; exact x1, by rw [g_sI_ne (by omega)]; exact x2, x3⟩⟩
    have e0 : L_Mo_joinsAhead_2 (fu + 1) (nI p) od (nI q) σ = (if od ≤ irm (iur (d s) 8) 10 then L_Mo_joinsAhead_2 fu (nI p) od (nI (q + 1)) (sI σ 48 32 (d s)) else (f_Mo_puts (nI p) (nI q) 1 (sI σ 48 32 (d s))).bind (fun q2 => L_Mo_joinsAhead_2 fu (nI p) od (nI (q + 1)) q2.2)) := by
      show B_Mo_joinsAhead_2 (L_Mo_joinsAhead_2 fu) _ _ _ _ = _
      unfold B_Mo_joinsAhead_2
      rw [if_neg (nI_ge hqp (by omega)), hd 10 σ (by decide +kernel), hs, Option.bind_some, nI_1]
    rw [ahN_s]
    by_cases ho : od ≤ irm (iur (d s) 8) 10
    · obtain ⟨σ', e, a1, a2, a5⟩ := ih fu (q + 1) (sI σ 48 32 (d s)) (d s) N (by omega) (by omega) (g_sI_eq _ _ _ _) h1 wf hp
      rw [if_pos ho]
      refine ⟨σ', by rw [e0, if_pos ho]; exact e, a1, a2, fun c j x y => ⟨by rw [(a5 c j x y).1, g_sI_ne (by omega)], by rw [(a5 c j x y).2]; rfl⟩⟩
    · obtain ⟨σ1, e1, n1, f1⟩ := mo_puts h1 wf (a := p) (b := q) (on := true) (x := 1) (by simp) hp (by omega) (by omega)
      rw [tieN_sw N true (show p ≠ q by omega)] at n1
      have s1 : gI σ1 48 32 = d s := by rw [f1.1, g_sI_eq]
      obtain ⟨σ', e, a1, a2, a5⟩ := ih fu (q + 1) σ1 (d s) (tieN N q p true) (by omega) (by omega) s1 n1 (tieN_wf wf (by omega) hp (by omega)) hp
      rw [if_neg ho]
      refine ⟨σ', by rw [e0, if_neg ho, e1, Option.bind_some]; exact e, a1, a2, fun c j x y => ⟨by rw [(a5 c j x y).1, f1.1, g_sI_ne (by omega)], by rw [(a5 c j x y).2, f1.2.1 c y]; rfl⟩⟩
/-- a point comes, and is tied ahead -/
def cmN (d : Int32 → Int32) (od : Int32) (k f : Nat) (s : Int32) (N : Nt) : Int32 × Nt := ahN d od (n_n N) (n_n N) 0 s (addN N k f)
theorem cmN_ok (d : Int32 → Int32) (od : Int32) {k f : Nat} (s : Int32) {N : Nt} (wf : WfN N) (hn : n_n N < 40) (hk : k < 6) (hf : f < 100) : WfN (cmN d od k f s N).2 ∧ n_n (cmN d od k f s N).2 = n_n N + 1 :=
  ahN_ok d od (p := n_n N) (n_n N) 0 s (addN N k f) (by omega) (addN_wf wf hn hk hf) (show n_n N < n_n N + 1 by omega)
theorem lot_comes {d : Int32 → Int32} (hd : LotD d) {od : Int32} {o : Nat} (ho5 : o + 5 ≤ 33) {σ : Sto} {s : Int32} {N : Nt} {k f : Nat} (hs : gI σ 33 0 = s) (h : NetAt σ o N) (wf : WfN N) (hn : n_n N < 40) (hk : k < 6) (hf : f < 100) :
    ∃ σ1 σ', f_Net_add o (nI k) (nI f) σ = some (nI (n_n N), σ1) ∧ f_Lot_tieAhead o (nI (n_n N)) od σ1 = some ((), σ') ∧ gI σ' 33 0 = (cmN d od k f s N).1 ∧ NetAt σ' o (cmN d od k f s N).2 ∧ (∀ c j, (c < o ∨ o + 5 ≤ c) → ¬ (c = 33 ∧ j = 0) → gI σ' c j = gI σ c j ∧ gL σ' c j = gL σ c j) := by
  obtain ⟨σ1, e1, n1, f1⟩ := nt_add h wf hn hk hf
  obtain ⟨σ', e, a1, a2, a5⟩ := lot_ahead hd (od := od) (p := n_n N) ho5 (n_n N) LF 0 σ1 s (addN N k f) (by omega) (by rw [LF_big]; omega) (by rw [(f1.1 33 (by omega)).1]; exact hs) n1 (addN_wf wf hn hk hf) (show n_n N < n_n N + 1 by omega) (fun j _ hj => by
    show (if n_n N = n_n N then 0 else n_j N (n_n N)).testBit j = false
    rw [if_pos rfl, Nat.zero_testBit])
  exact ⟨σ1, σ', e1, e, a1, a2, fun c j x y => ⟨by rw [(a5 c j x y).1, (f1.1 c x).1], by rw [(a5 c j x y).2, (f1.1 c x).2]⟩⟩
theorem mo_comesA {d : Int32 → Int32} (hd : MoD d) {od : Int32} {σ : Sto} {s : Int32} {N : Nt} {k f : Nat} (hs : gI σ 48 32 = s) (h : ModAt σ N) (wf : WfN N) (hn : n_n N < 40) (hk : k < 6) (hf : f < 100) :
    ∃ σ1 σ', f_Mo_comes (nI k) (nI f) σ = some (nI (n_n N), σ1) ∧ f_Mo_joinsAhead (nI (n_n N)) od σ1 = some ((), σ') ∧ gI σ' 48 32 = (cmN d od k f s N).1 ∧ ModAt σ' (cmN d od k f s N).2 ∧ (∀ c j, ¬ (c = 48 ∧ j = 32) → ¬ (c = 48 ∧ j = 0) → c ≠ 49 → c ≠ 50 → c ≠ 51 → gI σ' c j = gI σ c j ∧ gL σ' c j = gL σ c j) := by
  obtain ⟨σ1, e1, n1, f1⟩ := mo_comes h wf (k := k) (f := f) hn
  obtain ⟨σ', e, a1, a2, a5⟩ := mo_ahead hd (od := od) (p := n_n N) (n_n N) LF 0 σ1 s (addN N k f) (by omega) (by rw [LF_big]; omega) (by rw [(f1 48 32 (by omega) (by omega) (by omega) (by omega)).1]; exact hs) n1 (addN_wf wf hn hk hf) (show n_n N < n_n N + 1 by omega)
  exact ⟨σ1, σ', e1, e, a1, a2, fun c j x0 x y z w => ⟨by rw [(a5 c j x0 w).1, (f1 c j x y z w).1], by rw [(a5 c j x0 w).2, (f1 c j x y z w).2]⟩⟩
/-- points dealt -/
def dlN (d : Int32 → Int32) (od : Int32) : Nat → Int32 → Nt → Int32 × Nt
  | 0, s, N => (s, N)
  | r + 1, s, N => dlN d od r (cmN d od (irm (iur (d s) 8) 6).toInt.toNat (irm (iur (d (d s)) 8) 100).toInt.toNat (d (d s)) N).1 (cmN d od (irm (iur (d s) 8) 6).toInt.toNat (irm (iur (d (d s)) 8) 100).toInt.toNat (d (d s)) N).2
theorem dlN_s (d : Int32 → Int32) (od : Int32) (r : Nat) (s : Int32) (N : Nt) : dlN d od (r + 1) s N = dlN d od r (cmN d od (irm (iur (d s) 8) 6).toInt.toNat (irm (iur (d (d s)) 8) 100).toInt.toNat (d (d s)) N).1 (cmN d od (irm (iur (d s) 8) 6).toInt.toNat (irm (iur (d (d s)) 8) 100).toInt.toNat (d (d s)) N).2 := rfl
theorem drw6 (x : Int32) : (irm (iur x 8) 6).toInt.toNat < 6 ∧ irm (iur x 8) 6 = nI (irm (iur x 8) 6).toInt.toNat := by
  obtain ⟨v, hv, e⟩ := draw_N x (m := 6) (by decide) (by decide)
  rw [show irm (iur x 8) 6 = nI v from e, nI_toInt (by omega)]
  exact ⟨by omega, rfl⟩
theorem drw100 (x : Int32) : (irm (iur x 8) 100).toInt.toNat < 100 ∧ irm (iur x 8) 100 = nI (irm (iur x 8) 100).toInt.toNat := by
  obtain ⟨v, hv, e⟩ := draw_N x (m := 100) (by decide) (by decide)
  rw [show irm (iur x 8) 100 = nI v from e, nI_toInt (by omega)]
  exact ⟨by omega, rfl⟩
theorem dlN_ok (d : Int32 → Int32) (od : Int32) : ∀ (r : Nat) (s : Int32) (N : Nt), WfN N → n_n N + r ≤ 40 → WfN (dlN d od r s N).2 ∧ n_n (dlN d od r s N).2 = n_n N + r := by
  intro r
  induction r with
  | zero => intro s N wf hn; exact ⟨wf, rfl⟩
  | succ r ih =>
    intro s N wf hn
    rw [dlN_s]
    obtain ⟨c1, c2⟩ := cmN_ok d od (d (d s)) wf (show n_n N < 40 by omega) (drw6 (d s)).1 (drw100 (d (d s))).1
    obtain ⟨i1, i2⟩ := ih (cmN d od (irm (iur (d s) 8) 6).toInt.toNat (irm (iur (d (d s)) 8) 100).toInt.toNat (d (d s)) N).1 _ c1 (by omega)
    exact ⟨i1, by rw [i2, c2]; omega⟩
theorem fr_deal_loop {d : Int32 → Int32} (hd : LotD d) {od : Int32} {m : Nat} (hm : m ≤ 40) : ∀ (r fu i : Nat) (σ : Sto) (s : Int32) (N : Nt), i + r = m → r < fu → gI σ 33 0 = s → NetAt σ 1 N → WfN N → n_n N + r ≤ 40 →
    ∃ σ', L_FR_deal_49 fu (nI m) od (nI i) σ = some (nI (n_n N + r), σ') ∧ NetAt σ' 1 (dlN d od r s N).2 ∧ (∀ c j, (c < 1 ∨ 6 ≤ c) → ¬ (c = 33 ∧ j = 0) → gI σ' c j = gI σ c j ∧ gL σ' c j = gL σ c j) := by
  intro r
  induction r with
  | zero =>
    intro fu i σ s N hi hf hs h wf hn
    obtain ⟨fu, rfl⟩ : ∃ f, fu = f + 1 := ⟨fu - 1, by omega⟩
    refine ⟨σ, ?_, h, fun _ _ _ _ => ⟨rfl, rfl⟩⟩
    show B_FR_deal_49 (L_FR_deal_49 fu) _ _ _ _ = _
    unfold B_FR_deal_49
    rw [if_pos (nI_le (by omega) (by omega)), h.1]; rfl
  | succ r ih =>
    intro fu i σ s N hi hf hs h wf hn
    obtain ⟨fu, rfl⟩ : ∃ f, fu = f + 1 := ⟨fu - 1, by omega⟩
    rw [dlN_s]
    have h2 : NetAt (sI (sI σ 33 0 (d s)) 33 0 (d (d s))) 1 N := h.scr (fun c j a b => by rw [g_sI_ne (by omega), g_sI_ne (by omega)]) (fun j => rfl)
    obtain ⟨σ1, σ2, e1, e2, a1, a2, a3⟩ := lot_comes hd (od := od) (o := 1) (by omega) (s := d (d s)) (g_sI_eq _ _ _ _) h2 wf (by omega) (drw6 (d s)).1 (drw100 (d (d s))).1
    obtain ⟨c1, c2⟩ := cmN_ok d od (d (d s)) wf (show n_n N < 40 by omega) (drw6 (d s)).1 (drw100 (d (d s))).1
    obtain ⟨σ', e, b1, b2⟩ := ih fu (i + 1) σ2 _ _ (by omega) (by omega) a1 a2 c1 (by omega)
    refine ⟨σ', ?_, b1, fun c j x y => ⟨by rw [(b2 c j x y).1, (a3 c j x y).1, g_sI_ne (by omega), g_sI_ne (by omega)], by rw [(b2 c j x y).2, (a3 c j x y).2]; rfl⟩⟩
    show B_FR_deal_49 (L_FR_deal_49 fu) _ _ _ _ = _
    unfold B_FR_deal_49
    rw [if_neg (nI_ge (by omega) (by omega)), hd, Option.bind_some, if_pos (show ¬ ((6 : Int32) = 0) by decide +kernel), hd, Option.bind_some, if_pos (show ¬ ((100 : Int32) = 0) by decide +kernel), lt1_eq]
    simp only [hs, g_sI_eq]
    rw [(drw6 (d s)).2, (drw100 (d (d s))).2, e1, Option.bind_some]
    simp only []
    rw [e2, Option.bind_some, nI_1, e, c2, show n_n N + 1 + r = n_n N + (r + 1) by omega]
theorem mo_deal_loop {d : Int32 → Int32} (hd : MoD d) {od : Int32} {m : Nat} (hm : m ≤ 40) : ∀ (r fu i : Nat) (σ : Sto) (s : Int32) (N : Nt), i + r = m → r < fu → gI σ 48 32 = s → ModAt σ N → WfN N → n_n N + r ≤ 40 →
    ∃ σ', L_Mo_deal_49 fu (nI m) od (nI i) σ = some (nI (n_n N + r), σ') ∧ ModAt σ' (dlN d od r s N).2 ∧ (∀ c j, ¬ (c = 48 ∧ j = 32) → ¬ (c = 48 ∧ j = 0) → c ≠ 49 → c ≠ 50 → c ≠ 51 → gI σ' c j = gI σ c j ∧ gL σ' c j = gL σ c j) := by
  intro r
  induction r with
  | zero =>
    intro fu i σ s N hi hf hs h wf hn
    obtain ⟨fu, rfl⟩ : ∃ f, fu = f + 1 := ⟨fu - 1, by omega⟩
    refine ⟨σ, ?_, h, fun _ _ _ _ _ _ _ => ⟨rfl, rfl⟩⟩
    show B_Mo_deal_49 (L_Mo_deal_49 fu) _ _ _ _ = _
    unfold B_Mo_deal_49
    rw [if_pos (nI_le (by omega) (by omega)), h.1]; rfl
  | succ r ih =>
    intro fu i σ s N hi hf hs h wf hn
    obtain ⟨fu, rfl⟩ : ∃ f, fu = f + 1 := ⟨fu - 1, by omega⟩
    rw [dlN_s]
    have h2 : ModAt (sI (sI σ 48 32 (d s)) 48 32 (d (d s))) N := ⟨by rw [g_sI_ne (by omega), g_sI_ne (by omega)]; exact h.1, fun x hx => by
      obtain ⟨x1, x2, x3⟩ := h.2 x hx
      exact ⟨by rw [g_sI_ne (by omega), g_sI_ne (by omega)]; exact x1, by rw [g_sI_ne (by omega), g_sI_ne (by omega)]; exact x2, x3⟩⟩
    obtain ⟨σ1, σ2, e1, e2, a1, a2, a3⟩ := mo_comesA hd (od := od) (s := d (d s)) (g_sI_eq _ _ _ _) h2 wf (by omega) (drw6 (d s)).1 (drw100 (d (d s))).1
    obtain ⟨c1, c2⟩ := cmN_ok d od (d (d s)) wf (show n_n N < 40 by omega) (drw6 (d s)).1 (drw100 (d (d s))).1
    obtain ⟨σ', e, b1, b2⟩ := ih fu (i + 1) σ2 _ _ (by omega) (by omega) a1 a2 c1 (by omega)
    refine ⟨σ', ?_, b1, fun c j x0 x y z w => ⟨by rw [(b2 c j x0 x y z w).1, (a3 c j x0 x y z w).1, g_sI_ne (by omega), g_sI_ne (by omega)], by rw [(b2 c j x0 x y z w).2, (a3 c j x0 x y z w).2]; rfl⟩⟩
    show B_Mo_deal_49 (L_Mo_deal_49 fu) _ _ _ _ = _
    unfold B_Mo_deal_49
    rw [if_neg (nI_ge (by omega) (by omega)), hd 6 σ (by decide +kernel), Option.bind_some]
    simp only [hs]
    rw [hd 100 _ (by decide +kernel), Option.bind_some]
    simp only [g_sI_eq]
    rw [(drw6 (d s)).2, (drw100 (d (d s))).2, e1, Option.bind_some]
    simp only []
    rw [e2, Option.bind_some, nI_1, e, c2, show n_n N + 1 + r = n_n N + (r + 1) by omega]
def drw (s : Int32) : Int32 := s * 1103515245 + 12345
theorem lot_draw : LotD drw := fun σ => by
  unfold f_Lot_draw B_Lot_draw_0
  rw [lt1_eq, g_sI_eq]; rfl
theorem mo_draw : MoD drw := fun x σ hx => by
  unfold f_Mo_draw B_Mo_draw_0
  rw [lt1_eq, if_pos hx, g_sI_eq]; rfl
theorem lot_any : ∃ d, LotD d ∧ MoD d := ⟨drw, lot_draw, mo_draw⟩
theorem fr_isOdds (x : Int32) (σ : Sto) : f_FR_isOdds x σ = some (ptB x 11, σ) := by
  unfold f_FR_isOdds B_FR_isOdds_0
  have e0 : x < 0 ↔ x.toInt < 0 := by rw [Int32.lt_iff_toInt_lt, Int32.toInt_zero]
  have e1 : (10 : Int32) < x ↔ (10 : Int) < x.toInt := by rw [Int32.lt_iff_toInt_lt, show (10 : Int32).toInt = 10 by decide +kernel]
  simp only [e0, e1, ptB]
  by_cases h1 : x.toInt < 0
  · simp [h1, show ¬ (0 ≤ x.toInt) by omega]
  · by_cases h2 : (10 : Int) < x.toInt
    · simp [h1, h2, show ¬ (x.toInt < (11 : Int)) by omega]
    · simp [h1, h2, show (0 ≤ x.toInt) by omega, show (x.toInt < (11 : Int)) by omega]
theorem MSt.netU2 {σ σ' : Sto} {A : Ast} {N' : Nt} (h : MSt σ A) (hN : ModAt σ' N') (hf : ∀ c j, ¬ (c = 48 ∧ j = 32) → ¬ (c = 48 ∧ j = 0) → c ≠ 49 → c ≠ 50 → c ≠ 51 → gI σ' c j = gI σ c j ∧ gL σ' c j = gL σ c j) : MSt σ' (N', A.2) := by
  obtain ⟨h1, h2, ⟨h3, h3b⟩, ⟨h4, h4b⟩, h5, h6⟩ := h
  have e : ∀ c j, ¬ (c = 48 ∧ j = 32) → ¬ (c = 48 ∧ j = 0) → c ≠ 49 → c ≠ 50 → c ≠ 51 → gI σ' c j = gI σ c j := fun c j a b d f g => (hf c j a b d f g).1
  have eL : ∀ c j, ¬ (c = 48 ∧ j = 32) → ¬ (c = 48 ∧ j = 0) → c ≠ 49 → c ≠ 50 → c ≠ 51 → gL σ' c j = gL σ c j := fun c j a b d f g => (hf c j a b d f g).2
  refine ⟨hN, ?_, ⟨?_, ?_⟩, ⟨?_, ?_⟩, ?_, ?_⟩
  · show (match s_K A with | none => gI σ' 48 4 = 0 | some N => gI σ' 48 4 = 1 ∧ gI σ' 48 5 = nI (n_n N) ∧ ∀ p, p < n_n N → gI σ' 52 p = nI (n_k N p) ∧ gI σ' 53 p = nI (n_f N p) ∧ gL σ' 54 p = lN (n_j N p))
    cases hK : s_K A with
    | none => rw [hK] at h2; exact (e 48 4 (by omega) (by omega) (by omega) (by omega) (by omega)).trans h2
    | some N =>
      rw [hK] at h2
      refine ⟨(e 48 4 (by omega) (by omega) (by omega) (by omega) (by omega)).trans h2.1, (e 48 5 (by omega) (by omega) (by omega) (by omega) (by omega)).trans h2.2.1, fun p hp => ?_⟩
      obtain ⟨a1, a2, a3⟩ := h2.2.2 p hp
      exact ⟨by rw [e 52 p (by omega) (by omega) (by omega) (by omega) (by omega)]; exact a1, by rw [e 53 p (by omega) (by omega) (by omega) (by omega) (by omega)]; exact a2, by rw [eL 54 p (by omega) (by omega) (by omega) (by omega) (by omega)]; exact a3⟩
  · rw [e 48 19 (by omega) (by omega) (by omega) (by omega) (by omega)]; exact h3
  · intro i hi; rw [e 60 i (by omega) (by omega) (by omega) (by omega) (by omega)]; exact h3b i hi
  · rw [e 48 24 (by omega) (by omega) (by omega) (by omega) (by omega)]; exact h4
  · intro i hi; rw [e 62 i (by omega) (by omega) (by omega) (by omega) (by omega)]; exact h4b i hi
  · intro q hq
    obtain ⟨a1, a2, a3⟩ := h5 q hq
    exact ⟨by rw [e 69 q (by omega) (by omega) (by omega) (by omega) (by omega)]; exact a1, by rw [e 70 q (by omega) (by omega) (by omega) (by omega) (by omega)]; exact a2, fun i hi => by rw [e 71 _ (by omega) (by omega) (by omega) (by omega) (by omega)]; exact a3 i hi⟩
  · intro q hq
    obtain ⟨a1, a2, a3⟩ := h6 q hq
    exact ⟨by rw [e 66 q (by omega) (by omega) (by omega) (by omega) (by omega)]; exact a1, fun z => ⟨by rw [e 68 q (by omega) (by omega) (by omega) (by omega) (by omega)]; exact (a2 z).1, by rw [eL 67 q (by omega) (by omega) (by omega) (by omega) (by omega)]; exact (a2 z).2⟩, fun z => by rw [eL 67 q (by omega) (by omega) (by omega) (by omega) (by omega)]; exact a3 z⟩
theorem CSt.netU2 {σ σ' : Sto} {A : Ast} {N' : Nt} (h : CSt σ A) (hN : NetAt σ' 1 N') (hf : ∀ c j, (c < 1 ∨ 6 ≤ c) → ¬ (c = 33 ∧ j = 0) → gI σ' c j = gI σ c j ∧ gL σ' c j = gL σ c j) : CSt σ' (N', A.2) := by
  obtain ⟨h1, h2, ⟨h3, h3b⟩, ⟨h4, h4b⟩, h5, h6⟩ := h
  have e : ∀ c j, (c < 1 ∨ 6 ≤ c) → ¬ (c = 33 ∧ j = 0) → gI σ' c j = gI σ c j := fun c j hc hd => (hf c j hc hd).1
  have eL : ∀ c j, (c < 1 ∨ 6 ≤ c) → ¬ (c = 33 ∧ j = 0) → gL σ' c j = gL σ c j := fun c j hc hd => (hf c j hc hd).2
  refine ⟨hN, ?_, ⟨?_, ?_⟩, ⟨?_, ?_⟩, ?_, ?_⟩
  · show (match s_K A with | none => gI σ' 0 3 = 0 | some N => gI σ' 0 3 = 1 ∧ NetAt σ' 6 N)
    cases hK : s_K A with
    | none => rw [hK] at h2; exact (e 0 3 (by omega) (by omega)).trans h2
    | some N => rw [hK] at h2; exact ⟨(e 0 3 (by omega) (by omega)).trans h2.1, h2.2.scr (fun c j a b => e c j (by omega) (by omega)) (fun j => eL 9 j (by omega) (by omega))⟩
  · rw [e _ _ (by omega) (by omega)]; exact h3
  · intro i hi; rw [e _ _ (by omega) (by omega)]; exact h3b i hi
  · rw [e _ _ (by omega) (by omega)]; exact h4
  · intro i hi; rw [e _ _ (by omega) (by omega)]; exact h4b i hi
  · intro q hq
    obtain ⟨a1, a2, a3⟩ := h5 q hq
    exact ⟨by rw [e _ _ (by omega) (by omega)]; exact a1, by rw [e _ _ (by omega) (by omega)]; exact a2, fun i hi => by rw [e _ _ (by omega) (by omega)]; exact a3 i hi⟩
  · intro q hq
    obtain ⟨a1, a2, a3⟩ := h6 q hq
    exact ⟨by rw [e _ _ (by omega) (by omega)]; exact a1, fun z => ⟨by rw [e _ _ (by omega) (by omega)]; exact (a2 z).1, by rw [e _ _ (by omega) (by omega)]; exact (a2 z).2⟩, fun z => by rw [eL _ _ (by omega) (by omega)]; exact a3 z⟩
theorem op_deal (a0 : Int32) (b1 : Int32) (c2 : Int32) : Op (f_FR_deal a0 b1 c2) (f_Mo_deal a0 b1 c2) := by
  obtain ⟨d, hd, hdm⟩ := lot_any
  have l1 : b1 < 1 ↔ b1.toInt < 1 := by rw [Int32.lt_iff_toInt_lt, show (1 : Int32).toInt = 1 by decide +kernel]
  have l2 : (40 : Int32) < b1 ↔ 40 < b1.toInt := by rw [Int32.lt_iff_toInt_lt, show (40 : Int32).toInt = 40 by decide +kernel]
  have mi : ∀ σ, f_Mo_in (Int32.toInt64 b1) 1 40 σ = some (decide (1 ≤ b1.toInt) && decide (b1.toInt ≤ 40), σ) := fun σ => by
    rw [mo_inI, show (1 : Int64).toInt = 1 by decide +kernel, show (40 : Int64).toInt = 40 by decide +kernel]
  by_cases g1 : 1 ≤ b1.toInt ∧ b1.toInt ≤ 40
  rotate_left
  · refine Op.ask (fun _ => -2) (fun σ A wf h => ⟨σ, ?_, Scr.rf⟩) (fun σ A wf h => ⟨σ, ?_, Scr.rf⟩)
    · unfold f_FR_deal B_FR_deal_0
      simp only [l1, l2]
      by_cases g2 : b1.toInt < 1
      · rw [if_pos g2]
      · rw [if_neg g2, if_pos (by omega)]
    · unfold f_Mo_deal B_Mo_deal_0
      simp only [mi, Option.bind_some]
      rw [show (decide (1 ≤ b1.toInt) && decide (b1.toInt ≤ 40)) = false by simp; omega, ite_bf]
  cases h3 : ptB c2 11
  · refine Op.ask (fun _ => -2) (fun σ A wf h => ⟨σ, ?_, Scr.rf⟩) (fun σ A wf h => ⟨σ, ?_, Scr.rf⟩)
    · unfold f_FR_deal B_FR_deal_0
      simp only [l1, l2, fr_isOdds, h3, Option.bind_some, ite_bf]
      rw [if_neg (by omega), if_neg (by omega)]
    · unfold f_Mo_deal B_Mo_deal_0
      simp only [mi, Option.bind_some, mo_rng (m := 10) (k := 10) (by decide +kernel), h3, ite_bf]
      rw [show (decide (1 ≤ b1.toInt) && decide (b1.toInt ≤ 40)) = true by simp; omega, ite_bt]
  obtain ⟨m, hm, rfl⟩ : ∃ k, (1 ≤ k ∧ k ≤ 40) ∧ b1 = nI k := ⟨b1.toInt.toNat, by omega, Int32.toInt_inj.mp (by rw [nI_toInt (by omega)]; omega)⟩
  have c40 : ∀ {t : Nat}, t ≤ 40 → ((nI t + nI m ≤ 40) ↔ t + m ≤ 40) := fun {t} ht => by
    rw [nI_add, Int32.le_iff_toInt_le, nI_toInt (by omega), show (40 : Int32).toInt = 40 by decide +kernel]; omega
  refine Op.mk (fun A => if n_n (s_N A) + m ≤ 40 then nI (n_n (s_N A) + m) else -4) (fun A => if n_n (s_N A) + m ≤ 40 then ((dlN d c2 m a0 (s_N A)).2, A.2) else A) (fun σ A wf h => ?_) (fun σ A wf h => ?_)
  · have hN := h.net
    have hn := wf.1.1
    unfold f_FR_deal B_FR_deal_0
    simp only [l1, l2, fr_isOdds, h3, Option.bind_some, ite_bt, if_neg (show ¬ ((nI m).toInt < 1) by omega), if_neg (show ¬ (40 < (nI m).toInt) by omega), hN.1, c40 hn]
    by_cases g2 : n_n (s_N A) + m ≤ 40
    · simp only [if_pos g2]
      obtain ⟨σ', e, f1, f2⟩ := fr_deal_loop hd (od := c2) hm.2 m LF 0 (sI σ 33 0 a0) a0 (s_N A) (by omega) (by rw [LF_big]; omega) (g_sI_eq _ _ _ _) (hN.scr (fun c j a b => g_sI_ne (by omega)) (fun j => rfl)) wf.1 g2
      have f2' : ∀ c j, (c < 1 ∨ 6 ≤ c) → ¬ (c = 33 ∧ j = 0) → gI σ' c j = gI σ c j ∧ gL σ' c j = gL σ c j := fun c j x y => ⟨by rw [(f2 c j x y).1, g_sI_ne y], by rw [(f2 c j x y).2]; rfl⟩
      exact ⟨σ', e, wf.netU (dlN_ok d c2 m a0 _ wf.1 g2).1, h.netU2 f1 f2', fun c j hc => f2' c j (by omega) (by omega)⟩
    · simp only [if_neg g2]
      exact ⟨σ, rfl, wf, h, fun _ _ _ => ⟨rfl, rfl⟩⟩
  · have hN := h.net
    have hn := wf.1.1
    unfold f_Mo_deal B_Mo_deal_0
    simp only [mi, Option.bind_some, mo_rng (m := 10) (k := 10) (by decide +kernel), h3]
    rw [show (decide (1 ≤ (nI m).toInt) && decide ((nI m).toInt ≤ 40)) = true by simp; omega, ite_bt, ite_bt]
    simp only [hN.1, c40 hn]
    by_cases g2 : n_n (s_N A) + m ≤ 40
    · simp only [if_pos g2]
      obtain ⟨σ', e, f1, f2⟩ := mo_deal_loop hdm (od := c2) hm.2 m LF 0 (sI σ 48 32 a0) a0 (s_N A) (by omega) (by rw [LF_big]; omega) (g_sI_eq _ _ _ _) ⟨by rw [g_sI_ne (by omega)]; exact hN.1, fun x hx => by
        obtain ⟨x1, x2, x3⟩ := hN.2 x hx
        exact ⟨by rw [g_sI_ne (by omega)]; exact x1, by rw [g_sI_ne (by omega)]; exact x2, x3⟩⟩ wf.1 g2
      have f2' : ∀ c j, ¬ (c = 48 ∧ j = 32) → ¬ (c = 48 ∧ j = 0) → c ≠ 49 → c ≠ 50 → c ≠ 51 → gI σ' c j = gI σ c j ∧ gL σ' c j = gL σ c j := fun c j x0 x y z w => ⟨by rw [(f2 c j x0 x y z w).1, g_sI_ne x0], by rw [(f2 c j x0 x y z w).2]; rfl⟩
      exact ⟨σ', e, h.netU2 f1 f2', fun c j hc => f2' c j (by omega) (by omega) (by omega) (by omega) (by omega)⟩
    · simp only [if_neg g2]
      exact ⟨σ, rfl, h, fun _ _ _ => ⟨rfl, rfl⟩⟩
