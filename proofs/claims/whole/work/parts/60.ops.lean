/-! copy -/
theorem gI_cpI' (σ : Sto) (a sp b dp n c j : Nat) : gI (cpI σ a sp b dp n) c j = if c = b ∧ dp ≤ j ∧ j < dp + n then gI σ a (sp + (j - dp)) else gI σ c j := by
  show (if c = b then va_cpy (σ.1 a) (σ.1 b) sp dp n else σ.1 c) j = _
  by_cases h : c = b
  · rw [if_pos h]
    show (if dp ≤ j ∧ j < dp + n then σ.1 a (sp + (j - dp)) else σ.1 b j) = _
    by_cases h2 : dp ≤ j ∧ j < dp + n
    · rw [if_pos h2, if_pos ⟨h, h2⟩]; rfl
    · rw [if_neg h2, if_neg (fun z => h2 z.2), h]; rfl
  · rw [if_neg h, if_neg (fun z => h z.1)]; rfl
def cpS (s t : Int32 × Nat × (Nat → Int32)) (x y k : Nat) : Int32 × Nat × (Nat → Int32) := (t.1, t.2.1, fun j => if y ≤ j ∧ j < y + k then s.2.2 (x + (j - y)) else t.2.2 j)
theorem roomB_of {x y : Int32} {m : Nat} (h : roomB x y m = true) (hm : m ≤ 60) : ∃ a b, a + b ≤ m ∧ x = nI a ∧ y = nI b := by
  unfold roomB at h
  simp only [Bool.and_eq_true, decide_eq_true_eq] at h
  exact ⟨x.toInt.toNat, y.toInt.toNat, by omega, Int32.toInt_inj.mp (by rw [nI_toInt (by omega)]; omega), Int32.toInt_inj.mp (by rw [nI_toInt (by omega)]; omega)⟩
/-- the model's moves, from the end or from the front, read nothing that they wrote -/
theorem mo_copy_loop {σ0 : Sto} {q1 q3 x y k : Nat} (h1 : q1 < 4) (h3 : q3 < 4) (hx : x + k ≤ 60) (hy : y + k ≤ 60) : ∀ (r fu i : Nat) (σ : Sto), i + r = k → r < fu →
    (∀ c j, c ≠ 71 → gI σ c j = gI σ0 c j) → (∀ c j, gL σ c j = gL σ0 c j) → (∀ j, gI σ 71 j = if (if x ≤ y then 60 * q3 + y + (k - i) ≤ j ∧ j < 60 * q3 + y + k else 60 * q3 + y ≤ j ∧ j < 60 * q3 + y + i) then gI σ0 71 (60 * q1 + x + (j - (60 * q3 + y))) else gI σ0 71 j) →
    ∃ σ', L_Mo_copy_103 fu (nI q1) (nI x) (nI q3) (nI y) (nI k) (nI i) σ = some (nI k, σ') ∧ (∀ c j, c ≠ 71 → gI σ' c j = gI σ0 c j) ∧ (∀ c j, gL σ' c j = gL σ0 c j) ∧ (∀ j, gI σ' 71 j = if 60 * q3 + y ≤ j ∧ j < 60 * q3 + y + k then gI σ0 71 (60 * q1 + x + (j - (60 * q3 + y))) else gI σ0 71 j) := by
  intro r
  induction r with
  | zero =>
    intro fu i σ hi hf f1 f2 f3
    obtain ⟨fu, rfl⟩ : ∃ f, fu = f + 1 := ⟨fu - 1, by omega⟩
    refine ⟨σ, ?_, f1, f2, fun j => ?_⟩
    · show B_Mo_copy_103 (L_Mo_copy_103 fu) _ _ _ _ _ _ _ = _
      unfold B_Mo_copy_103
      rw [if_pos (nI_le (by omega) (by omega))]
    · rw [f3 j]
      have hik : i = k := by omega
      subst hik
      by_cases hxy : x ≤ y
      · simp only [if_pos hxy, Nat.sub_self, Nat.add_zero]
      · simp only [if_neg hxy]
  | succ r ih =>
    intro fu i σ hi hf f1 f2 f3
    obtain ⟨fu, rfl⟩ : ∃ f, fu = f + 1 := ⟨fu - 1, by omega⟩
    by_cases hxy : x ≤ y
    · have hsrc : gI σ 71 (60 * q1 + x + (k - 1 - i)) = gI σ0 71 (60 * q1 + x + (k - 1 - i)) := by
        rw [f3, if_neg]
        rw [if_pos hxy]
        omega
      obtain ⟨σ', e, g1, g2, g3⟩ := ih fu (i + 1) (sI σ 71 (60 * q3 + y + (k - 1 - i)) (gI σ 71 (60 * q1 + x + (k - 1 - i)))) (by omega) (by omega) (fun c j hc => by rw [g_sI_ne (by omega)]; exact f1 c j hc) (fun c j => f2 c j) (fun j => by
        by_cases ej : j = 60 * q3 + y + (k - 1 - i)
        · rw [ej, g_sI_eq, hsrc, if_pos (by rw [if_pos hxy]; omega)]
          congr 1; omega
        · rw [g_sI_ne (by omega), f3 j]
          simp only [if_pos hxy]
          by_cases c1 : 60 * q3 + y + (k - i) ≤ j ∧ j < 60 * q3 + y + k
          · rw [if_pos c1, if_pos (by omega)]
          · rw [if_neg c1, if_neg (by omega)])
      refine ⟨σ', ?_, g1, g2, g3⟩
      show B_Mo_copy_103 (L_Mo_copy_103 fu) _ _ _ _ _ _ _ = _
      unfold B_Mo_copy_103
      have hs : (nI k - 1) - nI i = nI (k - 1 - i) := by
        obtain ⟨k', rfl⟩ : ∃ k', k = k' + 1 := ⟨k - 1, by omega⟩
        rw [show nI (k' + 1) - (1 : Int32) = nI k' from nI_pred k', nI_sub (by omega)]
        rfl
      rw [if_neg (nI_ge (by omega) (by omega)), if_pos (nI_le hxy (by omega))]
      simp only [lt1_eq, hs, mo_place h1 (show x < 60 by omega), mo_place h3 (show y < 60 by omega), nI_add, inb_ok (show 60 * q1 + x + (k - 1 - i) < 240 by omega) (show 240 < 2 ^ 31 by decide), inb_ok (show 60 * q3 + y + (k - 1 - i) < 240 by omega) (show 240 < 2 ^ 31 by decide), if_true, nI_clamp (show 60 * q1 + x + (k - 1 - i) < 2 ^ 31 by omega), nI_clamp (show 60 * q3 + y + (k - 1 - i) < 2 ^ 31 by omega), nI_1]
      exact e
    · have hsrc : gI σ 71 (60 * q1 + x + i) = gI σ0 71 (60 * q1 + x + i) := by
        rw [f3, if_neg]
        rw [if_neg hxy]
        omega
      obtain ⟨σ', e, g1, g2, g3⟩ := ih fu (i + 1) (sI σ 71 (60 * q3 + y + i) (gI σ 71 (60 * q1 + x + i))) (by omega) (by omega) (fun c j hc => by rw [g_sI_ne (by omega)]; exact f1 c j hc) (fun c j => f2 c j) (fun j => by
        by_cases ej : j = 60 * q3 + y + i
        · rw [ej, g_sI_eq, hsrc, if_pos (by rw [if_neg hxy]; omega)]
          congr 1; omega
        · rw [g_sI_ne (by omega), f3 j]
          simp only [if_neg hxy]
          by_cases c1 : 60 * q3 + y ≤ j ∧ j < 60 * q3 + y + i
          · rw [if_pos c1, if_pos (by omega)]
          · rw [if_neg c1, if_neg (by omega)])
      refine ⟨σ', ?_, g1, g2, g3⟩
      show B_Mo_copy_103 (L_Mo_copy_103 fu) _ _ _ _ _ _ _ = _
      unfold B_Mo_copy_103
      rw [if_neg (nI_ge (by omega) (by omega)), if_neg (nI_ge (by omega) (by omega))]
      simp only [lt1_eq, mo_place h1 (show x < 60 by omega), mo_place h3 (show y < 60 by omega), nI_add, inb_ok (show 60 * q1 + x + i < 240 by omega) (show 240 < 2 ^ 31 by decide), inb_ok (show 60 * q3 + y + i < 240 by omega) (show 240 < 2 ^ 31 by decide), if_true, nI_clamp (show 60 * q1 + x + i < 2 ^ 31 by omega), nI_clamp (show 60 * q3 + y + i < 2 ^ 31 by omega), nI_1]
      exact e
def whyC (A : Ast) (a b c d e : Int32) : Int32 := if ptB a 4 = true then (if ptB c 4 = true then (if gone A a.toInt.toNat = true then -11 else if gone A c.toInt.toNat = true then -11 else if (s_S A a.toInt.toNat).1 = (s_S A c.toInt.toNat).1 then (if roomB b e (s_S A a.toInt.toNat).2.1 = true then (if roomB d e (s_S A c.toInt.toNat).2.1 = true then 0 else -12) else -12) else -13) else -2) else -2
def cpA (A : Ast) (a b c d e : Int32) : Ast := setS A c.toInt.toNat (cpS (s_S A a.toInt.toNat) (s_S A c.toInt.toNat) b.toInt.toNat d.toInt.toNat e.toInt.toNat)
theorem op_copy_c (a b c d e : Int32) (σ : Sto) (A : Ast) (wf : WfA A) (h : CSt σ A) : ∃ σ1, f_FR_copy a b c d e σ = some (if whyC A a b c d e = 0 then e else whyC A a b c d e, σ1) ∧ WfA (if whyC A a b c d e = 0 then cpA A a b c d e else A) ∧ CSt σ1 (if whyC A a b c d e = 0 then cpA A a b c d e else A) ∧ HiEq σ σ1 := by
  have bad : ∀ {v : Int32}, whyC A a b c d e = v → v ≠ 0 → f_FR_copy a b c d e σ = some (v, σ) → ∃ σ1, f_FR_copy a b c d e σ = some (if whyC A a b c d e = 0 then e else whyC A a b c d e, σ1) ∧ WfA (if whyC A a b c d e = 0 then cpA A a b c d e else A) ∧ CSt σ1 (if whyC A a b c d e = 0 then cpA A a b c d e else A) ∧ HiEq σ σ1 := fun hv h0 ef => by
    rw [hv]
    exact ⟨σ, by rw [if_neg h0]; exact ef, by rw [if_neg h0]; exact wf, by rw [if_neg h0]; exact h, fun _ _ _ => ⟨rfl, rfl⟩⟩
  cases h1 : ptB a 4
  · exact bad (v := -2) (by simp [whyC, h1]) (by decide +kernel) (by unfold f_FR_copy B_FR_copy_0; simp [fr_isSheet, h1, ite_bf])
  cases h2 : ptB c 4
  · exact bad (v := -2) (by simp [whyC, h1, h2]) (by decide +kernel) (by unfold f_FR_copy B_FR_copy_0; simp [fr_isSheet, h1, h2, ite_bf, ite_bt])
  obtain ⟨q1, hq1, rfl⟩ := ptB_of h1
  obtain ⟨q3, hq3, rfl⟩ := ptB_of h2
  have hm1 := (wf.2.2.2.2.1 q1 hq1).1
  have hm3 := (wf.2.2.2.2.1 q3 hq3).1
  obtain ⟨k1, k2, k3⟩ := h.2.2.2.2.1 q1 hq1
  obtain ⟨l1, l2, l3⟩ := h.2.2.2.2.1 q3 hq3
  have hw : whyC A (nI q1) b (nI q3) d e = (if gone A q1 = true then -11 else if gone A q3 = true then -11 else if (s_S A q1).1 = (s_S A q3).1 then (if roomB b e (s_S A q1).2.1 = true then (if roomB d e (s_S A q3).2.1 = true then 0 else -12) else -12) else -13) := by
    unfold whyC
    rw [if_pos h1, if_pos h2, nI_toInt (show q1 < 2 ^ 31 by omega), nI_toInt (show q3 < 2 ^ 31 by omega), Int.toNat_natCast, Int.toNat_natCast]
  have hf : f_FR_copy (nI q1) b (nI q3) d e σ = (if b2i (gone A q1) = 0 then (if b2i (gone A q3) = 0 then (if (s_S A q1).1 = (s_S A q3).1 then (if b2i (roomB b e (s_S A q1).2.1) = 0 then some (-12, σ) else (if b2i (roomB d e (s_S A q3).2.1) = 0 then some (-12, σ) else (if cpk b 60 d 60 e = true then some (e, cpI σ (37 + 2 * q1) b.toNatClampNeg (37 + 2 * q3) d.toNatClampNeg e.toNatClampNeg) else none))) else some (-13, σ)) else some (-11, σ)) else some (-11, σ)) := by
    unfold f_FR_copy B_FR_copy_0
    simp only [fr_isSheet, h1, h2, ite_bt, Option.bind_some, inb_ok (show q1 < 4 by omega) (show 4 < 2 ^ 31 by decide), inb_ok (show q3 < 4 by omega) (show 4 < 2 ^ 31 by decide), if_true, nI_clamp (show q1 < 2 ^ 31 by omega), nI_clamp (show q3 < 2 ^ 31 by omega), sh_gone h hq1, sh_gone h hq3, k1, l1, sh_room k2 hm1, sh_room l2 hm3, lt1_eq, show 36 + 2 * q1 + 1 = 37 + 2 * q1 by omega, show 36 + 2 * q3 + 1 = 37 + 2 * q3 by omega]
  cases h3 : gone A q1
  rotate_left
  · exact bad (v := -11) (by rw [hw, h3]; rfl) (by decide +kernel) (by rw [hf, h3]; rfl)
  cases h4 : gone A q3
  rotate_left
  · exact bad (v := -11) (by rw [hw, h3, h4]; rfl) (by decide +kernel) (by rw [hf, h3, h4]; rfl)
  rw [h3, h4, if_neg (by decide), if_neg (by decide)] at hw
  rw [h3, h4, ite_bf, ite_bf] at hf
  by_cases h5 : (s_S A q1).1 = (s_S A q3).1
  rotate_left
  · exact bad (v := -13) (by rw [hw, if_neg h5]) (by decide +kernel) (by rw [hf, if_neg h5])
  rw [if_pos h5] at hw hf
  cases h6 : roomB b e (s_S A q1).2.1
  · exact bad (v := -12) (by rw [hw, h6]; rfl) (by decide +kernel) (by rw [hf, h6]; rfl)
  cases h7 : roomB d e (s_S A q3).2.1
  · exact bad (v := -12) (by rw [hw, h6, h7]; rfl) (by decide +kernel) (by rw [hf, h6, h7]; rfl)
  rw [h6, h7] at hw hf
  obtain ⟨x, k, hx, rfl, rfl⟩ := roomB_of h6 hm1
  obtain ⟨y, k', hy, rfl, hk⟩ := roomB_of h7 hm3
  obtain rfl : k = k' := (nI_eq (by omega) (by omega)).1 hk
  rw [show whyC A (nI q1) (nI x) (nI q3) (nI y) (nI k) = 0 from hw, if_pos rfl, if_pos rfl]
  have hA : cpA A (nI q1) (nI x) (nI q3) (nI y) (nI k) = setS A q3 (cpS (s_S A q1) (s_S A q3) x y k) := by
    unfold cpA
    rw [nI_toInt (show q1 < 2 ^ 31 by omega), nI_toInt (show q3 < 2 ^ 31 by omega), nI_toInt (show x < 2 ^ 31 by omega), nI_toInt (show y < 2 ^ 31 by omega), nI_toInt (show k < 2 ^ 31 by omega)]
    simp only [Int.toNat_natCast]
  rw [hA]
  refine ⟨cpI σ (37 + 2 * q1) x (37 + 2 * q3) y k, ?_, setS_wf wf (wf.2.2.2.2.1 q3 hq3), h.shU (fun cc j hc hc2 => ⟨by rw [gI_cpI', if_neg (by omega)], rfl⟩) hq3 (by rw [gI_cpI', if_neg (by omega)]; exact l1) (by rw [gI_cpI', if_neg (by omega)]; exact l2) (fun j hj => ?_), fun cc j hc => ⟨by rw [gI_cpI', if_neg (by omega)], rfl⟩⟩
  · rw [hf, ite_bt, ite_bt, nI_clamp (show x < 2 ^ 31 by omega), nI_clamp (show y < 2 ^ 31 by omega), nI_clamp (show k < 2 ^ 31 by omega), if_pos]
    unfold cpk
    rw [nI_clamp (show x < 2 ^ 31 by omega), nI_clamp (show y < 2 ^ 31 by omega), nI_clamp (show k < 2 ^ 31 by omega), decide_eq_true (show x + k ≤ 60 by omega), decide_eq_true (show y + k ≤ 60 by omega), decide_eq_true (show (0 : Int32) ≤ nI x from nI_le (a := 0) (by omega) (by omega)), decide_eq_true (show (0 : Int32) ≤ nI y from nI_le (a := 0) (by omega) (by omega)), decide_eq_true (show (0 : Int32) ≤ nI k from nI_le (a := 0) (by omega) (by omega))]
    rfl
  · have hj' : j < (s_S A q3).2.1 := hj
    show _ = if y ≤ j ∧ j < y + k then (s_S A q1).2.2 (x + (j - y)) else (s_S A q3).2.2 j
    rw [gI_cpI']
    by_cases c1 : y ≤ j ∧ j < y + k
    · rw [if_pos ⟨rfl, c1⟩, if_pos c1]; exact k3 _ (by omega)
    · rw [if_neg (fun z => c1 z.2), if_neg c1]; exact l3 j hj'
theorem mo_rooms {R : Type} {b d e : Int32} {m1 m3 : Nat} (h1 : m1 ≤ 60) (h3 : m3 ≤ 60) (T1 T2 : R) : (if e < 0 then T1 else (if b < 0 then T1 else (if d < 0 then T1 else (if (nI m1 - b) < e then T1 else (if e ≤ (nI m3 - d) then T2 else T1))))) = if roomB b e m1 = true then (if roomB d e m3 = true then T2 else T1) else T1 := by
  have e0 : e < 0 ↔ e.toInt < 0 := by rw [Int32.lt_iff_toInt_lt, Int32.toInt_zero]
  have e1 : b < 0 ↔ b.toInt < 0 := by rw [Int32.lt_iff_toInt_lt, Int32.toInt_zero]
  have e2 : d < 0 ↔ d.toInt < 0 := by rw [Int32.lt_iff_toInt_lt, Int32.toInt_zero]
  have r1 : roomB b e m1 = true ↔ 0 ≤ b.toInt ∧ 0 ≤ e.toInt ∧ b.toInt + e.toInt ≤ (m1 : Int) := by
    unfold roomB; simp only [Bool.and_eq_true, decide_eq_true_eq]; omega
  have r3 : roomB d e m3 = true ↔ 0 ≤ d.toInt ∧ 0 ≤ e.toInt ∧ d.toInt + e.toInt ≤ (m3 : Int) := by
    unfold roomB; simp only [Bool.and_eq_true, decide_eq_true_eq]; omega
  simp only [r1, r3, e0, e1, e2]
  by_cases g0 : e.toInt < 0
  · rw [if_pos g0, if_neg (by omega)]
  rw [if_neg g0]
  by_cases g1 : b.toInt < 0
  · rw [if_pos g1, if_neg (by omega)]
  rw [if_neg g1]
  have b1 := Int32.toInt_lt b
  have d1 := Int32.toInt_lt d
  have s1 : (nI m1 - b).toInt = (m1 : Int) - b.toInt := by
    rw [fb_subI] <;> rw [nI_toInt (by omega)] <;> omega
  by_cases g2 : d.toInt < 0
  · rw [if_pos g2]
    by_cases c1 : 0 ≤ b.toInt ∧ 0 ≤ e.toInt ∧ b.toInt + e.toInt ≤ (m1 : Int)
    · rw [if_pos c1, if_neg (by omega)]
    · rw [if_neg c1]
  rw [if_neg g2]
  have s3 : (nI m3 - d).toInt = (m3 : Int) - d.toInt := by
    rw [fb_subI] <;> rw [nI_toInt (by omega)] <;> omega
  have u1 : (nI m1 - b) < e ↔ (m1 : Int) - b.toInt < e.toInt := by rw [Int32.lt_iff_toInt_lt, s1]
  have u3 : e ≤ (nI m3 - d) ↔ e.toInt ≤ (m3 : Int) - d.toInt := by rw [Int32.le_iff_toInt_le, s3]
  simp only [u1, u3]
  by_cases g3 : (m1 : Int) - b.toInt < e.toInt
  · rw [if_pos g3, if_neg (by omega)]
  rw [if_neg g3, if_pos (show 0 ≤ b.toInt ∧ 0 ≤ e.toInt ∧ b.toInt + e.toInt ≤ (m1 : Int) by omega)]
  by_cases g4 : e.toInt ≤ (m3 : Int) - d.toInt
  · rw [if_pos g4, if_pos (by omega)]
  · rw [if_neg g4, if_neg (by omega)]
theorem op_copy_m (a b c d e : Int32) (σ : Sto) (A : Ast) (wf : WfA A) (h : MSt σ A) : ∃ σ1, f_Mo_copy a b c d e σ = some (if whyC A a b c d e = 0 then e else whyC A a b c d e, σ1) ∧ MSt σ1 (if whyC A a b c d e = 0 then cpA A a b c d e else A) ∧ LoEq σ σ1 := by
  have bad : ∀ {v : Int32}, whyC A a b c d e = v → v ≠ 0 → f_Mo_copy a b c d e σ = some (v, σ) → ∃ σ1, f_Mo_copy a b c d e σ = some (if whyC A a b c d e = 0 then e else whyC A a b c d e, σ1) ∧ MSt σ1 (if whyC A a b c d e = 0 then cpA A a b c d e else A) ∧ LoEq σ σ1 := fun hv h0 ef => by
    rw [hv]
    exact ⟨σ, by rw [if_neg h0]; exact ef, by rw [if_neg h0]; exact h, fun _ _ _ => ⟨rfl, rfl⟩⟩
  cases h1 : ptB a 4
  · exact bad (v := -2) (by simp [whyC, h1]) (by decide +kernel) (by unfold f_Mo_copy B_Mo_copy_0; simp [mo_isSheet, h1, ite_bf])
  cases h2 : ptB c 4
  · exact bad (v := -2) (by simp [whyC, h1, h2]) (by decide +kernel) (by unfold f_Mo_copy B_Mo_copy_0; simp [mo_isSheet, h1, h2, ite_bf, ite_bt])
  obtain ⟨q1, hq1, rfl⟩ := ptB_of h1
  obtain ⟨q3, hq3, rfl⟩ := ptB_of h2
  have hm1 := (wf.2.2.2.2.1 q1 hq1).1
  have hm3 := (wf.2.2.2.2.1 q3 hq3).1
  obtain ⟨k1, k2, k3⟩ := h.2.2.2.2.1 q1 hq1
  obtain ⟨l1, l2, l3⟩ := h.2.2.2.2.1 q3 hq3
  have hw : whyC A (nI q1) b (nI q3) d e = (if gone A q1 = true then -11 else if gone A q3 = true then -11 else if (s_S A q1).1 = (s_S A q3).1 then (if roomB b e (s_S A q1).2.1 = true then (if roomB d e (s_S A q3).2.1 = true then 0 else -12) else -12) else -13) := by
    unfold whyC
    rw [if_pos h1, if_pos h2, nI_toInt (show q1 < 2 ^ 31 by omega), nI_toInt (show q3 < 2 ^ 31 by omega), Int.toNat_natCast, Int.toNat_natCast]
  have hf : f_Mo_copy (nI q1) b (nI q3) d e σ = (if gone A q1 = true then some (-11, σ) else (if gone A q3 = false then (if (s_S A q1).1 = (s_S A q3).1 then (if roomB b e (s_S A q1).2.1 = true then (if roomB d e (s_S A q3).2.1 = true then L_Mo_copy_103 LF (nI q1) b (nI q3) d e 0 σ else some (-12, σ)) else some (-12, σ)) else some (-13, σ)) else some (-11, σ))) := by
    unfold f_Mo_copy B_Mo_copy_0
    simp only [mo_isSheet, h1, h2, ite_bt, Option.bind_some, inb_ok (show q1 < 4 by omega) (show 4 < 2 ^ 31 by decide), inb_ok (show q3 < 4 by omega) (show 4 < 2 ^ 31 by decide), if_true, nI_clamp (show q1 < 2 ^ 31 by omega), nI_clamp (show q3 < 2 ^ 31 by omega), k1, l1, k2, l2, gone_neg wf hq1, gone_nn wf hq3, mo_rooms hm1 hm3]
  cases h3 : gone A q1
  rotate_left
  · exact bad (v := -11) (by rw [hw, h3]; rfl) (by decide +kernel) (by rw [hf, h3]; rfl)
  cases h4 : gone A q3
  rotate_left
  · exact bad (v := -11) (by rw [hw, h3, h4]; rfl) (by decide +kernel) (by rw [hf, h3, h4]; rfl)
  rw [h3, h4, if_neg (by decide), if_neg (by decide)] at hw
  rw [h3, h4, if_neg (by decide), if_pos rfl] at hf
  by_cases h5 : (s_S A q1).1 = (s_S A q3).1
  rotate_left
  · exact bad (v := -13) (by rw [hw, if_neg h5]) (by decide +kernel) (by rw [hf, if_neg h5])
  rw [if_pos h5] at hw hf
  cases h6 : roomB b e (s_S A q1).2.1
  · exact bad (v := -12) (by rw [hw, h6]; rfl) (by decide +kernel) (by rw [hf, h6]; rfl)
  cases h7 : roomB d e (s_S A q3).2.1
  · exact bad (v := -12) (by rw [hw, h6, h7]; rfl) (by decide +kernel) (by rw [hf, h6, h7]; rfl)
  rw [h6, h7, if_pos rfl, if_pos rfl] at hf
  rw [h6, h7] at hw
  obtain ⟨x, k, hx, rfl, rfl⟩ := roomB_of h6 hm1
  obtain ⟨y, k', hy, rfl, hk⟩ := roomB_of h7 hm3
  obtain rfl : k = k' := (nI_eq (by omega) (by omega)).1 hk
  rw [show whyC A (nI q1) (nI x) (nI q3) (nI y) (nI k) = 0 from hw, if_pos rfl, if_pos rfl]
  have hA : cpA A (nI q1) (nI x) (nI q3) (nI y) (nI k) = setS A q3 (cpS (s_S A q1) (s_S A q3) x y k) := by
    unfold cpA
    rw [nI_toInt (show q1 < 2 ^ 31 by omega), nI_toInt (show q3 < 2 ^ 31 by omega), nI_toInt (show x < 2 ^ 31 by omega), nI_toInt (show y < 2 ^ 31 by omega), nI_toInt (show k < 2 ^ 31 by omega)]
    simp only [Int.toNat_natCast]
  rw [hA]
  obtain ⟨σ', ee, g1, g2, g3⟩ := mo_copy_loop (σ0 := σ) hq1 hq3 (show x + k ≤ 60 by omega) (show y + k ≤ 60 by omega) k LF 0 σ (by omega) (by rw [LF_big]; omega) (fun _ _ _ => rfl) (fun _ _ => rfl) (fun j => by
    rw [if_neg]
    by_cases c1 : x ≤ y
    · rw [if_pos c1]; omega
    · rw [if_neg c1]; omega)
  refine ⟨σ', by rw [hf]; exact ee, h.shU (fun cc j _ _ hc => g1 cc j hc) g2 (fun j _ => g1 69 j (by omega)) (fun j _ => g1 70 j (by omega)) (fun j hj => by rw [g3, if_neg (by omega)]) wf (by rw [g1 _ _ (by omega)]; exact l1) (by rw [g1 _ _ (by omega)]; exact l2) (fun j hj => ?_), fun cc j hc => ⟨g1 cc j (by omega), g2 cc j⟩⟩
  have hj' : j < (s_S A q3).2.1 := hj
  show _ = if y ≤ j ∧ j < y + k then (s_S A q1).2.2 (x + (j - y)) else (s_S A q3).2.2 j
  rw [g3]
  by_cases c1 : y ≤ j ∧ j < y + k
  · rw [if_pos (by omega), if_pos c1, show 60 * q1 + x + (60 * q3 + j - (60 * q3 + y)) = 60 * q1 + (x + (j - y)) by omega]; exact k3 _ (by omega)
  · rw [if_neg (by omega), if_neg c1]; exact l3 j hj'
theorem op_copy (a0 : Int32) (b1 : Int32) (c2 : Int32) (d3 : Int32) (e4 : Int32) : Op (f_FR_copy a0 b1 c2 d3 e4) (f_Mo_copy a0 b1 c2 d3 e4) :=
  Op.mk _ _ (fun σ A wf h => op_copy_c a0 b1 c2 d3 e4 σ A wf h) (fun σ A wf h => op_copy_m a0 b1 c2 d3 e4 σ A wf h)
