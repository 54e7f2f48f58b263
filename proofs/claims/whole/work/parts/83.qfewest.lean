/-! fewest: the reference's table -/
theorem and_pw {x a : Nat} : (x &&& 2 ^ a = 0) ↔ x.testBit a = false := by
  constructor
  · intro h
    have := Nat.testBit_and x (2 ^ a) a
    rw [h, Nat.zero_testBit, Nat.testBit_two_pow_self, Bool.and_true] at this
    exact this.symm
  · intro h
    apply bx
    intro i
    rw [Nat.testBit_and, Nat.testBit_two_pow, Nat.zero_testBit]
    by_cases e : a = i
    · rw [← e, h]; rfl
    · rw [decide_eq_false e, Bool.and_false]
theorem mo_fw_in {r : Nat → Nat → Bool} {K v a0 : Nat} (hK : K ≤ 10) (hv : v < 2 ^ K) (ha0 : a0 < 10) {k125 : Int32 → Int32 → Sto → Option (Int32 × Sto)} : ∀ (n fu x : Nat) (σ : Sto) (y : Nat), x ≤ n → n < fu → subN x v → x < v → gI σ 58 v = nI y → y ≤ 99 → (∀ u, u < v → ∃ z, gI σ 58 u = nI z ∧ ChiV r u z ∧ z ≤ 10) → (y = 99 ∨ ∃ f, ColV r v f y) → (∀ t z, subN t v → t ≠ 0 → t < v → x < t → t.testBit a0 = true → Loo r t → ChiV r (v ^^^ t) z → y ≤ z + 1) →
    ∃ σ' y', L_Mo_fewest_151 k125 fu (nI K) (nI v) (nI (2 ^ a0)) (nI x) σ = k125 (nI K) (nI (v + 1)) σ' ∧ gI σ' 58 v = nI y' ∧ y' ≤ y ∧ (y' = 99 ∨ ∃ f, ColV r v f y') ∧ (∀ t z, subN t v → t ≠ 0 → t < v → t.testBit a0 = true → Loo r t → ChiV r (v ^^^ t) z → y' ≤ z + 1) ∧ (∀ c j, ¬ (c = 58 ∧ j = v) → gI σ' c j = gI σ c j) ∧ (∀ c j, gL σ' c j = gL σ c j) := by
  intro n
  have h1024 : v < 1024 := Nat.lt_of_lt_of_le hv (Nat.le_trans (two_pow_le hK) (by decide))
  have hp10 : 2 ^ a0 < 1024 := Nat.lt_of_lt_of_le (pow_lt ha0) (by decide)
  have fin : ∀ (fu : Nat) (σ : Sto) (y : Nat), gI σ 58 v = nI y → (y = 99 ∨ ∃ f, ColV r v f y) → (∀ t z, subN t v → t ≠ 0 → t < v → 0 < t → t.testBit a0 = true → Loo r t → ChiV r (v ^^^ t) z → y ≤ z + 1) → ∃ σ' y', L_Mo_fewest_151 k125 (fu + 1) (nI K) (nI v) (nI (2 ^ a0)) (nI 0) σ = k125 (nI K) (nI (v + 1)) σ' ∧ gI σ' 58 v = nI y' ∧ y' ≤ y ∧ (y' = 99 ∨ ∃ f, ColV r v f y') ∧ (∀ t z, subN t v → t ≠ 0 → t < v → t.testBit a0 = true → Loo r t → ChiV r (v ^^^ t) z → y' ≤ z + 1) ∧ (∀ c j, ¬ (c = 58 ∧ j = v) → gI σ' c j = gI σ c j) ∧ (∀ c j, gL σ' c j = gL σ c j) := by
    intro fu σ y h1 h2 h3
    refine ⟨σ, y, ?_, h1, Nat.le_refl _, h2, fun t z a b c d e f => h3 t z a b c (by omega) d e f, fun _ _ _ => rfl, fun _ _ => rfl⟩
    show B_Mo_fewest_151 k125 (L_Mo_fewest_151 k125 fu) _ _ _ _ _ = _
    unfold B_Mo_fewest_151
    rw [if_pos (show nI 0 ≤ (0 : Int32) by decide +kernel), nI_1]
  induction n with
  | zero =>
    intro fu x σ y hx hf hs hxv hy hy99 hu hA hB
    obtain ⟨fu, rfl⟩ : ∃ z, fu = z + 1 := ⟨fu - 1, by omega⟩
    have e : x = 0 := by omega
    subst e
    exact fin fu σ y hy hA hB
  | succ n ih =>
    intro fu x σ y hx hf hs hxv hy hy99 hu hA hB
    obtain ⟨fu, rfl⟩ : ∃ z, fu = z + 1 := ⟨fu - 1, by omega⟩
    by_cases e0 : x = 0
    · subst e0; exact fin fu σ y hy hA hB
    obtain ⟨z1, q1, q2, q3⟩ := hu x hxv
    obtain ⟨z2, p1, p2, p3⟩ := hu (v ^^^ x) (xr_lt hs e0)
    have hxl : v ^^^ x < v := xr_lt hs e0
    have eL : L_Mo_fewest_151 k125 (fu + 1) (nI K) (nI v) (nI (2 ^ a0)) (nI x) σ = if x.testBit a0 = true ∧ z1 = 1 ∧ ¬ y ≤ z2 + 1 then L_Mo_fewest_151 k125 fu (nI K) (nI v) (nI (2 ^ a0)) (nI ((x - 1) &&& v)) (sI σ 58 v (nI (z2 + 1))) else L_Mo_fewest_151 k125 fu (nI K) (nI v) (nI (2 ^ a0)) (nI ((x - 1) &&& v)) σ := by
      show B_Mo_fewest_151 k125 (L_Mo_fewest_151 k125 fu) _ _ _ _ _ = _
      unfold B_Mo_fewest_151
      rw [if_neg (show ¬ (nI x ≤ (0 : Int32)) from nI_ge (b := x) (a := 0) (by omega) (by omega))]
      simp only [lt1_eq, andI, show (0 : Int32) = nI 0 from rfl, show (1 : Int32) = nI 1 from rfl, nI_sub (show 1 ≤ x by omega), nI_eq (show x &&& 2 ^ a0 < 2 ^ 31 from Nat.lt_of_le_of_lt Nat.and_le_left (by omega)) (show 0 < 2 ^ 31 by decide), and_pw, inb_ok (show x < 1024 by omega) (show 1024 < 2 ^ 31 by decide), if_true, nI_clamp (show x < 2 ^ 31 by omega), q1, nI_eq (show z1 < 2 ^ 31 by omega) (show 1 < 2 ^ 31 by decide), fb_xorI, inb_ok (show v ^^^ x < 1024 by omega) (show 1024 < 2 ^ 31 by decide), inb_ok (show v < 1024 by omega) (show 1024 < 2 ^ 31 by decide), nI_clamp (show v ^^^ x < 2 ^ 31 by omega), nI_clamp (show v < 2 ^ 31 by omega), p1, hy, nI_add, nI_leI (show y < 2 ^ 31 by omega) (show z2 + 1 < 2 ^ 31 by omega)]
      cases hb : x.testBit a0 with
      | false => rw [if_pos rfl, if_neg (by simp)]
      | true =>
        rw [if_neg (by decide)]
        by_cases hz : z1 = 1
        · rw [if_pos hz]
          by_cases hyz : y ≤ z2 + 1
          · rw [if_pos hyz, if_neg (by simp [hyz])]
          · rw [if_neg hyz, if_pos ⟨rfl, hz, hyz⟩]
        · rw [if_neg hz, if_neg (by simp [hz])]
    have hsub : subN ((x - 1) &&& v) v := fun i hi => by
      rw [Nat.testBit_and, Bool.and_eq_true] at hi; exact hi.2
    have hle : (x - 1) &&& v ≤ x - 1 := Nat.and_le_left
    have nxt : ∀ t, subN t v → t < x → t ≤ (x - 1) &&& v := fun t h1 h2 => sub_next K t x v hv h1 hs h2
    rw [eL]
    by_cases hc : x.testBit a0 = true ∧ z1 = 1 ∧ ¬ y ≤ z2 + 1
    · rw [if_pos hc]
      obtain ⟨c1, c2, c3⟩ := hc
      have hlo : Loo r x := (chi_one q2 e0).1 c2
      obtain ⟨f, hf'⟩ := p2.1
      obtain ⟨σ', y', a1, a2, a3, a4, a5, a6, a7⟩ := ih fu ((x - 1) &&& v) (sI σ 58 v (nI (z2 + 1))) (z2 + 1) (by omega) (by omega) hsub (by omega) (g_sI_eq _ _ _ _) (by omega) (fun u hu' => by
        obtain ⟨z, b1, b2, b3⟩ := hu u hu'
        exact ⟨z, by rw [g_sI_ne (by omega)]; exact b1, b2, b3⟩) (Or.inr ⟨_, chi_add hs hlo hf'⟩) (fun t z b1 b2 b3 b4 b5 b6 b7 => by
        by_cases e : t = x
        · rw [e] at b7; rw [p2.uniq b7]; exact Nat.le_refl _
        · have : x < t := by
            rcases Nat.lt_or_ge t x with w | w
            · have := nxt t b1 w; omega
            · omega
          have := hB t z b1 b2 b3 this b5 b6 b7
          omega)
      exact ⟨σ', y', a1, a2, by omega, a4, a5, fun c j h => by rw [a6 c j h, g_sI_ne h], fun c j => by rw [a7]; rfl⟩
    · rw [if_neg hc]
      exact ih fu ((x - 1) &&& v) σ y (by omega) (by omega) hsub (by omega) hy hy99 hu hA (fun t z b1 b2 b3 b4 b5 b6 b7 => by
        by_cases e : t = x
        · rw [e] at b5 b6 b7
          have e1 : z1 = 1 := (chi_one q2 e0).2 b6
          have e2 : z2 = z := p2.uniq b7
          rcases Nat.lt_or_ge (z + 1) y with w | w
          · exact absurd ⟨b5, e1, by omega⟩ hc
          · exact w
        · have : x < t := by
            rcases Nat.lt_or_ge t x with w | w
            · have := nxt t b1 w; omega
            · omega
          exact hB t z b1 b2 b3 this b5 b6 b7)
theorem mo_fw_out {r : Nat → Nat → Bool} {K : Nat} (hK : K ≤ 10) (hirr : ∀ a, a < K → r a a = false) : ∀ (q fu v : Nat) (σ : Sto), v + q = 2 ^ K → q < fu → 1 ≤ v → (∀ u, u < v → ∃ z, gI σ 58 u = nI z ∧ ChiV r u z ∧ z ≤ 10) → (∀ u, v ≤ u → u < 2 ^ K → (gI σ 58 u = nI 1 ∧ Loo r u) ∨ (gI σ 58 u = nI 99 ∧ ¬ Loo r u)) → ∃ σ' x, L_Mo_fewest_125 fu (nI K) (nI v) σ = some (nI x, σ') ∧ ChiV r (2 ^ K - 1) x ∧ (∀ c j, c ≠ 58 → gI σ' c j = gI σ c j) ∧ (∀ c j, gL σ' c j = gL σ c j) := by
  intro q
  have h1024 : 2 ^ K ≤ 1024 := Nat.le_trans (two_pow_le hK) (by decide)
  induction q with
  | zero =>
    intro fu v σ hv hf h1 hu hI
    obtain ⟨fu, rfl⟩ : ∃ z, fu = z + 1 := ⟨fu - 1, by omega⟩
    obtain ⟨z, b1, b2, b3⟩ := hu (2 ^ K - 1) (by omega)
    refine ⟨σ, z, ?_, b2, fun _ _ _ => rfl, fun _ _ => rfl⟩
    show B_Mo_fewest_125 (L_Mo_fewest_125 fu) _ _ _ = _
    unfold B_Mo_fewest_125
    rw [ishI K (by omega), if_pos (nI_le (by omega) (by omega)), show (1 : Int32) = nI 1 from rfl, nI_sub (by omega), if_pos (inb_ok (show 2 ^ K - 1 < 1024 by omega) (by decide)), nI_clamp (by omega), b1]
  | succ q ih =>
    intro fu v σ hv hf h1 hu hI
    obtain ⟨fu, rfl⟩ : ∃ z, fu = z + 1 := ⟨fu - 1, by omega⟩
    have hv2 : v < 2 ^ K := by omega
    obtain ⟨a0, l1, l2, l3⟩ : ∃ a, a < 10 ∧ v.testBit a = true ∧ nI v &&& -(nI v) = nI (2 ^ a) := by
      rcases lowI v (by omega) with z | z
      · omega
      · exact z
    have hself : subN v v := fun _ z => z
    have hsub : subN ((v - 1) &&& v) v := fun i hi => by
      rw [Nat.testBit_and, Bool.and_eq_true] at hi; exact hi.2
    have hle : (v - 1) &&& v ≤ v - 1 := Nat.and_le_left
    have hinb : ∀ a, v.testBit a = true → a < K := fun a ha => by
      rcases Nat.lt_or_ge a K with z | z
      · exact z
      · rw [Nat.testBit_lt_two_pow (Nat.lt_of_lt_of_le hv2 (two_pow_le z))] at ha; cases ha
    have hid : ColV r v (fun a => a) K := ⟨fun a ha => hinb a ha, fun a b ha hb hr z => by
      have z' : a = b := z
      rw [z', hirr b (hinb b hb)] at hr; cases hr⟩
    obtain ⟨y, y1, y2, y3⟩ : ∃ y, gI σ 58 v = nI y ∧ y ≤ 99 ∧ ((y = 1 ∧ Loo r v) ∨ (y = 99 ∧ ¬ Loo r v)) := by
      rcases hI v (Nat.le_refl _) hv2 with ⟨z, w⟩ | ⟨z, w⟩
      · exact ⟨1, z, by omega, Or.inl ⟨rfl, w⟩⟩
      · exact ⟨99, z, by omega, Or.inr ⟨rfl, w⟩⟩
    have hA : y = 99 ∨ ∃ f, ColV r v f y := by
      rcases y3 with ⟨z, w⟩ | ⟨z, w⟩
      · rw [z]; exact Or.inr (w.chi (by omega)).1
      · exact Or.inl z
    obtain ⟨σ1, y', a1, a2, a3, a4, a5, a6, a7⟩ := mo_fw_in (r := r) (K := K) (v := v) (a0 := a0) hK hv2 l1 (k125 := L_Mo_fewest_125 fu) v LF ((v - 1) &&& v) σ y (by omega) (by rw [LF_big]; omega) hsub (by omega) y1 y2 hu hA (fun t z b1 b2 b3 b4 b5 b6 b7 => by
      have := sub_next K t v v hv2 b1 hself b3
      omega)
    have hchi : ChiV r v y' := by
      rcases y3 with ⟨z, w⟩ | ⟨z, w⟩
      · rcases a4 with a4 | ⟨f, hf'⟩
        · omega
        · have := (w.chi (by omega)).2 f y' hf'
          have e : y' = 1 := by omega
          rw [e]; exact w.chi (by omega)
      · have lo := chi_sub hv2 l2 w (fun u hu' => by
          obtain ⟨x, b1, b2, b3⟩ := hu u hu'
          exact ⟨x, b2⟩) a5
        have := lo _ K hid
        rcases a4 with a4 | a4
        · omega
        · exact ⟨a4, lo⟩
    have hy10 : y' ≤ 10 := Nat.le_trans (hchi.2 _ K hid) hK
    obtain ⟨σ', x, e1, e2, e3, e4⟩ := ih fu (v + 1) σ1 (by omega) (by omega) (by omega) (fun u hu' => by
      by_cases e : u = v
      · exact ⟨y', by rw [e]; exact a2, by rw [e]; exact hchi, hy10⟩
      · obtain ⟨z, b1, b2, b3⟩ := hu u (by omega)
        exact ⟨z, by rw [a6 58 u (by omega)]; exact b1, b2, b3⟩) (fun u h2 h3 => by
      rw [a6 58 u (by omega)]; exact hI u (by omega) h3)
    refine ⟨σ', x, ?_, e2, fun c j h => by rw [e3 c j h, a6 c j (by omega)], fun c j => by rw [e4, a7]⟩
    rw [← e1, ← a1]
    show B_Mo_fewest_125 (L_Mo_fewest_125 fu) _ _ _ = _
    unfold B_Mo_fewest_125
    rw [ishI K (by omega), if_neg (nI_ge (by omega) (by omega)), lt1_eq, l3, show (1 : Int32) = nI 1 from rfl, nI_sub (by omega), andI]
