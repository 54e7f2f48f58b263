/-! lots drawn -/
theorem nI_div {u m : Nat} (hu : u < 2 ^ 31) (hm : 0 < m) (hm2 : m < 2 ^ 31) : nI u / nI m = nI (u / m) := by
  have hd : u / m ≤ u := Nat.div_le_self _ _
  apply Int32.toInt_inj.mp
  rw [Int32.toInt_div, nI_toInt hu, nI_toInt hm2, nI_toInt (by omega), show ((u : Int).tdiv (m : Int)) = ((u / m : Nat) : Int) from rfl]
  generalize u / m = d at hd
  apply Int.bmod_eq_of_le <;> omega
theorem irm_N {u m : Nat} (hu : u < 2 ^ 31) (hm : 0 < m) (hm2 : m < 2 ^ 31) : irm (nI u) (nI m) = nI (u % m) := by
  unfold irm
  have h2 : u / m * m ≤ u := Nat.div_mul_le_self u m
  rw [nI_div hu hm hm2, nI_mul, nI_sub h2]
  congr 1
  have := Nat.div_add_mod u m
  rw [Nat.mul_comm] at this
  omega
theorem iur_8 (x : Int32) : ∃ u, u < 2 ^ 24 ∧ iur x 8 = nI u := by
  refine ⟨x.toUInt32.toNat / 256, ?_, ?_⟩
  · have := x.toUInt32.toNat_lt
    omega
  · unfold iur
    apply Int32.toBitVec_inj.mp
    apply BitVec.eq_of_toNat_eq
    have h8 : (Int32.toUInt32 8 &&& Int32.toUInt32 31) = 8 := by decide +kernel
    rw [h8]
    have := x.toUInt32.toNat_lt
    show (x.toUInt32 >>> 8).toNat = (BitVec.ofNat 32 (x.toUInt32.toNat / 256)).toNat
    rw [UInt32.toNat_shiftRight, BitVec.toNat_ofNat, show ((8 : UInt32).toNat % 32) = 8 from rfl, Nat.shiftRight_eq_div_pow]
    omega
/-- a draw below m -/
theorem draw_N (x : Int32) {m : Nat} (hm : 0 < m) (hm2 : m < 2 ^ 31) : ∃ v, v < m ∧ irm (iur x 8) (nI m) = nI v := by
  obtain ⟨u, hu, e⟩ := iur_8 x
  exact ⟨u % m, Nat.mod_lt _ hm, by rw [e, irm_N (by omega) hm hm2]⟩
theorem tieN_sw (N : Nt) {a b : Nat} (on : Bool) (hab : a ≠ b) : tieN N a b on = tieN N b a on := by
  unfold tieN
  congr 3
  funext x
  by_cases h1 : x = a
  · subst h1
    rw [if_pos rfl, if_neg hab, if_pos rfl]
  · by_cases h2 : x = b
    · subst h2
      rw [if_neg h1, if_pos rfl, if_pos rfl]
    · rw [if_neg h1, if_neg h2, if_neg h2, if_neg h1]
theorem nd_no {a b : Nat} (h : a.testBit b = false) : nd a (2 ^ b) = a := by
  apply Nat.eq_of_testBit_eq
  intro i
  rw [nd_bit, Nat.testBit_two_pow]
  by_cases e : b = i
  · subst e; rw [h]; rfl
  · simp [e]
theorem tieN_no {N : Nt} {a b : Nat} (h1 : (n_j N a).testBit b = false) (h2 : (n_j N b).testBit a = false) : tieN N a b false = N := by
  show (n_n N, n_k N, n_f N, fun p => if p = a then (if false = true then n_j N a ||| 2 ^ b else nd (n_j N a) (2 ^ b)) else if p = b then (if false = true then n_j N b ||| 2 ^ a else nd (n_j N b) (2 ^ a)) else n_j N p) = (n_n N, n_k N, n_f N, n_j N)
  congr 3
  funext x
  rw [nd_no h1, nd_no h2]
  by_cases e1 : x = a
  · subst e1; simp
  · by_cases e2 : x = b
    · subst e2; simp [e1]
    · simp [e1, e2]
