/-! lots drawn -/
theorem nI_div {u m : Nat} (hu : u < 2 ^ 31) (hm : 0 < m) (hm2 : m < 2 ^ 31) : nI u / nI m = nI (u / m) := by
  have hd : u / m ≤ u := Nat.div_le_self _ _
  apply Int32.toInt_inj.mp
  rw [Int32.toInt_div, nI_toInt hu, nI_toInt hm2, nI_toInt (by omega), show ((u : Int).tdiv (m : Int)) = ((u / m : Nat) : Int) from rfl]
  generalize u / m = d at hd
  apply Int.bmod_eq_of_le <;> omega
theorem irm_N {u m : Nat} (hu : u < 2 ^ 31) (hm : 0 < m) (hm2 : m < 2 ^ 31) : irm (nI u) (nI m) = nI (u % m) := by
  unfold irm
  have h2 : u / m * m ≤ u := Nat.div_mul_le_self u m
  rw [nI_div hu hm hm2, nI_mul, nI_sub h2]
  congr 1
  have := Nat.div_add_mod u m
  rw [Nat.mul_comm] at this
  omega
theorem iur_8 (x : Int32) : ∃ u, u < 2 ^ 24 ∧ iur x 8 = nI u := by
  refine ⟨x.toUInt32.toNat / 256, ?_, ?_⟩
  · have := x.toUInt32.toNat_lt
    omega
  · unfold iur
    apply Int32.toBitVec_inj.mp
    apply BitVec.eq_of_toNat_eq
    have h8 : (Int32.toUInt32 8 &&& Int32.toUInt32 31) = 8 := by decide +kernel
    rw [h8]
    have := x.toUInt32.toNat_lt
    show (x.toUInt32 >>> 8).toNat = (BitVec.ofNat 32 (x.toUInt32.toNat / 256)).toNat
    rw [UInt32.toNat_shiftRight, BitVec.toNat_ofNat, show ((8 : UInt32).toNat % 32) = 8 from rfl, Nat.shiftRight_eq_div_pow]
    omega
/-- a draw below m -/
theorem draw_N (x : Int32) {m : Nat} (hm : 0 < m) (hm2 : m < 2 ^ 31) : ∃ v, v < m ∧ irm (iur x 8) (nI m) = nI v := by
  obtain ⟨u, hu, e⟩ := iur_8 x
  exact ⟨u % m, Nat.mod_lt _ hm, by rw [e, irm_N (by omega) hm hm2]⟩
