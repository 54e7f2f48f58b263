theorem law_ok (L : Nat) (xs : Nat → Int32) (hL : L ≤ 4096) : ∃ σ' : Sto, L_La_law_18 L xs LF 0 sto0 = some (true, σ') := by
  sorry
