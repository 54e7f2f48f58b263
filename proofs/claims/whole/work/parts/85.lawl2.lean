/-! the law over the calls -/
theorem lc_220 {L : Nat} {xs : Nat → Int32} {k18 : Int32 → Sto → Option (Bool × Sto)} {v3 : Int32} {σ : Sto} (hi : ∀ j, 1 ≤ j → j < 8 → inb (v3 + nI j) L = true) (hs : St σ) : ∃ σ', B_La_law_220 L xs k18 v3 σ = k18 (v3 + 8) σ' ∧ St σ' := by
  have i1 : inb (v3 + 1) L = true := hi 1 (by omega) (by omega)
  have i2 : inb (v3 + 2) L = true := hi 2 (by omega) (by omega)
  have i3 : inb (v3 + 3) L = true := hi 3 (by omega) (by omega)
  have i4 : inb (v3 + 4) L = true := hi 4 (by omega) (by omega)
  have i5 : inb (v3 + 5) L = true := hi 5 (by omega) (by omega)
  have i6 : inb (v3 + 6) L = true := hi 6 (by omega) (by omega)
  have i7 : inb (v3 + 7) L = true := hi 7 (by omega) (by omega)
  obtain ⟨r, σ1, σ2, e1, e2, e3⟩ := op_point (xs (Int32.toNatClampNeg (v3 + (1 : Int32)))) (xs (Int32.toNatClampNeg (v3 + (2 : Int32)))) σ hs
  refine ⟨σ2, ?_, e3⟩
  unfold B_La_law_220
  try simp only [i1, i2, i3, i4, i5, i6, i7, if_true]
  rw [e1, Option.bind_some]
  simp only []
  rw [e2, Option.bind_some]
  simp only [if_true]
  rfl
theorem lc_253 {L : Nat} {xs : Nat → Int32} {k18 : Int32 → Sto → Option (Bool × Sto)} {v3 : Int32} {σ : Sto} (hi : ∀ j, 1 ≤ j → j < 8 → inb (v3 + nI j) L = true) (hs : St σ) : ∃ σ', B_La_law_253 L xs k18 v3 σ = k18 (v3 + 8) σ' ∧ St σ' := by
  have i1 : inb (v3 + 1) L = true := hi 1 (by omega) (by omega)
  have i2 : inb (v3 + 2) L = true := hi 2 (by omega) (by omega)
  have i3 : inb (v3 + 3) L = true := hi 3 (by omega) (by omega)
  have i4 : inb (v3 + 4) L = true := hi 4 (by omega) (by omega)
  have i5 : inb (v3 + 5) L = true := hi 5 (by omega) (by omega)
  have i6 : inb (v3 + 6) L = true := hi 6 (by omega) (by omega)
  have i7 : inb (v3 + 7) L = true := hi 7 (by omega) (by omega)
  obtain ⟨r, σ1, σ2, e1, e2, e3⟩ := op_told (xs (Int32.toNatClampNeg (v3 + (1 : Int32)))) (xs (Int32.toNatClampNeg (v3 + (2 : Int32)))) σ hs
  refine ⟨σ2, ?_, e3⟩
  unfold B_La_law_253
  try simp only [i1, i2, i3, i4, i5, i6, i7, if_true]
  rw [e1, Option.bind_some]
  simp only []
  rw [e2, Option.bind_some]
  simp only [if_true]
  rfl
theorem lc_286 {L : Nat} {xs : Nat → Int32} {k18 : Int32 → Sto → Option (Bool × Sto)} {v3 : Int32} {σ : Sto} (hi : ∀ j, 1 ≤ j → j < 8 → inb (v3 + nI j) L = true) (hs : St σ) : ∃ σ', B_La_law_286 L xs k18 v3 σ = k18 (v3 + 8) σ' ∧ St σ' := by
  have i1 : inb (v3 + 1) L = true := hi 1 (by omega) (by omega)
  have i2 : inb (v3 + 2) L = true := hi 2 (by omega) (by omega)
  have i3 : inb (v3 + 3) L = true := hi 3 (by omega) (by omega)
  have i4 : inb (v3 + 4) L = true := hi 4 (by omega) (by omega)
  have i5 : inb (v3 + 5) L = true := hi 5 (by omega) (by omega)
  have i6 : inb (v3 + 6) L = true := hi 6 (by omega) (by omega)
  have i7 : inb (v3 + 7) L = true := hi 7 (by omega) (by omega)
  obtain ⟨r, σ1, σ2, e1, e2, e3⟩ := op_set (xs (Int32.toNatClampNeg (v3 + (1 : Int32)))) (xs (Int32.toNatClampNeg (v3 + (2 : Int32)))) σ hs
  refine ⟨σ2, ?_, e3⟩
  unfold B_La_law_286
  try simp only [i1, i2, i3, i4, i5, i6, i7, if_true]
  rw [e1, Option.bind_some]
  simp only []
  rw [e2, Option.bind_some]
  simp only [if_true]
  rfl
theorem lc_319 {L : Nat} {xs : Nat → Int32} {k18 : Int32 → Sto → Option (Bool × Sto)} {v3 : Int32} {σ : Sto} (hi : ∀ j, 1 ≤ j → j < 8 → inb (v3 + nI j) L = true) (hs : St σ) : ∃ σ', B_La_law_319 L xs k18 v3 σ = k18 (v3 + 8) σ' ∧ St σ' := by
  have i1 : inb (v3 + 1) L = true := hi 1 (by omega) (by omega)
  have i2 : inb (v3 + 2) L = true := hi 2 (by omega) (by omega)
  have i3 : inb (v3 + 3) L = true := hi 3 (by omega) (by omega)
  have i4 : inb (v3 + 4) L = true := hi 4 (by omega) (by omega)
  have i5 : inb (v3 + 5) L = true := hi 5 (by omega) (by omega)
  have i6 : inb (v3 + 6) L = true := hi 6 (by omega) (by omega)
  have i7 : inb (v3 + 7) L = true := hi 7 (by omega) (by omega)
  obtain ⟨r, σ1, σ2, e1, e2, e3⟩ := op_turns (xs (Int32.toNatClampNeg (v3 + (1 : Int32)))) (xs (Int32.toNatClampNeg (v3 + (2 : Int32)))) σ hs
  refine ⟨σ2, ?_, e3⟩
  unfold B_La_law_319
  try simp only [i1, i2, i3, i4, i5, i6, i7, if_true]
  rw [e1, Option.bind_some]
  simp only []
  rw [e2, Option.bind_some]
  simp only [if_true]
  rfl
theorem lc_352 {L : Nat} {xs : Nat → Int32} {k18 : Int32 → Sto → Option (Bool × Sto)} {v3 : Int32} {σ : Sto} (hi : ∀ j, 1 ≤ j → j < 8 → inb (v3 + nI j) L = true) (hs : St σ) : ∃ σ', B_La_law_352 L xs k18 v3 σ = k18 (v3 + 8) σ' ∧ St σ' := by
  have i1 : inb (v3 + 1) L = true := hi 1 (by omega) (by omega)
  have i2 : inb (v3 + 2) L = true := hi 2 (by omega) (by omega)
  have i3 : inb (v3 + 3) L = true := hi 3 (by omega) (by omega)
  have i4 : inb (v3 + 4) L = true := hi 4 (by omega) (by omega)
  have i5 : inb (v3 + 5) L = true := hi 5 (by omega) (by omega)
  have i6 : inb (v3 + 6) L = true := hi 6 (by omega) (by omega)
  have i7 : inb (v3 + 7) L = true := hi 7 (by omega) (by omega)
  obtain ⟨r, σ1, σ2, e1, e2, e3⟩ := op_join (xs (Int32.toNatClampNeg (v3 + (1 : Int32)))) (xs (Int32.toNatClampNeg (v3 + (2 : Int32)))) (xs (Int32.toNatClampNeg (v3 + (3 : Int32)))) σ hs
  refine ⟨σ2, ?_, e3⟩
  unfold B_La_law_352
  try simp only [i1, i2, i3, i4, i5, i6, i7, if_true]
  rw [e1, Option.bind_some]
  simp only []
  rw [e2, Option.bind_some]
  simp only [if_true]
  rfl
theorem lc_395 {L : Nat} {xs : Nat → Int32} {k18 : Int32 → Sto → Option (Bool × Sto)} {v3 : Int32} {σ : Sto} (hi : ∀ j, 1 ≤ j → j < 8 → inb (v3 + nI j) L = true) (hs : St σ) : ∃ σ', B_La_law_395 L xs k18 v3 σ = k18 (v3 + 8) σ' ∧ St σ' := by
  have i1 : inb (v3 + 1) L = true := hi 1 (by omega) (by omega)
  have i2 : inb (v3 + 2) L = true := hi 2 (by omega) (by omega)
  have i3 : inb (v3 + 3) L = true := hi 3 (by omega) (by omega)
  have i4 : inb (v3 + 4) L = true := hi 4 (by omega) (by omega)
  have i5 : inb (v3 + 5) L = true := hi 5 (by omega) (by omega)
  have i6 : inb (v3 + 6) L = true := hi 6 (by omega) (by omega)
  have i7 : inb (v3 + 7) L = true := hi 7 (by omega) (by omega)
  obtain ⟨r, σ1, σ2, e1, e2, e3⟩ := op_mesh ((lsh (Int32.toInt64 (xs (Int32.toNatClampNeg (v3 + (1 : Int32))))) (32 : Int32)) ||| ((Int32.toInt64 (xs (Int32.toNatClampNeg (v3 + (2 : Int32))))) &&& (4294967295 : Int64))) (xs (Int32.toNatClampNeg (v3 + (3 : Int32)))) σ hs
  refine ⟨σ2, ?_, e3⟩
  unfold B_La_law_395
  try simp only [i1, i2, i3, i4, i5, i6, i7, if_true]
  rw [e1, Option.bind_some]
  simp only []
  rw [e2, Option.bind_some]
  simp only [if_true]
  rfl
theorem lc_458 {L : Nat} {xs : Nat → Int32} {k18 : Int32 → Sto → Option (Bool × Sto)} {v3 : Int32} {σ : Sto} (hi : ∀ j, 1 ≤ j → j < 8 → inb (v3 + nI j) L = true) (hs : St σ) : ∃ σ', B_La_law_458 L xs k18 v3 σ = k18 (v3 + 8) σ' ∧ St σ' := by
  have i1 : inb (v3 + 1) L = true := hi 1 (by omega) (by omega)
  have i2 : inb (v3 + 2) L = true := hi 2 (by omega) (by omega)
  have i3 : inb (v3 + 3) L = true := hi 3 (by omega) (by omega)
  have i4 : inb (v3 + 4) L = true := hi 4 (by omega) (by omega)
  have i5 : inb (v3 + 5) L = true := hi 5 (by omega) (by omega)
  have i6 : inb (v3 + 6) L = true := hi 6 (by omega) (by omega)
  have i7 : inb (v3 + 7) L = true := hi 7 (by omega) (by omega)
  obtain ⟨r, σ1, σ2, e1, e2, e3⟩ := op_near (xs (Int32.toNatClampNeg (v3 + (1 : Int32)))) (xs (Int32.toNatClampNeg (v3 + (2 : Int32)))) ((lsh (Int32.toInt64 (xs (Int32.toNatClampNeg (v3 + (3 : Int32))))) (32 : Int32)) ||| ((Int32.toInt64 (xs (Int32.toNatClampNeg (v3 + (4 : Int32))))) &&& (4294967295 : Int64))) σ hs
  refine ⟨σ2, ?_, e3⟩
  unfold B_La_law_458
  try simp only [i1, i2, i3, i4, i5, i6, i7, if_true]
  rw [e1, Option.bind_some]
  simp only []
  rw [e2, Option.bind_some]
  simp only [if_true]
  rfl
theorem lc_532 {L : Nat} {xs : Nat → Int32} {k18 : Int32 → Sto → Option (Bool × Sto)} {v3 : Int32} {σ : Sto} (hi : ∀ j, 1 ≤ j → j < 8 → inb (v3 + nI j) L = true) (hs : St σ) : ∃ σ', B_La_law_532 L xs k18 v3 σ = k18 (v3 + 8) σ' ∧ St σ' := by
  have i1 : inb (v3 + 1) L = true := hi 1 (by omega) (by omega)
  have i2 : inb (v3 + 2) L = true := hi 2 (by omega) (by omega)
  have i3 : inb (v3 + 3) L = true := hi 3 (by omega) (by omega)
  have i4 : inb (v3 + 4) L = true := hi 4 (by omega) (by omega)
  have i5 : inb (v3 + 5) L = true := hi 5 (by omega) (by omega)
  have i6 : inb (v3 + 6) L = true := hi 6 (by omega) (by omega)
  have i7 : inb (v3 + 7) L = true := hi 7 (by omega) (by omega)
  obtain ⟨r, σ1, σ2, e1, e2, e3⟩ := op_measure (xs (Int32.toNatClampNeg (v3 + (1 : Int32)))) ((lsh (Int32.toInt64 (xs (Int32.toNatClampNeg (v3 + (2 : Int32))))) (32 : Int32)) ||| ((Int32.toInt64 (xs (Int32.toNatClampNeg (v3 + (3 : Int32))))) &&& (4294967295 : Int64))) σ hs
  refine ⟨σ2, ?_, e3⟩
  unfold B_La_law_532
  try simp only [i1, i2, i3, i4, i5, i6, i7, if_true]
  rw [e1, Option.bind_some]
  simp only []
  rw [e2, Option.bind_some]
  simp only [if_true]
  rfl
theorem lc_595 {L : Nat} {xs : Nat → Int32} {k18 : Int32 → Sto → Option (Bool × Sto)} {v3 : Int32} {σ : Sto} (hi : ∀ j, 1 ≤ j → j < 8 → inb (v3 + nI j) L = true) (hs : St σ) : ∃ σ', B_La_law_595 L xs k18 v3 σ = k18 (v3 + 8) σ' ∧ St σ' := by
  have i1 : inb (v3 + 1) L = true := hi 1 (by omega) (by omega)
  have i2 : inb (v3 + 2) L = true := hi 2 (by omega) (by omega)
  have i3 : inb (v3 + 3) L = true := hi 3 (by omega) (by omega)
  have i4 : inb (v3 + 4) L = true := hi 4 (by omega) (by omega)
  have i5 : inb (v3 + 5) L = true := hi 5 (by omega) (by omega)
  have i6 : inb (v3 + 6) L = true := hi 6 (by omega) (by omega)
  have i7 : inb (v3 + 7) L = true := hi 7 (by omega) (by omega)
  obtain ⟨r, σ1, σ2, e1, e2, e3⟩ := op_isRing (xs (Int32.toNatClampNeg (v3 + (1 : Int32)))) ((lsh (Int32.toInt64 (xs (Int32.toNatClampNeg (v3 + (2 : Int32))))) (32 : Int32)) ||| ((Int32.toInt64 (xs (Int32.toNatClampNeg (v3 + (3 : Int32))))) &&& (4294967295 : Int64))) σ hs
  refine ⟨σ2, ?_, e3⟩
  unfold B_La_law_595
  try simp only [i1, i2, i3, i4, i5, i6, i7, if_true]
  rw [e1, Option.bind_some]
  simp only []
  rw [e2, Option.bind_some]
  simp only [if_true]
  rfl
theorem lc_658 {L : Nat} {xs : Nat → Int32} {k18 : Int32 → Sto → Option (Bool × Sto)} {v3 : Int32} {σ : Sto} (hi : ∀ j, 1 ≤ j → j < 8 → inb (v3 + nI j) L = true) (hs : St σ) : ∃ σ', B_La_law_658 L xs k18 v3 σ = k18 (v3 + 8) σ' ∧ St σ' := by
  have i1 : inb (v3 + 1) L = true := hi 1 (by omega) (by omega)
  have i2 : inb (v3 + 2) L = true := hi 2 (by omega) (by omega)
  have i3 : inb (v3 + 3) L = true := hi 3 (by omega) (by omega)
  have i4 : inb (v3 + 4) L = true := hi 4 (by omega) (by omega)
  have i5 : inb (v3 + 5) L = true := hi 5 (by omega) (by omega)
  have i6 : inb (v3 + 6) L = true := hi 6 (by omega) (by omega)
  have i7 : inb (v3 + 7) L = true := hi 7 (by omega) (by omega)
  obtain ⟨r, σ1, σ2, e1, e2, e3⟩ := op_order (xs (Int32.toNatClampNeg (v3 + (1 : Int32)))) ((lsh (Int32.toInt64 (xs (Int32.toNatClampNeg (v3 + (2 : Int32))))) (32 : Int32)) ||| ((Int32.toInt64 (xs (Int32.toNatClampNeg (v3 + (3 : Int32))))) &&& (4294967295 : Int64))) (xs (Int32.toNatClampNeg (v3 + (4 : Int32)))) σ hs
  refine ⟨σ2, ?_, e3⟩
  unfold B_La_law_658
  try simp only [i1, i2, i3, i4, i5, i6, i7, if_true]
  rw [e1, Option.bind_some]
  simp only []
  rw [e2, Option.bind_some]
  simp only [if_true]
  rfl
theorem lc_731 {L : Nat} {xs : Nat → Int32} {k18 : Int32 → Sto → Option (Bool × Sto)} {v3 : Int32} {σ : Sto} (hi : ∀ j, 1 ≤ j → j < 8 → inb (v3 + nI j) L = true) (hs : St σ) : ∃ σ', B_La_law_731 L xs k18 v3 σ = k18 (v3 + 8) σ' ∧ St σ' := by
  have i1 : inb (v3 + 1) L = true := hi 1 (by omega) (by omega)
  have i2 : inb (v3 + 2) L = true := hi 2 (by omega) (by omega)
  have i3 : inb (v3 + 3) L = true := hi 3 (by omega) (by omega)
  have i4 : inb (v3 + 4) L = true := hi 4 (by omega) (by omega)
  have i5 : inb (v3 + 5) L = true := hi 5 (by omega) (by omega)
  have i6 : inb (v3 + 6) L = true := hi 6 (by omega) (by omega)
  have i7 : inb (v3 + 7) L = true := hi 7 (by omega) (by omega)
  obtain ⟨r, σ1, σ2, e1, e2, e3⟩ := op_classes (xs (Int32.toNatClampNeg (v3 + (1 : Int32)))) ((lsh (Int32.toInt64 (xs (Int32.toNatClampNeg (v3 + (2 : Int32))))) (32 : Int32)) ||| ((Int32.toInt64 (xs (Int32.toNatClampNeg (v3 + (3 : Int32))))) &&& (4294967295 : Int64))) (xs (Int32.toNatClampNeg (v3 + (4 : Int32)))) σ hs
  refine ⟨σ2, ?_, e3⟩
  unfold B_La_law_731
  try simp only [i1, i2, i3, i4, i5, i6, i7, if_true]
  rw [e1, Option.bind_some]
  simp only []
  rw [e2, Option.bind_some]
  simp only [if_true]
  rfl
theorem lc_805 {L : Nat} {xs : Nat → Int32} {k18 : Int32 → Sto → Option (Bool × Sto)} {v3 : Int32} {σ : Sto} (hi : ∀ j, 1 ≤ j → j < 8 → inb (v3 + nI j) L = true) (hs : St σ) : ∃ σ', B_La_law_805 L xs k18 v3 σ = k18 (v3 + 8) σ' ∧ St σ' := by
  have i1 : inb (v3 + 1) L = true := hi 1 (by omega) (by omega)
  have i2 : inb (v3 + 2) L = true := hi 2 (by omega) (by omega)
  have i3 : inb (v3 + 3) L = true := hi 3 (by omega) (by omega)
  have i4 : inb (v3 + 4) L = true := hi 4 (by omega) (by omega)
  have i5 : inb (v3 + 5) L = true := hi 5 (by omega) (by omega)
  have i6 : inb (v3 + 6) L = true := hi 6 (by omega) (by omega)
  have i7 : inb (v3 + 7) L = true := hi 7 (by omega) (by omega)
  obtain ⟨r, σ1, σ2, e1, e2, e3⟩ := op_taken (xs (Int32.toNatClampNeg (v3 + (1 : Int32)))) ((lsh (Int32.toInt64 (xs (Int32.toNatClampNeg (v3 + (2 : Int32))))) (32 : Int32)) ||| ((Int32.toInt64 (xs (Int32.toNatClampNeg (v3 + (3 : Int32))))) &&& (4294967295 : Int64))) σ hs
  refine ⟨σ2, ?_, e3⟩
  unfold B_La_law_805
  try simp only [i1, i2, i3, i4, i5, i6, i7, if_true]
  rw [e1, Option.bind_some]
  simp only []
  rw [e2, Option.bind_some]
  simp only [if_true]
  rfl
theorem lc_869 {L : Nat} {xs : Nat → Int32} {k18 : Int32 → Sto → Option (Bool × Sto)} {v3 : Int32} {σ : Sto} (hi : ∀ j, 1 ≤ j → j < 8 → inb (v3 + nI j) L = true) (hs : St σ) : ∃ σ', B_La_law_869 L xs k18 v3 σ = k18 (v3 + 8) σ' ∧ St σ' := by
  have i1 : inb (v3 + 1) L = true := hi 1 (by omega) (by omega)
  have i2 : inb (v3 + 2) L = true := hi 2 (by omega) (by omega)
  have i3 : inb (v3 + 3) L = true := hi 3 (by omega) (by omega)
  have i4 : inb (v3 + 4) L = true := hi 4 (by omega) (by omega)
  have i5 : inb (v3 + 5) L = true := hi 5 (by omega) (by omega)
  have i6 : inb (v3 + 6) L = true := hi 6 (by omega) (by omega)
  have i7 : inb (v3 + 7) L = true := hi 7 (by omega) (by omega)
  obtain ⟨r, σ1, σ2, e1, e2, e3⟩ := op_left (xs (Int32.toNatClampNeg (v3 + (1 : Int32)))) (xs (Int32.toNatClampNeg (v3 + (2 : Int32)))) ((lsh (Int32.toInt64 (xs (Int32.toNatClampNeg (v3 + (3 : Int32))))) (32 : Int32)) ||| ((Int32.toInt64 (xs (Int32.toNatClampNeg (v3 + (4 : Int32))))) &&& (4294967295 : Int64))) σ hs
  refine ⟨σ2, ?_, e3⟩
  unfold B_La_law_869
  try simp only [i1, i2, i3, i4, i5, i6, i7, if_true]
  rw [e1, Option.bind_some]
  simp only []
  rw [e2, Option.bind_some]
  simp only [if_true]
  rfl
theorem lc_943 {L : Nat} {xs : Nat → Int32} {k18 : Int32 → Sto → Option (Bool × Sto)} {v3 : Int32} {σ : Sto} (hi : ∀ j, 1 ≤ j → j < 8 → inb (v3 + nI j) L = true) (hs : St σ) : ∃ σ', B_La_law_943 L xs k18 v3 σ = k18 (v3 + 8) σ' ∧ St σ' := by
  have i1 : inb (v3 + 1) L = true := hi 1 (by omega) (by omega)
  have i2 : inb (v3 + 2) L = true := hi 2 (by omega) (by omega)
  have i3 : inb (v3 + 3) L = true := hi 3 (by omega) (by omega)
  have i4 : inb (v3 + 4) L = true := hi 4 (by omega) (by omega)
  have i5 : inb (v3 + 5) L = true := hi 5 (by omega) (by omega)
  have i6 : inb (v3 + 6) L = true := hi 6 (by omega) (by omega)
  have i7 : inb (v3 + 7) L = true := hi 7 (by omega) (by omega)
  obtain ⟨r, σ1, σ2, e1, e2, e3⟩ := op_bound (xs (Int32.toNatClampNeg (v3 + (1 : Int32)))) (xs (Int32.toNatClampNeg (v3 + (2 : Int32)))) (xs (Int32.toNatClampNeg (v3 + (3 : Int32)))) ((lsh (Int32.toInt64 (xs (Int32.toNatClampNeg (v3 + (4 : Int32))))) (32 : Int32)) ||| ((Int32.toInt64 (xs (Int32.toNatClampNeg (v3 + (5 : Int32))))) &&& (4294967295 : Int64))) σ hs
  refine ⟨σ2, ?_, e3⟩
  unfold B_La_law_943
  try simp only [i1, i2, i3, i4, i5, i6, i7, if_true]
  rw [e1, Option.bind_some]
  simp only []
  rw [e2, Option.bind_some]
  simp only [if_true]
  rfl
theorem lc_1026 {L : Nat} {xs : Nat → Int32} {k18 : Int32 → Sto → Option (Bool × Sto)} {v3 : Int32} {σ : Sto} (hi : ∀ j, 1 ≤ j → j < 8 → inb (v3 + nI j) L = true) (hs : St σ) : ∃ σ', B_La_law_1026 L xs k18 v3 σ = k18 (v3 + 8) σ' ∧ St σ' := by
  have i1 : inb (v3 + 1) L = true := hi 1 (by omega) (by omega)
  have i2 : inb (v3 + 2) L = true := hi 2 (by omega) (by omega)
  have i3 : inb (v3 + 3) L = true := hi 3 (by omega) (by omega)
  have i4 : inb (v3 + 4) L = true := hi 4 (by omega) (by omega)
  have i5 : inb (v3 + 5) L = true := hi 5 (by omega) (by omega)
  have i6 : inb (v3 + 6) L = true := hi 6 (by omega) (by omega)
  have i7 : inb (v3 + 7) L = true := hi 7 (by omega) (by omega)
  obtain ⟨r, σ1, σ2, e1, e2, e3⟩ := op_core (xs (Int32.toNatClampNeg (v3 + (1 : Int32)))) (xs (Int32.toNatClampNeg (v3 + (2 : Int32)))) ((lsh (Int32.toInt64 (xs (Int32.toNatClampNeg (v3 + (3 : Int32))))) (32 : Int32)) ||| ((Int32.toInt64 (xs (Int32.toNatClampNeg (v3 + (4 : Int32))))) &&& (4294967295 : Int64))) σ hs
  refine ⟨σ2, ?_, e3⟩
  unfold B_La_law_1026
  try simp only [i1, i2, i3, i4, i5, i6, i7, if_true]
  rw [e1, Option.bind_some]
  simp only []
  rw [e2, Option.bind_some]
  simp only [if_true]
  rfl
theorem lc_1100 {L : Nat} {xs : Nat → Int32} {k18 : Int32 → Sto → Option (Bool × Sto)} {v3 : Int32} {σ : Sto} (hi : ∀ j, 1 ≤ j → j < 8 → inb (v3 + nI j) L = true) (hs : St σ) : ∃ σ', B_La_law_1100 L xs k18 v3 σ = k18 (v3 + 8) σ' ∧ St σ' := by
  have i1 : inb (v3 + 1) L = true := hi 1 (by omega) (by omega)
  have i2 : inb (v3 + 2) L = true := hi 2 (by omega) (by omega)
  have i3 : inb (v3 + 3) L = true := hi 3 (by omega) (by omega)
  have i4 : inb (v3 + 4) L = true := hi 4 (by omega) (by omega)
  have i5 : inb (v3 + 5) L = true := hi 5 (by omega) (by omega)
  have i6 : inb (v3 + 6) L = true := hi 6 (by omega) (by omega)
  have i7 : inb (v3 + 7) L = true := hi 7 (by omega) (by omega)
  obtain ⟨r, σ1, σ2, e1, e2, e3⟩ := op_greatest (xs (Int32.toNatClampNeg (v3 + (1 : Int32)))) (xs (Int32.toNatClampNeg (v3 + (2 : Int32)))) ((lsh (Int32.toInt64 (xs (Int32.toNatClampNeg (v3 + (3 : Int32))))) (32 : Int32)) ||| ((Int32.toInt64 (xs (Int32.toNatClampNeg (v3 + (4 : Int32))))) &&& (4294967295 : Int64))) σ hs
  refine ⟨σ2, ?_, e3⟩
  unfold B_La_law_1100
  try simp only [i1, i2, i3, i4, i5, i6, i7, if_true]
  rw [e1, Option.bind_some]
  simp only []
  rw [e2, Option.bind_some]
  simp only [if_true]
  rfl
theorem lc_1174 {L : Nat} {xs : Nat → Int32} {k18 : Int32 → Sto → Option (Bool × Sto)} {v3 : Int32} {σ : Sto} (hi : ∀ j, 1 ≤ j → j < 8 → inb (v3 + nI j) L = true) (hs : St σ) : ∃ σ', B_La_law_1174 L xs k18 v3 σ = k18 (v3 + 8) σ' ∧ St σ' := by
  have i1 : inb (v3 + 1) L = true := hi 1 (by omega) (by omega)
  have i2 : inb (v3 + 2) L = true := hi 2 (by omega) (by omega)
  have i3 : inb (v3 + 3) L = true := hi 3 (by omega) (by omega)
  have i4 : inb (v3 + 4) L = true := hi 4 (by omega) (by omega)
  have i5 : inb (v3 + 5) L = true := hi 5 (by omega) (by omega)
  have i6 : inb (v3 + 6) L = true := hi 6 (by omega) (by omega)
  have i7 : inb (v3 + 7) L = true := hi 7 (by omega) (by omega)
  obtain ⟨r, σ1, σ2, e1, e2, e3⟩ := op_grown (xs (Int32.toNatClampNeg (v3 + (1 : Int32)))) ((lsh (Int32.toInt64 (xs (Int32.toNatClampNeg (v3 + (2 : Int32))))) (32 : Int32)) ||| ((Int32.toInt64 (xs (Int32.toNatClampNeg (v3 + (3 : Int32))))) &&& (4294967295 : Int64))) (xs (Int32.toNatClampNeg (v3 + (4 : Int32)))) σ hs
  refine ⟨σ2, ?_, e3⟩
  unfold B_La_law_1174
  try simp only [i1, i2, i3, i4, i5, i6, i7, if_true]
  rw [e1, Option.bind_some]
  simp only []
  rw [e2, Option.bind_some]
  simp only [if_true]
  rfl
theorem lc_1248 {L : Nat} {xs : Nat → Int32} {k18 : Int32 → Sto → Option (Bool × Sto)} {v3 : Int32} {σ : Sto} (hi : ∀ j, 1 ≤ j → j < 8 → inb (v3 + nI j) L = true) (hs : St σ) : ∃ σ', B_La_law_1248 L xs k18 v3 σ = k18 (v3 + 8) σ' ∧ St σ' := by
  have i1 : inb (v3 + 1) L = true := hi 1 (by omega) (by omega)
  have i2 : inb (v3 + 2) L = true := hi 2 (by omega) (by omega)
  have i3 : inb (v3 + 3) L = true := hi 3 (by omega) (by omega)
  have i4 : inb (v3 + 4) L = true := hi 4 (by omega) (by omega)
  have i5 : inb (v3 + 5) L = true := hi 5 (by omega) (by omega)
  have i6 : inb (v3 + 6) L = true := hi 6 (by omega) (by omega)
  have i7 : inb (v3 + 7) L = true := hi 7 (by omega) (by omega)
  obtain ⟨r, σ1, σ2, e1, e2, e3⟩ := op_all (xs (Int32.toNatClampNeg (v3 + (1 : Int32)))) (xs (Int32.toNatClampNeg (v3 + (2 : Int32)))) ((lsh (Int32.toInt64 (xs (Int32.toNatClampNeg (v3 + (3 : Int32))))) (32 : Int32)) ||| ((Int32.toInt64 (xs (Int32.toNatClampNeg (v3 + (4 : Int32))))) &&& (4294967295 : Int64))) (xs (Int32.toNatClampNeg (v3 + (5 : Int32)))) σ hs
  refine ⟨σ2, ?_, e3⟩
  unfold B_La_law_1248
  try simp only [i1, i2, i3, i4, i5, i6, i7, if_true]
  rw [e1, Option.bind_some]
  simp only []
  rw [e2, Option.bind_some]
  simp only [if_true]
  rfl
theorem lc_1332 {L : Nat} {xs : Nat → Int32} {k18 : Int32 → Sto → Option (Bool × Sto)} {v3 : Int32} {σ : Sto} (hi : ∀ j, 1 ≤ j → j < 8 → inb (v3 + nI j) L = true) (hs : St σ) : ∃ σ', B_La_law_1332 L xs k18 v3 σ = k18 (v3 + 8) σ' ∧ St σ' := by
  have i1 : inb (v3 + 1) L = true := hi 1 (by omega) (by omega)
  have i2 : inb (v3 + 2) L = true := hi 2 (by omega) (by omega)
  have i3 : inb (v3 + 3) L = true := hi 3 (by omega) (by omega)
  have i4 : inb (v3 + 4) L = true := hi 4 (by omega) (by omega)
  have i5 : inb (v3 + 5) L = true := hi 5 (by omega) (by omega)
  have i6 : inb (v3 + 6) L = true := hi 6 (by omega) (by omega)
  have i7 : inb (v3 + 7) L = true := hi 7 (by omega) (by omega)
  obtain ⟨r, σ1, σ2, e1, e2, e3⟩ := op_turning (xs (Int32.toNatClampNeg (v3 + (1 : Int32)))) (xs (Int32.toNatClampNeg (v3 + (2 : Int32)))) ((lsh (Int32.toInt64 (xs (Int32.toNatClampNeg (v3 + (3 : Int32))))) (32 : Int32)) ||| ((Int32.toInt64 (xs (Int32.toNatClampNeg (v3 + (4 : Int32))))) &&& (4294967295 : Int64))) (xs (Int32.toNatClampNeg (v3 + (5 : Int32)))) σ hs
  refine ⟨σ2, ?_, e3⟩
  unfold B_La_law_1332
  try simp only [i1, i2, i3, i4, i5, i6, i7, if_true]
  rw [e1, Option.bind_some]
  simp only []
  rw [e2, Option.bind_some]
  simp only [if_true]
  rfl
theorem lc_1415 {L : Nat} {xs : Nat → Int32} {k18 : Int32 → Sto → Option (Bool × Sto)} {v3 : Int32} {σ : Sto} (hi : ∀ j, 1 ≤ j → j < 8 → inb (v3 + nI j) L = true) (hs : St σ) : ∃ σ', B_La_law_1415 L xs k18 v3 σ = k18 (v3 + 8) σ' ∧ St σ' := by
  have i1 : inb (v3 + 1) L = true := hi 1 (by omega) (by omega)
  have i2 : inb (v3 + 2) L = true := hi 2 (by omega) (by omega)
  have i3 : inb (v3 + 3) L = true := hi 3 (by omega) (by omega)
  have i4 : inb (v3 + 4) L = true := hi 4 (by omega) (by omega)
  have i5 : inb (v3 + 5) L = true := hi 5 (by omega) (by omega)
  have i6 : inb (v3 + 6) L = true := hi 6 (by omega) (by omega)
  have i7 : inb (v3 + 7) L = true := hi 7 (by omega) (by omega)
  obtain ⟨r, σ1, σ2, e1, e2, e3⟩ := op_fewest (xs (Int32.toNatClampNeg (v3 + (1 : Int32)))) ((lsh (Int32.toInt64 (xs (Int32.toNatClampNeg (v3 + (2 : Int32))))) (32 : Int32)) ||| ((Int32.toInt64 (xs (Int32.toNatClampNeg (v3 + (3 : Int32))))) &&& (4294967295 : Int64))) σ hs
  refine ⟨σ2, ?_, e3⟩
  unfold B_La_law_1415
  try simp only [i1, i2, i3, i4, i5, i6, i7, if_true]
  rw [e1, Option.bind_some]
  simp only []
  rw [e2, Option.bind_some]
  simp only [if_true]
  rfl
theorem lc_1478 {L : Nat} {xs : Nat → Int32} {k18 : Int32 → Sto → Option (Bool × Sto)} {v3 : Int32} {σ : Sto} (hi : ∀ j, 1 ≤ j → j < 8 → inb (v3 + nI j) L = true) (hs : St σ) : ∃ σ', B_La_law_1478 L xs k18 v3 σ = k18 (v3 + 8) σ' ∧ St σ' := by
  have i1 : inb (v3 + 1) L = true := hi 1 (by omega) (by omega)
  have i2 : inb (v3 + 2) L = true := hi 2 (by omega) (by omega)
  have i3 : inb (v3 + 3) L = true := hi 3 (by omega) (by omega)
  have i4 : inb (v3 + 4) L = true := hi 4 (by omega) (by omega)
  have i5 : inb (v3 + 5) L = true := hi 5 (by omega) (by omega)
  have i6 : inb (v3 + 6) L = true := hi 6 (by omega) (by omega)
  have i7 : inb (v3 + 7) L = true := hi 7 (by omega) (by omega)
  obtain ⟨r, σ1, σ2, e1, e2, e3⟩ := op_better (xs (Int32.toNatClampNeg (v3 + (1 : Int32)))) ((lsh (Int32.toInt64 (xs (Int32.toNatClampNeg (v3 + (2 : Int32))))) (32 : Int32)) ||| ((Int32.toInt64 (xs (Int32.toNatClampNeg (v3 + (3 : Int32))))) &&& (4294967295 : Int64))) ((lsh (Int32.toInt64 (xs (Int32.toNatClampNeg (v3 + (4 : Int32))))) (32 : Int32)) ||| ((Int32.toInt64 (xs (Int32.toNatClampNeg (v3 + (5 : Int32))))) &&& (4294967295 : Int64))) σ hs
  refine ⟨σ2, ?_, e3⟩
  unfold B_La_law_1478
  try simp only [i1, i2, i3, i4, i5, i6, i7, if_true]
  rw [e1, Option.bind_some]
  simp only []
  rw [e2, Option.bind_some]
  simp only [if_true]
  rfl
theorem lc_1582 {L : Nat} {xs : Nat → Int32} {k18 : Int32 → Sto → Option (Bool × Sto)} {v3 : Int32} {σ : Sto} (hi : ∀ j, 1 ≤ j → j < 8 → inb (v3 + nI j) L = true) (hs : St σ) : ∃ σ', B_La_law_1582 L xs k18 v3 σ = k18 (v3 + 8) σ' ∧ St σ' := by
  have i1 : inb (v3 + 1) L = true := hi 1 (by omega) (by omega)
  have i2 : inb (v3 + 2) L = true := hi 2 (by omega) (by omega)
  have i3 : inb (v3 + 3) L = true := hi 3 (by omega) (by omega)
  have i4 : inb (v3 + 4) L = true := hi 4 (by omega) (by omega)
  have i5 : inb (v3 + 5) L = true := hi 5 (by omega) (by omega)
  have i6 : inb (v3 + 6) L = true := hi 6 (by omega) (by omega)
  have i7 : inb (v3 + 7) L = true := hi 7 (by omega) (by omega)
  obtain ⟨r, σ1, σ2, e1, e2, e3⟩ := op_prove (xs (Int32.toNatClampNeg (v3 + (1 : Int32)))) (xs (Int32.toNatClampNeg (v3 + (2 : Int32)))) (xs (Int32.toNatClampNeg (v3 + (3 : Int32)))) (xs (Int32.toNatClampNeg (v3 + (4 : Int32)))) ((lsh (Int32.toInt64 (xs (Int32.toNatClampNeg (v3 + (5 : Int32))))) (32 : Int32)) ||| ((Int32.toInt64 (xs (Int32.toNatClampNeg (v3 + (6 : Int32))))) &&& (4294967295 : Int64))) σ hs
  refine ⟨σ2, ?_, e3⟩
  unfold B_La_law_1582
  try simp only [i1, i2, i3, i4, i5, i6, i7, if_true]
  rw [e1, Option.bind_some]
  simp only []
  rw [e2, Option.bind_some]
  simp only [if_true]
  rfl
theorem lc_1677 {L : Nat} {xs : Nat → Int32} {k18 : Int32 → Sto → Option (Bool × Sto)} {v3 : Int32} {σ : Sto} (hi : ∀ j, 1 ≤ j → j < 8 → inb (v3 + nI j) L = true) (hs : St σ) : ∃ σ', B_La_law_1677 L xs k18 v3 σ = k18 (v3 + 8) σ' ∧ St σ' := by
  have i1 : inb (v3 + 1) L = true := hi 1 (by omega) (by omega)
  have i2 : inb (v3 + 2) L = true := hi 2 (by omega) (by omega)
  have i3 : inb (v3 + 3) L = true := hi 3 (by omega) (by omega)
  have i4 : inb (v3 + 4) L = true := hi 4 (by omega) (by omega)
  have i5 : inb (v3 + 5) L = true := hi 5 (by omega) (by omega)
  have i6 : inb (v3 + 6) L = true := hi 6 (by omega) (by omega)
  have i7 : inb (v3 + 7) L = true := hi 7 (by omega) (by omega)
  obtain ⟨r, σ1, σ2, e1, e2, e3⟩ := op_proof (xs (Int32.toNatClampNeg (v3 + (1 : Int32)))) σ hs
  refine ⟨σ2, ?_, e3⟩
  unfold B_La_law_1677
  try simp only [i1, i2, i3, i4, i5, i6, i7, if_true]
  rw [e1, Option.bind_some]
  simp only []
  rw [e2, Option.bind_some]
  simp only [if_true]
  rfl
theorem lc_1700 {L : Nat} {xs : Nat → Int32} {k18 : Int32 → Sto → Option (Bool × Sto)} {v3 : Int32} {σ : Sto} (hi : ∀ j, 1 ≤ j → j < 8 → inb (v3 + nI j) L = true) (hs : St σ) : ∃ σ', B_La_law_1700 L xs k18 v3 σ = k18 (v3 + 8) σ' ∧ St σ' := by
  have i1 : inb (v3 + 1) L = true := hi 1 (by omega) (by omega)
  have i2 : inb (v3 + 2) L = true := hi 2 (by omega) (by omega)
  have i3 : inb (v3 + 3) L = true := hi 3 (by omega) (by omega)
  have i4 : inb (v3 + 4) L = true := hi 4 (by omega) (by omega)
  have i5 : inb (v3 + 5) L = true := hi 5 (by omega) (by omega)
  have i6 : inb (v3 + 6) L = true := hi 6 (by omega) (by omega)
  have i7 : inb (v3 + 7) L = true := hi 7 (by omega) (by omega)
  obtain ⟨r, σ1, σ2, e1, e2, e3⟩ := op_check (xs (Int32.toNatClampNeg (v3 + (1 : Int32)))) (xs (Int32.toNatClampNeg (v3 + (2 : Int32)))) (xs (Int32.toNatClampNeg (v3 + (3 : Int32)))) (xs (Int32.toNatClampNeg (v3 + (4 : Int32)))) (xs (Int32.toNatClampNeg (v3 + (5 : Int32)))) ((lsh (Int32.toInt64 (xs (Int32.toNatClampNeg (v3 + (6 : Int32))))) (32 : Int32)) ||| ((Int32.toInt64 (xs (Int32.toNatClampNeg (v3 + (7 : Int32))))) &&& (4294967295 : Int64))) σ hs
  refine ⟨σ2, ?_, e3⟩
  unfold B_La_law_1700
  try simp only [i1, i2, i3, i4, i5, i6, i7, if_true]
  rw [e1, Option.bind_some]
  simp only []
  rw [e2, Option.bind_some]
  simp only [if_true]
  rfl
theorem lc_1807 {L : Nat} {xs : Nat → Int32} {k18 : Int32 → Sto → Option (Bool × Sto)} {v3 : Int32} {σ : Sto} (hi : ∀ j, 1 ≤ j → j < 8 → inb (v3 + nI j) L = true) (hs : St σ) : ∃ σ', B_La_law_1807 L xs k18 v3 σ = k18 (v3 + 8) σ' ∧ St σ' := by
  have i1 : inb (v3 + 1) L = true := hi 1 (by omega) (by omega)
  have i2 : inb (v3 + 2) L = true := hi 2 (by omega) (by omega)
  have i3 : inb (v3 + 3) L = true := hi 3 (by omega) (by omega)
  have i4 : inb (v3 + 4) L = true := hi 4 (by omega) (by omega)
  have i5 : inb (v3 + 5) L = true := hi 5 (by omega) (by omega)
  have i6 : inb (v3 + 6) L = true := hi 6 (by omega) (by omega)
  have i7 : inb (v3 + 7) L = true := hi 7 (by omega) (by omega)
  obtain ⟨r, σ1, σ2, e1, e2, e3⟩ := op_writes (xs (Int32.toNatClampNeg (v3 + (1 : Int32)))) σ hs
  refine ⟨σ2, ?_, e3⟩
  unfold B_La_law_1807
  try simp only [i1, i2, i3, i4, i5, i6, i7, if_true]
  rw [e1, Option.bind_some]
  simp only []
  rw [e2, Option.bind_some]
  simp only [if_true]
  rfl
theorem lc_1830 {L : Nat} {xs : Nat → Int32} {k18 : Int32 → Sto → Option (Bool × Sto)} {v3 : Int32} {σ : Sto} (hi : ∀ j, 1 ≤ j → j < 8 → inb (v3 + nI j) L = true) (hs : St σ) : ∃ σ', B_La_law_1830 L xs k18 v3 σ = k18 (v3 + 8) σ' ∧ St σ' := by
  have i1 : inb (v3 + 1) L = true := hi 1 (by omega) (by omega)
  have i2 : inb (v3 + 2) L = true := hi 2 (by omega) (by omega)
  have i3 : inb (v3 + 3) L = true := hi 3 (by omega) (by omega)
  have i4 : inb (v3 + 4) L = true := hi 4 (by omega) (by omega)
  have i5 : inb (v3 + 5) L = true := hi 5 (by omega) (by omega)
  have i6 : inb (v3 + 6) L = true := hi 6 (by omega) (by omega)
  have i7 : inb (v3 + 7) L = true := hi 7 (by omega) (by omega)
  obtain ⟨r, σ1, σ2, e1, e2, e3⟩ := op_cover (xs (Int32.toNatClampNeg (v3 + (1 : Int32)))) (xs (Int32.toNatClampNeg (v3 + (2 : Int32)))) (xs (Int32.toNatClampNeg (v3 + (3 : Int32)))) ((lsh (Int32.toInt64 (xs (Int32.toNatClampNeg (v3 + (4 : Int32))))) (32 : Int32)) ||| ((Int32.toInt64 (xs (Int32.toNatClampNeg (v3 + (5 : Int32))))) &&& (4294967295 : Int64))) σ hs
  refine ⟨σ2, ?_, e3⟩
  unfold B_La_law_1830
  try simp only [i1, i2, i3, i4, i5, i6, i7, if_true]
  rw [e1, Option.bind_some]
  simp only []
  rw [e2, Option.bind_some]
  simp only [if_true]
  rfl
theorem lc_1913 {L : Nat} {xs : Nat → Int32} {k18 : Int32 → Sto → Option (Bool × Sto)} {v3 : Int32} {σ : Sto} (hi : ∀ j, 1 ≤ j → j < 8 → inb (v3 + nI j) L = true) (hs : St σ) : ∃ σ', B_La_law_1913 L xs k18 v3 σ = k18 (v3 + 8) σ' ∧ St σ' := by
  have i1 : inb (v3 + 1) L = true := hi 1 (by omega) (by omega)
  have i2 : inb (v3 + 2) L = true := hi 2 (by omega) (by omega)
  have i3 : inb (v3 + 3) L = true := hi 3 (by omega) (by omega)
  have i4 : inb (v3 + 4) L = true := hi 4 (by omega) (by omega)
  have i5 : inb (v3 + 5) L = true := hi 5 (by omega) (by omega)
  have i6 : inb (v3 + 6) L = true := hi 6 (by omega) (by omega)
  have i7 : inb (v3 + 7) L = true := hi 7 (by omega) (by omega)
  obtain ⟨r, σ1, σ2, e1, e2, e3⟩ := op_film (xs (Int32.toNatClampNeg (v3 + (1 : Int32)))) (xs (Int32.toNatClampNeg (v3 + (2 : Int32)))) ((lsh (Int32.toInt64 (xs (Int32.toNatClampNeg (v3 + (3 : Int32))))) (32 : Int32)) ||| ((Int32.toInt64 (xs (Int32.toNatClampNeg (v3 + (4 : Int32))))) &&& (4294967295 : Int64))) σ hs
  refine ⟨σ2, ?_, e3⟩
  unfold B_La_law_1913
  try simp only [i1, i2, i3, i4, i5, i6, i7, if_true]
  rw [e1, Option.bind_some]
  simp only []
  rw [e2, Option.bind_some]
  simp only [if_true]
  rfl
theorem lc_1986 {L : Nat} {xs : Nat → Int32} {k18 : Int32 → Sto → Option (Bool × Sto)} {v3 : Int32} {σ : Sto} (hi : ∀ j, 1 ≤ j → j < 8 → inb (v3 + nI j) L = true) (hs : St σ) : ∃ σ', B_La_law_1986 L xs k18 v3 σ = k18 (v3 + 8) σ' ∧ St σ' := by
  have i1 : inb (v3 + 1) L = true := hi 1 (by omega) (by omega)
  have i2 : inb (v3 + 2) L = true := hi 2 (by omega) (by omega)
  have i3 : inb (v3 + 3) L = true := hi 3 (by omega) (by omega)
  have i4 : inb (v3 + 4) L = true := hi 4 (by omega) (by omega)
  have i5 : inb (v3 + 5) L = true := hi 5 (by omega) (by omega)
  have i6 : inb (v3 + 6) L = true := hi 6 (by omega) (by omega)
  have i7 : inb (v3 + 7) L = true := hi 7 (by omega) (by omega)
  obtain ⟨r, σ1, σ2, e1, e2, e3⟩ := op_slip (xs (Int32.toNatClampNeg (v3 + (1 : Int32)))) (xs (Int32.toNatClampNeg (v3 + (2 : Int32)))) σ hs
  refine ⟨σ2, ?_, e3⟩
  unfold B_La_law_1986
  try simp only [i1, i2, i3, i4, i5, i6, i7, if_true]
  rw [e1, Option.bind_some]
  simp only []
  rw [e2, Option.bind_some]
  simp only [if_true]
  rfl
theorem lc_2019 {L : Nat} {xs : Nat → Int32} {k18 : Int32 → Sto → Option (Bool × Sto)} {v3 : Int32} {σ : Sto} (hi : ∀ j, 1 ≤ j → j < 8 → inb (v3 + nI j) L = true) (hs : St σ) : ∃ σ', B_La_law_2019 L xs k18 v3 σ = k18 (v3 + 8) σ' ∧ St σ' := by
  have i1 : inb (v3 + 1) L = true := hi 1 (by omega) (by omega)
  have i2 : inb (v3 + 2) L = true := hi 2 (by omega) (by omega)
  have i3 : inb (v3 + 3) L = true := hi 3 (by omega) (by omega)
  have i4 : inb (v3 + 4) L = true := hi 4 (by omega) (by omega)
  have i5 : inb (v3 + 5) L = true := hi 5 (by omega) (by omega)
  have i6 : inb (v3 + 6) L = true := hi 6 (by omega) (by omega)
  have i7 : inb (v3 + 7) L = true := hi 7 (by omega) (by omega)
  obtain ⟨r, σ1, σ2, e1, e2, e3⟩ := op_feed (xs (Int32.toNatClampNeg (v3 + (1 : Int32)))) ((lsh (Int32.toInt64 (xs (Int32.toNatClampNeg (v3 + (2 : Int32))))) (32 : Int32)) ||| ((Int32.toInt64 (xs (Int32.toNatClampNeg (v3 + (3 : Int32))))) &&& (4294967295 : Int64))) σ hs
  refine ⟨σ2, ?_, e3⟩
  unfold B_La_law_2019
  try simp only [i1, i2, i3, i4, i5, i6, i7, if_true]
  rw [e1, Option.bind_some]
  simp only []
  rw [e2, Option.bind_some]
  simp only [if_true]
  rfl
theorem lc_2082 {L : Nat} {xs : Nat → Int32} {k18 : Int32 → Sto → Option (Bool × Sto)} {v3 : Int32} {σ : Sto} (hi : ∀ j, 1 ≤ j → j < 8 → inb (v3 + nI j) L = true) (hs : St σ) : ∃ σ', B_La_law_2082 L xs k18 v3 σ = k18 (v3 + 8) σ' ∧ St σ' := by
  have i1 : inb (v3 + 1) L = true := hi 1 (by omega) (by omega)
  have i2 : inb (v3 + 2) L = true := hi 2 (by omega) (by omega)
  have i3 : inb (v3 + 3) L = true := hi 3 (by omega) (by omega)
  have i4 : inb (v3 + 4) L = true := hi 4 (by omega) (by omega)
  have i5 : inb (v3 + 5) L = true := hi 5 (by omega) (by omega)
  have i6 : inb (v3 + 6) L = true := hi 6 (by omega) (by omega)
  have i7 : inb (v3 + 7) L = true := hi 7 (by omega) (by omega)
  obtain ⟨r, σ1, σ2, e1, e2, e3⟩ := op_text σ hs
  refine ⟨σ2, ?_, e3⟩
  unfold B_La_law_2082
  try simp only [i1, i2, i3, i4, i5, i6, i7, if_true]
  rw [e1, Option.bind_some]
  simp only []
  rw [e2, Option.bind_some]
  simp only [if_true]
  rfl
theorem lc_2095 {L : Nat} {xs : Nat → Int32} {k18 : Int32 → Sto → Option (Bool × Sto)} {v3 : Int32} {σ : Sto} (hi : ∀ j, 1 ≤ j → j < 8 → inb (v3 + nI j) L = true) (hs : St σ) : ∃ σ', B_La_law_2095 L xs k18 v3 σ = k18 (v3 + 8) σ' ∧ St σ' := by
  have i1 : inb (v3 + 1) L = true := hi 1 (by omega) (by omega)
  have i2 : inb (v3 + 2) L = true := hi 2 (by omega) (by omega)
  have i3 : inb (v3 + 3) L = true := hi 3 (by omega) (by omega)
  have i4 : inb (v3 + 4) L = true := hi 4 (by omega) (by omega)
  have i5 : inb (v3 + 5) L = true := hi 5 (by omega) (by omega)
  have i6 : inb (v3 + 6) L = true := hi 6 (by omega) (by omega)
  have i7 : inb (v3 + 7) L = true := hi 7 (by omega) (by omega)
  obtain ⟨r, σ1, σ2, e1, e2, e3⟩ := op_deal (xs (Int32.toNatClampNeg (v3 + (1 : Int32)))) (xs (Int32.toNatClampNeg (v3 + (2 : Int32)))) (xs (Int32.toNatClampNeg (v3 + (3 : Int32)))) σ hs
  refine ⟨σ2, ?_, e3⟩
  unfold B_La_law_2095
  try simp only [i1, i2, i3, i4, i5, i6, i7, if_true]
  rw [e1, Option.bind_some]
  simp only []
  rw [e2, Option.bind_some]
  simp only [if_true]
  rfl
theorem lc_2138 {L : Nat} {xs : Nat → Int32} {k18 : Int32 → Sto → Option (Bool × Sto)} {v3 : Int32} {σ : Sto} (hi : ∀ j, 1 ≤ j → j < 8 → inb (v3 + nI j) L = true) (hs : St σ) : ∃ σ', B_La_law_2138 L xs k18 v3 σ = k18 (v3 + 8) σ' ∧ St σ' := by
  have i1 : inb (v3 + 1) L = true := hi 1 (by omega) (by omega)
  have i2 : inb (v3 + 2) L = true := hi 2 (by omega) (by omega)
  have i3 : inb (v3 + 3) L = true := hi 3 (by omega) (by omega)
  have i4 : inb (v3 + 4) L = true := hi 4 (by omega) (by omega)
  have i5 : inb (v3 + 5) L = true := hi 5 (by omega) (by omega)
  have i6 : inb (v3 + 6) L = true := hi 6 (by omega) (by omega)
  have i7 : inb (v3 + 7) L = true := hi 7 (by omega) (by omega)
  obtain ⟨r, σ1, σ2, e1, e2, e3⟩ := op_mean (xs (Int32.toNatClampNeg (v3 + (1 : Int32)))) (xs (Int32.toNatClampNeg (v3 + (2 : Int32)))) (xs (Int32.toNatClampNeg (v3 + (3 : Int32)))) (xs (Int32.toNatClampNeg (v3 + (4 : Int32)))) (xs (Int32.toNatClampNeg (v3 + (5 : Int32)))) σ hs
  refine ⟨σ2, ?_, e3⟩
  unfold B_La_law_2138
  try simp only [i1, i2, i3, i4, i5, i6, i7, if_true]
  rw [e1, Option.bind_some]
  simp only []
  rw [e2, Option.bind_some]
  simp only [if_true]
  rfl
theorem lc_2202 {L : Nat} {xs : Nat → Int32} {k18 : Int32 → Sto → Option (Bool × Sto)} {v3 : Int32} {σ : Sto} (hi : ∀ j, 1 ≤ j → j < 8 → inb (v3 + nI j) L = true) (hs : St σ) : ∃ σ', B_La_law_2202 L xs k18 v3 σ = k18 (v3 + 8) σ' ∧ St σ' := by
  have i1 : inb (v3 + 1) L = true := hi 1 (by omega) (by omega)
  have i2 : inb (v3 + 2) L = true := hi 2 (by omega) (by omega)
  have i3 : inb (v3 + 3) L = true := hi 3 (by omega) (by omega)
  have i4 : inb (v3 + 4) L = true := hi 4 (by omega) (by omega)
  have i5 : inb (v3 + 5) L = true := hi 5 (by omega) (by omega)
  have i6 : inb (v3 + 6) L = true := hi 6 (by omega) (by omega)
  have i7 : inb (v3 + 7) L = true := hi 7 (by omega) (by omega)
  obtain ⟨r, σ1, σ2, e1, e2, e3⟩ := op_hold (xs (Int32.toNatClampNeg (v3 + (1 : Int32)))) (xs (Int32.toNatClampNeg (v3 + (2 : Int32)))) ((lsh (Int32.toInt64 (xs (Int32.toNatClampNeg (v3 + (3 : Int32))))) (32 : Int32)) ||| ((Int32.toInt64 (xs (Int32.toNatClampNeg (v3 + (4 : Int32))))) &&& (4294967295 : Int64))) σ hs
  refine ⟨σ2, ?_, e3⟩
  unfold B_La_law_2202
  try simp only [i1, i2, i3, i4, i5, i6, i7, if_true]
  rw [e1, Option.bind_some]
  simp only []
  rw [e2, Option.bind_some]
  simp only [if_true]
  rfl
theorem lc_2275 {L : Nat} {xs : Nat → Int32} {k18 : Int32 → Sto → Option (Bool × Sto)} {v3 : Int32} {σ : Sto} (hi : ∀ j, 1 ≤ j → j < 8 → inb (v3 + nI j) L = true) (hs : St σ) : ∃ σ', B_La_law_2275 L xs k18 v3 σ = k18 (v3 + 8) σ' ∧ St σ' := by
  have i1 : inb (v3 + 1) L = true := hi 1 (by omega) (by omega)
  have i2 : inb (v3 + 2) L = true := hi 2 (by omega) (by omega)
  have i3 : inb (v3 + 3) L = true := hi 3 (by omega) (by omega)
  have i4 : inb (v3 + 4) L = true := hi 4 (by omega) (by omega)
  have i5 : inb (v3 + 5) L = true := hi 5 (by omega) (by omega)
  have i6 : inb (v3 + 6) L = true := hi 6 (by omega) (by omega)
  have i7 : inb (v3 + 7) L = true := hi 7 (by omega) (by omega)
  obtain ⟨r, σ1, σ2, e1, e2, e3⟩ := op_handAs (xs (Int32.toNatClampNeg (v3 + (1 : Int32)))) (xs (Int32.toNatClampNeg (v3 + (2 : Int32)))) σ hs
  refine ⟨σ2, ?_, e3⟩
  unfold B_La_law_2275
  try simp only [i1, i2, i3, i4, i5, i6, i7, if_true]
  rw [e1, Option.bind_some]
  simp only []
  rw [e2, Option.bind_some]
  simp only [if_true]
  rfl
theorem lc_2308 {L : Nat} {xs : Nat → Int32} {k18 : Int32 → Sto → Option (Bool × Sto)} {v3 : Int32} {σ : Sto} (hi : ∀ j, 1 ≤ j → j < 8 → inb (v3 + nI j) L = true) (hs : St σ) : ∃ σ', B_La_law_2308 L xs k18 v3 σ = k18 (v3 + 8) σ' ∧ St σ' := by
  have i1 : inb (v3 + 1) L = true := hi 1 (by omega) (by omega)
  have i2 : inb (v3 + 2) L = true := hi 2 (by omega) (by omega)
  have i3 : inb (v3 + 3) L = true := hi 3 (by omega) (by omega)
  have i4 : inb (v3 + 4) L = true := hi 4 (by omega) (by omega)
  have i5 : inb (v3 + 5) L = true := hi 5 (by omega) (by omega)
  have i6 : inb (v3 + 6) L = true := hi 6 (by omega) (by omega)
  have i7 : inb (v3 + 7) L = true := hi 7 (by omega) (by omega)
  obtain ⟨r, σ1, σ2, e1, e2, e3⟩ := op_handBound (xs (Int32.toNatClampNeg (v3 + (1 : Int32)))) (xs (Int32.toNatClampNeg (v3 + (2 : Int32)))) (xs (Int32.toNatClampNeg (v3 + (3 : Int32)))) ((lsh (Int32.toInt64 (xs (Int32.toNatClampNeg (v3 + (4 : Int32))))) (32 : Int32)) ||| ((Int32.toInt64 (xs (Int32.toNatClampNeg (v3 + (5 : Int32))))) &&& (4294967295 : Int64))) σ hs
  refine ⟨σ2, ?_, e3⟩
  unfold B_La_law_2308
  try simp only [i1, i2, i3, i4, i5, i6, i7, if_true]
  rw [e1, Option.bind_some]
  simp only []
  rw [e2, Option.bind_some]
  simp only [if_true]
  rfl
theorem lc_2391 {L : Nat} {xs : Nat → Int32} {k18 : Int32 → Sto → Option (Bool × Sto)} {v3 : Int32} {σ : Sto} (hi : ∀ j, 1 ≤ j → j < 8 → inb (v3 + nI j) L = true) (hs : St σ) : ∃ σ', B_La_law_2391 L xs k18 v3 σ = k18 (v3 + 8) σ' ∧ St σ' := by
  have i1 : inb (v3 + 1) L = true := hi 1 (by omega) (by omega)
  have i2 : inb (v3 + 2) L = true := hi 2 (by omega) (by omega)
  have i3 : inb (v3 + 3) L = true := hi 3 (by omega) (by omega)
  have i4 : inb (v3 + 4) L = true := hi 4 (by omega) (by omega)
  have i5 : inb (v3 + 5) L = true := hi 5 (by omega) (by omega)
  have i6 : inb (v3 + 6) L = true := hi 6 (by omega) (by omega)
  have i7 : inb (v3 + 7) L = true := hi 7 (by omega) (by omega)
  obtain ⟨r, σ1, σ2, e1, e2, e3⟩ := op_handLess (xs (Int32.toNatClampNeg (v3 + (1 : Int32)))) ((lsh (Int32.toInt64 (xs (Int32.toNatClampNeg (v3 + (2 : Int32))))) (32 : Int32)) ||| ((Int32.toInt64 (xs (Int32.toNatClampNeg (v3 + (3 : Int32))))) &&& (4294967295 : Int64))) σ hs
  refine ⟨σ2, ?_, e3⟩
  unfold B_La_law_2391
  try simp only [i1, i2, i3, i4, i5, i6, i7, if_true]
  rw [e1, Option.bind_some]
  simp only []
  rw [e2, Option.bind_some]
  simp only [if_true]
  rfl
theorem lc_2455 {L : Nat} {xs : Nat → Int32} {k18 : Int32 → Sto → Option (Bool × Sto)} {v3 : Int32} {σ : Sto} (hi : ∀ j, 1 ≤ j → j < 8 → inb (v3 + nI j) L = true) (hs : St σ) : ∃ σ', B_La_law_2455 L xs k18 v3 σ = k18 (v3 + 8) σ' ∧ St σ' := by
  have i1 : inb (v3 + 1) L = true := hi 1 (by omega) (by omega)
  have i2 : inb (v3 + 2) L = true := hi 2 (by omega) (by omega)
  have i3 : inb (v3 + 3) L = true := hi 3 (by omega) (by omega)
  have i4 : inb (v3 + 4) L = true := hi 4 (by omega) (by omega)
  have i5 : inb (v3 + 5) L = true := hi 5 (by omega) (by omega)
  have i6 : inb (v3 + 6) L = true := hi 6 (by omega) (by omega)
  have i7 : inb (v3 + 7) L = true := hi 7 (by omega) (by omega)
  obtain ⟨r, σ1, σ2, e1, e2, e3⟩ := op_sheet (xs (Int32.toNatClampNeg (v3 + (1 : Int32)))) (xs (Int32.toNatClampNeg (v3 + (2 : Int32)))) (xs (Int32.toNatClampNeg (v3 + (3 : Int32)))) σ hs
  refine ⟨σ2, ?_, e3⟩
  unfold B_La_law_2455
  try simp only [i1, i2, i3, i4, i5, i6, i7, if_true]
  rw [e1, Option.bind_some]
  simp only []
  rw [e2, Option.bind_some]
  simp only [if_true]
  rfl
theorem lc_2498 {L : Nat} {xs : Nat → Int32} {k18 : Int32 → Sto → Option (Bool × Sto)} {v3 : Int32} {σ : Sto} (hi : ∀ j, 1 ≤ j → j < 8 → inb (v3 + nI j) L = true) (hs : St σ) : ∃ σ', B_La_law_2498 L xs k18 v3 σ = k18 (v3 + 8) σ' ∧ St σ' := by
  have i1 : inb (v3 + 1) L = true := hi 1 (by omega) (by omega)
  have i2 : inb (v3 + 2) L = true := hi 2 (by omega) (by omega)
  have i3 : inb (v3 + 3) L = true := hi 3 (by omega) (by omega)
  have i4 : inb (v3 + 4) L = true := hi 4 (by omega) (by omega)
  have i5 : inb (v3 + 5) L = true := hi 5 (by omega) (by omega)
  have i6 : inb (v3 + 6) L = true := hi 6 (by omega) (by omega)
  have i7 : inb (v3 + 7) L = true := hi 7 (by omega) (by omega)
  obtain ⟨r, σ1, σ2, e1, e2, e3⟩ := op_cell (xs (Int32.toNatClampNeg (v3 + (1 : Int32)))) (xs (Int32.toNatClampNeg (v3 + (2 : Int32)))) (xs (Int32.toNatClampNeg (v3 + (3 : Int32)))) σ hs
  refine ⟨σ2, ?_, e3⟩
  unfold B_La_law_2498
  try simp only [i1, i2, i3, i4, i5, i6, i7, if_true]
  rw [e1, Option.bind_some]
  simp only []
  rw [e2, Option.bind_some]
  simp only [if_true]
  rfl
theorem lc_2541 {L : Nat} {xs : Nat → Int32} {k18 : Int32 → Sto → Option (Bool × Sto)} {v3 : Int32} {σ : Sto} (hi : ∀ j, 1 ≤ j → j < 8 → inb (v3 + nI j) L = true) (hs : St σ) : ∃ σ', B_La_law_2541 L xs k18 v3 σ = k18 (v3 + 8) σ' ∧ St σ' := by
  have i1 : inb (v3 + 1) L = true := hi 1 (by omega) (by omega)
  have i2 : inb (v3 + 2) L = true := hi 2 (by omega) (by omega)
  have i3 : inb (v3 + 3) L = true := hi 3 (by omega) (by omega)
  have i4 : inb (v3 + 4) L = true := hi 4 (by omega) (by omega)
  have i5 : inb (v3 + 5) L = true := hi 5 (by omega) (by omega)
  have i6 : inb (v3 + 6) L = true := hi 6 (by omega) (by omega)
  have i7 : inb (v3 + 7) L = true := hi 7 (by omega) (by omega)
  obtain ⟨r, σ1, σ2, e1, e2, e3⟩ := op_read (xs (Int32.toNatClampNeg (v3 + (1 : Int32)))) (xs (Int32.toNatClampNeg (v3 + (2 : Int32)))) σ hs
  refine ⟨σ2, ?_, e3⟩
  unfold B_La_law_2541
  try simp only [i1, i2, i3, i4, i5, i6, i7, if_true]
  rw [e1, Option.bind_some]
  simp only []
  rw [e2, Option.bind_some]
  simp only [if_true]
  rfl
theorem lc_2574 {L : Nat} {xs : Nat → Int32} {k18 : Int32 → Sto → Option (Bool × Sto)} {v3 : Int32} {σ : Sto} (hi : ∀ j, 1 ≤ j → j < 8 → inb (v3 + nI j) L = true) (hs : St σ) : ∃ σ', B_La_law_2574 L xs k18 v3 σ = k18 (v3 + 8) σ' ∧ St σ' := by
  have i1 : inb (v3 + 1) L = true := hi 1 (by omega) (by omega)
  have i2 : inb (v3 + 2) L = true := hi 2 (by omega) (by omega)
  have i3 : inb (v3 + 3) L = true := hi 3 (by omega) (by omega)
  have i4 : inb (v3 + 4) L = true := hi 4 (by omega) (by omega)
  have i5 : inb (v3 + 5) L = true := hi 5 (by omega) (by omega)
  have i6 : inb (v3 + 6) L = true := hi 6 (by omega) (by omega)
  have i7 : inb (v3 + 7) L = true := hi 7 (by omega) (by omega)
  obtain ⟨r, σ1, σ2, e1, e2, e3⟩ := op_copy (xs (Int32.toNatClampNeg (v3 + (1 : Int32)))) (xs (Int32.toNatClampNeg (v3 + (2 : Int32)))) (xs (Int32.toNatClampNeg (v3 + (3 : Int32)))) (xs (Int32.toNatClampNeg (v3 + (4 : Int32)))) (xs (Int32.toNatClampNeg (v3 + (5 : Int32)))) σ hs
  refine ⟨σ2, ?_, e3⟩
  unfold B_La_law_2574
  try simp only [i1, i2, i3, i4, i5, i6, i7, if_true]
  rw [e1, Option.bind_some]
  simp only []
  rw [e2, Option.bind_some]
  simp only [if_true]
  rfl
theorem lc_2637 {L : Nat} {xs : Nat → Int32} {k18 : Int32 → Sto → Option (Bool × Sto)} {v3 : Int32} {σ : Sto} (hi : ∀ j, 1 ≤ j → j < 8 → inb (v3 + nI j) L = true) (hs : St σ) : ∃ σ', B_La_law_2637 L xs k18 v3 σ = k18 (v3 + 8) σ' ∧ St σ' := by
  have i1 : inb (v3 + 1) L = true := hi 1 (by omega) (by omega)
  have i2 : inb (v3 + 2) L = true := hi 2 (by omega) (by omega)
  have i3 : inb (v3 + 3) L = true := hi 3 (by omega) (by omega)
  have i4 : inb (v3 + 4) L = true := hi 4 (by omega) (by omega)
  have i5 : inb (v3 + 5) L = true := hi 5 (by omega) (by omega)
  have i6 : inb (v3 + 6) L = true := hi 6 (by omega) (by omega)
  have i7 : inb (v3 + 7) L = true := hi 7 (by omega) (by omega)
  obtain ⟨r, σ1, σ2, e1, e2, e3⟩ := op_image σ hs
  refine ⟨σ2, ?_, e3⟩
  unfold B_La_law_2637
  try simp only [i1, i2, i3, i4, i5, i6, i7, if_true]
  rw [e1, Option.bind_some]
  simp only []
  rw [e2, Option.bind_some]
  simp only [if_true]
  rfl
theorem lc_2650 {L : Nat} {xs : Nat → Int32} {k18 : Int32 → Sto → Option (Bool × Sto)} {v3 : Int32} {σ : Sto} (hi : ∀ j, 1 ≤ j → j < 8 → inb (v3 + nI j) L = true) (hs : St σ) : ∃ σ', B_La_law_2650 L xs k18 v3 σ = k18 (v3 + 8) σ' ∧ St σ' := by
  have i1 : inb (v3 + 1) L = true := hi 1 (by omega) (by omega)
  have i2 : inb (v3 + 2) L = true := hi 2 (by omega) (by omega)
  have i3 : inb (v3 + 3) L = true := hi 3 (by omega) (by omega)
  have i4 : inb (v3 + 4) L = true := hi 4 (by omega) (by omega)
  have i5 : inb (v3 + 5) L = true := hi 5 (by omega) (by omega)
  have i6 : inb (v3 + 6) L = true := hi 6 (by omega) (by omega)
  have i7 : inb (v3 + 7) L = true := hi 7 (by omega) (by omega)
  obtain ⟨r, σ1, σ2, e1, e2, e3⟩ := op_back σ hs
  refine ⟨σ2, ?_, e3⟩
  unfold B_La_law_2650
  try simp only [i1, i2, i3, i4, i5, i6, i7, if_true]
  rw [e1, Option.bind_some]
  simp only []
  rw [e2, Option.bind_some]
  simp only [if_true]
  rfl
theorem lc_2663 {L : Nat} {xs : Nat → Int32} {k18 : Int32 → Sto → Option (Bool × Sto)} {v3 : Int32} {σ : Sto} (hi : ∀ j, 1 ≤ j → j < 8 → inb (v3 + nI j) L = true) (hs : St σ) : ∃ σ', B_La_law_2663 L xs k18 v3 σ = k18 (v3 + 8) σ' ∧ St σ' := by
  have i1 : inb (v3 + 1) L = true := hi 1 (by omega) (by omega)
  have i2 : inb (v3 + 2) L = true := hi 2 (by omega) (by omega)
  have i3 : inb (v3 + 3) L = true := hi 3 (by omega) (by omega)
  have i4 : inb (v3 + 4) L = true := hi 4 (by omega) (by omega)
  have i5 : inb (v3 + 5) L = true := hi 5 (by omega) (by omega)
  have i6 : inb (v3 + 6) L = true := hi 6 (by omega) (by omega)
  have i7 : inb (v3 + 7) L = true := hi 7 (by omega) (by omega)
  obtain ⟨r, σ1, σ2, e1, e2, e3⟩ := op_count (xs (Int32.toNatClampNeg (v3 + (1 : Int32)))) σ hs
  refine ⟨σ2, ?_, e3⟩
  unfold B_La_law_2663
  try simp only [i1, i2, i3, i4, i5, i6, i7, if_true]
  rw [e1, Option.bind_some]
  simp only []
  rw [e2, Option.bind_some]
  simp only [if_true]
  rfl
set_option maxHeartbeats 4000000 in
set_option maxRecDepth 100000 in
theorem law_body {L : Nat} {xs : Nat → Int32} {k18 : Int32 → Sto → Option (Bool × Sto)} {v3 : Int32} {σ : Sto} (hle : ¬ (Int32.ofNat L - 8 < v3)) (h0 : inb v3 L = true) (hi : ∀ j, 1 ≤ j → j < 8 → inb (v3 + nI j) L = true) (hs : St σ) : ∃ σ', B_La_law_18 L xs k18 v3 σ = k18 (v3 + 8) σ' ∧ St σ' := by
  unfold B_La_law_18
  rw [if_neg hle]
  simp only [h0, if_true]
  by_cases c0 : (xs (Int32.toNatClampNeg v3) &&& (63 : Int32)) = (0 : Int32)
  · rw [if_pos c0]; exact lc_220 hi hs
  rw [if_neg c0]
  by_cases c1 : (xs (Int32.toNatClampNeg v3) &&& (63 : Int32)) = (1 : Int32)
  · rw [if_pos c1]; exact lc_253 hi hs
  rw [if_neg c1]
  by_cases c2 : (xs (Int32.toNatClampNeg v3) &&& (63 : Int32)) = (2 : Int32)
  · rw [if_pos c2]; exact lc_286 hi hs
  rw [if_neg c2]
  by_cases c3 : (xs (Int32.toNatClampNeg v3) &&& (63 : Int32)) = (3 : Int32)
  · rw [if_pos c3]; exact lc_319 hi hs
  rw [if_neg c3]
  by_cases c4 : (xs (Int32.toNatClampNeg v3) &&& (63 : Int32)) = (4 : Int32)
  · rw [if_pos c4]; exact lc_352 hi hs
  rw [if_neg c4]
  by_cases c5 : (xs (Int32.toNatClampNeg v3) &&& (63 : Int32)) = (5 : Int32)
  · rw [if_pos c5]; exact lc_395 hi hs
  rw [if_neg c5]
  by_cases c6 : (xs (Int32.toNatClampNeg v3) &&& (63 : Int32)) = (6 : Int32)
  · rw [if_pos c6]; exact lc_458 hi hs
  rw [if_neg c6]
  by_cases c7 : (xs (Int32.toNatClampNeg v3) &&& (63 : Int32)) = (7 : Int32)
  · rw [if_pos c7]; exact lc_532 hi hs
  rw [if_neg c7]
  by_cases c8 : (xs (Int32.toNatClampNeg v3) &&& (63 : Int32)) = (8 : Int32)
  · rw [if_pos c8]; exact lc_595 hi hs
  rw [if_neg c8]
  by_cases c9 : (xs (Int32.toNatClampNeg v3) &&& (63 : Int32)) = (9 : Int32)
  · rw [if_pos c9]; exact lc_658 hi hs
  rw [if_neg c9]
  by_cases c10 : (xs (Int32.toNatClampNeg v3) &&& (63 : Int32)) = (10 : Int32)
  · rw [if_pos c10]; exact lc_731 hi hs
  rw [if_neg c10]
  by_cases c11 : (xs (Int32.toNatClampNeg v3) &&& (63 : Int32)) = (11 : Int32)
  · rw [if_pos c11]; exact lc_805 hi hs
  rw [if_neg c11]
  by_cases c12 : (xs (Int32.toNatClampNeg v3) &&& (63 : Int32)) = (12 : Int32)
  · rw [if_pos c12]; exact lc_869 hi hs
  rw [if_neg c12]
  by_cases c13 : (xs (Int32.toNatClampNeg v3) &&& (63 : Int32)) = (13 : Int32)
  · rw [if_pos c13]; exact lc_943 hi hs
  rw [if_neg c13]
  by_cases c14 : (xs (Int32.toNatClampNeg v3) &&& (63 : Int32)) = (14 : Int32)
  · rw [if_pos c14]; exact lc_1026 hi hs
  rw [if_neg c14]
  by_cases c15 : (xs (Int32.toNatClampNeg v3) &&& (63 : Int32)) = (15 : Int32)
  · rw [if_pos c15]; exact lc_1100 hi hs
  rw [if_neg c15]
  by_cases c16 : (xs (Int32.toNatClampNeg v3) &&& (63 : Int32)) = (16 : Int32)
  · rw [if_pos c16]; exact lc_1174 hi hs
  rw [if_neg c16]
  by_cases c17 : (xs (Int32.toNatClampNeg v3) &&& (63 : Int32)) = (17 : Int32)
  · rw [if_pos c17]; exact lc_1248 hi hs
  rw [if_neg c17]
  by_cases c18 : (xs (Int32.toNatClampNeg v3) &&& (63 : Int32)) = (18 : Int32)
  · rw [if_pos c18]; exact lc_1332 hi hs
  rw [if_neg c18]
  by_cases c19 : (xs (Int32.toNatClampNeg v3) &&& (63 : Int32)) = (19 : Int32)
  · rw [if_pos c19]; exact lc_1415 hi hs
  rw [if_neg c19]
  by_cases c20 : (xs (Int32.toNatClampNeg v3) &&& (63 : Int32)) = (20 : Int32)
  · rw [if_pos c20]; exact lc_1478 hi hs
  rw [if_neg c20]
  by_cases c21 : (xs (Int32.toNatClampNeg v3) &&& (63 : Int32)) = (21 : Int32)
  · rw [if_pos c21]; exact lc_1582 hi hs
  rw [if_neg c21]
  by_cases c22 : (xs (Int32.toNatClampNeg v3) &&& (63 : Int32)) = (22 : Int32)
  · rw [if_pos c22]; exact lc_1677 hi hs
  rw [if_neg c22]
  by_cases c23 : (xs (Int32.toNatClampNeg v3) &&& (63 : Int32)) = (23 : Int32)
  · rw [if_pos c23]; exact lc_1700 hi hs
  rw [if_neg c23]
  by_cases c24 : (xs (Int32.toNatClampNeg v3) &&& (63 : Int32)) = (24 : Int32)
  · rw [if_pos c24]; exact lc_1807 hi hs
  rw [if_neg c24]
  by_cases c25 : (xs (Int32.toNatClampNeg v3) &&& (63 : Int32)) = (25 : Int32)
  · rw [if_pos c25]; exact lc_1830 hi hs
  rw [if_neg c25]
  by_cases c26 : (xs (Int32.toNatClampNeg v3) &&& (63 : Int32)) = (26 : Int32)
  · rw [if_pos c26]; exact lc_1913 hi hs
  rw [if_neg c26]
  by_cases c27 : (xs (Int32.toNatClampNeg v3) &&& (63 : Int32)) = (27 : Int32)
  · rw [if_pos c27]; exact lc_1986 hi hs
  rw [if_neg c27]
  by_cases c28 : (xs (Int32.toNatClampNeg v3) &&& (63 : Int32)) = (28 : Int32)
  · rw [if_pos c28]; exact lc_2019 hi hs
  rw [if_neg c28]
  by_cases c29 : (xs (Int32.toNatClampNeg v3) &&& (63 : Int32)) = (29 : Int32)
  · rw [if_pos c29]; exact lc_2082 hi hs
  rw [if_neg c29]
  by_cases c30 : (xs (Int32.toNatClampNeg v3) &&& (63 : Int32)) = (30 : Int32)
  · rw [if_pos c30]; exact lc_2095 hi hs
  rw [if_neg c30]
  by_cases c31 : (xs (Int32.toNatClampNeg v3) &&& (63 : Int32)) = (31 : Int32)
  · rw [if_pos c31]; exact lc_2138 hi hs
  rw [if_neg c31]
  by_cases c32 : (xs (Int32.toNatClampNeg v3) &&& (63 : Int32)) = (32 : Int32)
  · rw [if_pos c32]; exact lc_2202 hi hs
  rw [if_neg c32]
  by_cases c33 : (xs (Int32.toNatClampNeg v3) &&& (63 : Int32)) = (33 : Int32)
  · rw [if_pos c33]; exact lc_2275 hi hs
  rw [if_neg c33]
  by_cases c34 : (xs (Int32.toNatClampNeg v3) &&& (63 : Int32)) = (34 : Int32)
  · rw [if_pos c34]; exact lc_2308 hi hs
  rw [if_neg c34]
  by_cases c35 : (xs (Int32.toNatClampNeg v3) &&& (63 : Int32)) = (35 : Int32)
  · rw [if_pos c35]; exact lc_2391 hi hs
  rw [if_neg c35]
  by_cases c36 : (xs (Int32.toNatClampNeg v3) &&& (63 : Int32)) = (36 : Int32)
  · rw [if_pos c36]; exact lc_2455 hi hs
  rw [if_neg c36]
  by_cases c37 : (xs (Int32.toNatClampNeg v3) &&& (63 : Int32)) = (37 : Int32)
  · rw [if_pos c37]; exact lc_2498 hi hs
  rw [if_neg c37]
  by_cases c38 : (xs (Int32.toNatClampNeg v3) &&& (63 : Int32)) = (38 : Int32)
  · rw [if_pos c38]; exact lc_2541 hi hs
  rw [if_neg c38]
  by_cases c39 : (xs (Int32.toNatClampNeg v3) &&& (63 : Int32)) = (39 : Int32)
  · rw [if_pos c39]; exact lc_2574 hi hs
  rw [if_neg c39]
  by_cases c40 : (xs (Int32.toNatClampNeg v3) &&& (63 : Int32)) = (40 : Int32)
  · rw [if_pos c40]; exact lc_2637 hi hs
  rw [if_neg c40]
  by_cases c41 : (xs (Int32.toNatClampNeg v3) &&& (63 : Int32)) = (41 : Int32)
  · rw [if_pos c41]; exact lc_2650 hi hs
  rw [if_neg c41]
  by_cases c42 : (xs (Int32.toNatClampNeg v3) &&& (63 : Int32)) = (42 : Int32)
  · rw [if_pos c42]; exact lc_2663 hi hs
  rw [if_neg c42]
  exact ⟨σ, rfl, hs⟩
theorem law_loop {L : Nat} {xs : Nat → Int32} (hL : L ≤ 4096) : ∀ (k fu i : Nat) (σ : Sto), L + 8 ≤ i + k → i ≤ L + 8 → k < fu → St σ → ∃ σ', L_La_law_18 L xs fu (nI i) σ = some (true, σ') := by
  intro k
  induction k with
  | zero =>
    intro fu i σ h1 h2 hf hs
    obtain ⟨fu, rfl⟩ : ∃ f, fu = f + 1 := ⟨fu - 1, by omega⟩
    refine ⟨σ, ?_⟩
    show B_La_law_18 L xs (L_La_law_18 L xs fu) (nI i) σ = _
    unfold B_La_law_18
    rw [if_pos]
    rw [show Int32.ofNat L = nI L from rfl, show (8 : Int32) = nI 8 from rfl, Int32.lt_iff_toInt_lt, fb_subI, nI_toInt (by omega), nI_toInt (by omega), nI_toInt (by omega)]
    all_goals first | omega | (rw [nI_toInt (by omega), nI_toInt (by omega)]; omega)
  | succ k ih =>
    intro fu i σ h1 h2 hf hs
    obtain ⟨fu, rfl⟩ : ∃ f, fu = f + 1 := ⟨fu - 1, by omega⟩
    show ∃ σ', B_La_law_18 L xs (L_La_law_18 L xs fu) (nI i) σ = _
    have e8 : (Int32.ofNat L - 8 < nI i) ↔ L < i + 8 := by
      rw [show Int32.ofNat L = nI L from rfl, show (8 : Int32) = nI 8 from rfl, Int32.lt_iff_toInt_lt, fb_subI, nI_toInt (by omega), nI_toInt (by omega), nI_toInt (by omega)]
      all_goals first | omega | (rw [nI_toInt (by omega), nI_toInt (by omega)]; omega)
    by_cases hc : L < i + 8
    · refine ⟨σ, ?_⟩
      unfold B_La_law_18
      rw [if_pos (e8.mpr hc)]
    · obtain ⟨σ', e, hs'⟩ := law_body (k18 := L_La_law_18 L xs fu) (xs := xs) (fun q => hc (e8.mp q)) (inb_ok (show i < L by omega) (by omega)) (fun j h1 h2 => by rw [nI_add]; exact inb_ok (by omega) (by omega)) hs
      rw [e, show nI i + (8 : Int32) = nI (i + 8) from nI_add i 8]
      exact ih fu (i + 8) σ' (by omega) (by omega) (by omega) hs'
theorem st0 : St sto0 := by
  refine ⟨((0, fun _ => 0, fun _ => 0, fun _ => 0), none, (0, fun _ => 0), (0, fun _ => 0), fun _ => (-1, 0, fun _ => 0), fun _ => (0, 0, 0, 0)), ?_, ?_, ?_⟩
  · refine ⟨⟨by decide, fun p hp => absurd hp (Nat.not_lt_zero _)⟩, (fun N h => by cases h), ⟨by decide, fun i hi => absurd hi (Nat.not_lt_zero _)⟩, ⟨by decide, fun i hi => absurd hi (Nat.not_lt_zero _)⟩, fun q _ => ⟨Nat.zero_le _, Or.inl ⟨rfl, rfl⟩⟩, fun q _ => ⟨Nat.zero_lt_succ 3, (fun h => by cases h), (fun h => by cases h)⟩⟩
  · refine ⟨⟨rfl, fun p hp => absurd hp (Nat.not_lt_zero _)⟩, rfl, ⟨rfl, fun i hi => absurd hi (Nat.not_lt_zero _)⟩, ⟨rfl, fun i hi => absurd hi (Nat.not_lt_zero _)⟩, fun q hq => ?_, fun q hq => ?_⟩
    · rcases (show q = 0 ∨ q = 1 ∨ q = 2 ∨ q = 3 by omega) with rfl | rfl | rfl | rfl <;> exact ⟨rfl, rfl, fun i hi => absurd hi (Nat.not_lt_zero _)⟩
    · rcases (show q = 0 ∨ q = 1 ∨ q = 2 ∨ q = 3 by omega) with rfl | rfl | rfl | rfl <;> exact ⟨rfl, (fun h => by cases h), (fun h => absurd h (by decide))⟩
  · refine ⟨⟨rfl, fun p hp => absurd hp (Nat.not_lt_zero _)⟩, rfl, ⟨rfl, fun i hi => absurd hi (Nat.not_lt_zero _)⟩, ⟨rfl, fun i hi => absurd hi (Nat.not_lt_zero _)⟩, fun q hq => ?_, fun q hq => ?_⟩
    · rcases (show q = 0 ∨ q = 1 ∨ q = 2 ∨ q = 3 by omega) with rfl | rfl | rfl | rfl <;> exact ⟨rfl, rfl, fun i hi => absurd hi (Nat.not_lt_zero _)⟩
    · rcases (show q = 0 ∨ q = 1 ∨ q = 2 ∨ q = 3 by omega) with rfl | rfl | rfl | rfl <;> exact ⟨rfl, (fun h => by cases h), (fun h => absurd h (by decide))⟩
theorem law_ok (L : Nat) (xs : Nat → Int32) (hL : L ≤ 4096) : ∃ σ' : Sto, L_La_law_18 L xs LF 0 sto0 = some (true, σ') :=
  law_loop hL (L + 8) LF 0 sto0 (by omega) (by omega) (by rw [LF_big]; omega) st0
