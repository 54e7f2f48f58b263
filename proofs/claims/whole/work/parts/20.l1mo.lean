theorem ff_Mo_13 : FF R_Mo 13 10 2 := ⟨R_Mo, T_Mo, 39, rfl, in_Mo, by decide, rfl, by decide, m1 1046 (by decide +kernel) (by decide +kernel)⟩
theorem ff_Mo_156 : FF R_Mo 156 10 10 := ⟨R_Mo, T_Mo, 39, rfl, in_Mo, by decide, rfl, by decide, m1 1054 (by decide +kernel) (by decide +kernel)⟩
theorem ff_Mo_159 : FF R_Mo 159 10 11 := ⟨R_Mo, T_Mo, 39, rfl, in_Mo, by decide, rfl, by decide, m1 1055 (by decide +kernel) (by decide +kernel)⟩
theorem ff_Mo_16 : FF R_Mo 16 10 3 := ⟨R_Mo, T_Mo, 39, rfl, in_Mo, by decide, rfl, by decide, m1 1047 (by decide +kernel) (by decide +kernel)⟩
theorem ff_Mo_169 : FF R_Mo 169 10 13 := ⟨R_Mo, T_Mo, 39, rfl, in_Mo, by decide, rfl, by decide, m1 1057 (by decide +kernel) (by decide +kernel)⟩
theorem ff_Mo_29 : FF R_Mo 29 10 9 := ⟨R_Mo, T_Mo, 39, rfl, in_Mo, by decide, rfl, by decide, m1 1053 (by decide +kernel) (by decide +kernel)⟩
theorem ff_Mo_32 : FF R_Mo 32 10 12 := ⟨R_Mo, T_Mo, 39, rfl, in_Mo, by decide, rfl, by decide, m1 1056 (by decide +kernel) (by decide +kernel)⟩
theorem ff_Mo_80 : FF R_Mo 80 10 0 := ⟨R_Mo, T_Mo, 39, rfl, in_Mo, by decide, rfl, by decide, m1 1044 (by decide +kernel) (by decide +kernel)⟩
theorem ff_Mo_9 : FF R_Mo 9 10 1 := ⟨R_Mo, T_Mo, 39, rfl, in_Mo, by decide, rfl, by decide, m1 1045 (by decide +kernel) (by decide +kernel)⟩
theorem fp_Mo_156 : FP R_Mo 156 10 10 (.int) := ⟨R_Mo, T_Mo, 39, rfl, in_Mo, by decide, rfl, by decide, m1 1054 (by decide +kernel) (by decide +kernel), ⟨ty_Mo, tyok_Mo⟩, nm_Mo, rfl, by decide +kernel⟩
theorem fp_Mo_159 : FP R_Mo 159 10 11 (.int) := ⟨R_Mo, T_Mo, 39, rfl, in_Mo, by decide, rfl, by decide, m1 1055 (by decide +kernel) (by decide +kernel), ⟨ty_Mo, tyok_Mo⟩, nm_Mo, rfl, by decide +kernel⟩
theorem fp_Mo_169 : FP R_Mo 169 10 13 (.int) := ⟨R_Mo, T_Mo, 39, rfl, in_Mo, by decide, rfl, by decide, m1 1057 (by decide +kernel) (by decide +kernel), ⟨ty_Mo, tyok_Mo⟩, nm_Mo, rfl, by decide +kernel⟩
theorem fp_Mo_80 : FP R_Mo 80 10 0 (.int) := ⟨R_Mo, T_Mo, 39, rfl, in_Mo, by decide, rfl, by decide, m1 1044 (by decide +kernel) (by decide +kernel), ⟨ty_Mo, tyok_Mo⟩, nm_Mo, rfl, by decide +kernel⟩
/-! method FittingRingsModel.in(JJJ)Z -/
theorem ys_Mo_in : YS y_Mo_in b_Mo_in 6 (some .boolean) 3 := ⟨m1 1168 (by decide +kernel) (by decide +kernel), ini_Mo, m1 1169 (by decide +kernel) (by decide +kernel), ⟨by decide +kernel, by decide +kernel, by decide +kernel⟩, by decide⟩
theorem d_Mo_in_0 : decode b_Mo_in 0 = .ok (.lload_n 0, 1) := by decide +kernel
theorem d_Mo_in_1 : decode b_Mo_in 1 = .ok (.lload_n 2, 1) := by decide +kernel
theorem d_Mo_in_2 : decode b_Mo_in 2 = .ok (.lcmp, 1) := by decide +kernel
theorem d_Mo_in_3 : decode b_Mo_in 3 = .ok (.ifCond .lt 14, 3) := by decide +kernel
theorem d_Mo_in_6 : decode b_Mo_in 6 = .ok (.lload_n 0, 1) := by decide +kernel
theorem d_Mo_in_7 : decode b_Mo_in 7 = .ok (.lload 4, 2) := by decide +kernel
theorem d_Mo_in_9 : decode b_Mo_in 9 = .ok (.lcmp, 1) := by decide +kernel
theorem d_Mo_in_10 : decode b_Mo_in 10 = .ok (.ifCond .gt 7, 3) := by decide +kernel
theorem d_Mo_in_13 : decode b_Mo_in 13 = .ok (.iconst 1, 1) := by decide +kernel
theorem d_Mo_in_14 : decode b_Mo_in 14 = .ok (.goto 4, 3) := by decide +kernel
theorem d_Mo_in_17 : decode b_Mo_in 17 = .ok (.iconst 0, 1) := by decide +kernel
theorem d_Mo_in_18 : decode b_Mo_in 18 = .ok (.ireturn, 1) := by decide +kernel
def B_Mo_in_0 (a0 : Int64) (a2 : Int64) (a4 : Int64) (σ : Sto) : Option (Bool × Sto) :=
  (if a0 < a2 then some (false, σ)
 else (if a4 < a0 then some (false, σ)
  else some (true, σ)))
set_option maxHeartbeats 4000000 in
set_option maxRecDepth 100000 in
theorem vB_Mo_in_0 {X : Xt} {E : En} (g : GG X E 1 b_Mo_in R_Mo 6) (a0 : Int64) (a2 : Int64) (a4 : Int64) (σ : Sto) : VV X E b_Mo_in 6 eB 0 [(0, .long a0), (2, .long a2), (4, .long a4)] [] σ (B_Mo_in_0 a0 a2 a4 σ) := by
  unfold B_Mo_in_0
  refine v_lload_n 0 g d_Mo_in_0 rfl ?_
  refine v_lload_n 1 g d_Mo_in_1 rfl ?_
  refine v_lcmp_lt 17 g d_Mo_in_2 d_Mo_in_3 (by decide) (fun _ => ?_) (fun _ => ?_)
  · refine v_iconst (v := (0 : Int32)) g d_Mo_in_17 (by decide +kernel) ?_
    exact v_ret d_Mo_in_18 rfl
  · refine v_lload_n 0 g d_Mo_in_6 rfl ?_
    refine v_lload 2 g d_Mo_in_7 rfl ?_
    refine v_lcmp_gt 17 g d_Mo_in_9 d_Mo_in_10 (by decide) (fun _ => ?_) (fun _ => ?_)
    · refine v_iconst (v := (0 : Int32)) g d_Mo_in_17 (by decide +kernel) ?_
      exact v_ret d_Mo_in_18 rfl
    · refine v_iconst (v := (1 : Int32)) g d_Mo_in_13 (by decide +kernel) ?_
      refine v_goto 18 g d_Mo_in_14 (by decide) ?_
      exact v_ret d_Mo_in_18 rfl
def f_Mo_in (a0 : Int64) (a2 : Int64) (a4 : Int64) (σ : Sto) : Option (Bool × Sto) := B_Mo_in_0 a0 a2 a4 σ
theorem sp_Mo_in {l : Launch} {E : En} (hE : Dj E) {a0 : Int64} {a2 : Int64} {a4 : Int64} {σ : Sto} {r : Bool} {σ' : Sto} (h : f_Mo_in a0 a2 a4 σ = some (r, σ')) : Ct l E y_Mo_in (wsM y_Mo_in b_Mo_in 6 (some .boolean)) 1 [.long a0, .long a2, .long a4] σ (eB r) σ' :=
  ct_of hE (by decide +kernel) (Nat.le_of_ble_eq_true rfl) (fun b => Or.inr (Or.inl ⟨rfl, b, rfl⟩)) (fun X _ g => vB_Mo_in_0 g a0 a2 a4 σ) r σ' h
/-! method FittingRingsModel.bit(I)J -/
theorem ys_Mo_bit : YS y_Mo_bit b_Mo_bit 1 (some .long) 1 := ⟨m1 1214 (by decide +kernel) (by decide +kernel), ini_Mo, m1 1215 (by decide +kernel) (by decide +kernel), ⟨by decide +kernel, by decide +kernel, by decide +kernel⟩, by decide⟩
theorem d_Mo_bit_0 : decode b_Mo_bit 0 = .ok (.lconst 1, 1) := by decide +kernel
theorem d_Mo_bit_1 : decode b_Mo_bit 1 = .ok (.iload_n 0, 1) := by decide +kernel
theorem d_Mo_bit_2 : decode b_Mo_bit 2 = .ok (.lshl, 1) := by decide +kernel
theorem d_Mo_bit_3 : decode b_Mo_bit 3 = .ok (.lreturn, 1) := by decide +kernel
def B_Mo_bit_0 (a0 : Int32) (σ : Sto) : Option (Int64 × Sto) :=
  some ((lsh (1 : Int64) a0), σ)
set_option maxHeartbeats 4000000 in
set_option maxRecDepth 100000 in
theorem vB_Mo_bit_0 {X : Xt} {E : En} (g : GG X E 1 b_Mo_bit R_Mo 1) (a0 : Int32) (σ : Sto) : VV X E b_Mo_bit 1 eL 0 [(0, .int a0)] [] σ (B_Mo_bit_0 a0 σ) := by
  unfold B_Mo_bit_0
  refine v_lconst (v := (1 : Int64)) g d_Mo_bit_0 (by decide +kernel) ?_
  refine v_iload_n 0 g d_Mo_bit_1 rfl ?_
  refine v_lshl g d_Mo_bit_2 ?_
  exact v_ret d_Mo_bit_3 rfl
def f_Mo_bit (a0 : Int32) (σ : Sto) : Option (Int64 × Sto) := B_Mo_bit_0 a0 σ
theorem sp_Mo_bit {l : Launch} {E : En} (hE : Dj E) {a0 : Int32} {σ : Sto} {r : Int64} {σ' : Sto} (h : f_Mo_bit a0 σ = some (r, σ')) : Ct l E y_Mo_bit (wsM y_Mo_bit b_Mo_bit 1 (some .long)) 1 [.int a0] σ (eL r) σ' :=
  ct_of hE (by decide +kernel) (Nat.le_of_ble_eq_true rfl) (fun x => Or.inr (Or.inr (Or.inl ⟨rfl, x, rfl⟩))) (fun X _ g => vB_Mo_bit_0 g a0 σ) r σ' h
/-! method FittingRingsModel.has(JI)Z -/
theorem ys_Mo_has : YS y_Mo_has b_Mo_has 3 (some .boolean) 2 := ⟨m1 1207 (by decide +kernel) (by decide +kernel), ini_Mo, m1 1208 (by decide +kernel) (by decide +kernel), ⟨by decide +kernel, by decide +kernel, by decide +kernel⟩, by decide⟩
theorem d_Mo_has_0 : decode b_Mo_has 0 = .ok (.lload_n 0, 1) := by decide +kernel
theorem d_Mo_has_1 : decode b_Mo_has 1 = .ok (.iload_n 2, 1) := by decide +kernel
theorem d_Mo_has_2 : decode b_Mo_has 2 = .ok (.lushr, 1) := by decide +kernel
theorem d_Mo_has_3 : decode b_Mo_has 3 = .ok (.lconst 1, 1) := by decide +kernel
theorem d_Mo_has_4 : decode b_Mo_has 4 = .ok (.land, 1) := by decide +kernel
theorem d_Mo_has_5 : decode b_Mo_has 5 = .ok (.lconst 1, 1) := by decide +kernel
theorem d_Mo_has_6 : decode b_Mo_has 6 = .ok (.lcmp, 1) := by decide +kernel
theorem d_Mo_has_7 : decode b_Mo_has 7 = .ok (.ifCond .ne 7, 3) := by decide +kernel
theorem d_Mo_has_10 : decode b_Mo_has 10 = .ok (.iconst 1, 1) := by decide +kernel
theorem d_Mo_has_11 : decode b_Mo_has 11 = .ok (.goto 4, 3) := by decide +kernel
theorem d_Mo_has_14 : decode b_Mo_has 14 = .ok (.iconst 0, 1) := by decide +kernel
theorem d_Mo_has_15 : decode b_Mo_has 15 = .ok (.ireturn, 1) := by decide +kernel
def B_Mo_has_0 (a0 : Int64) (a2 : Int32) (σ : Sto) : Option (Bool × Sto) :=
  (if ((lur a0 a2) &&& (1 : Int64)) = (1 : Int64) then some (true, σ)
 else some (false, σ))
set_option maxHeartbeats 4000000 in
set_option maxRecDepth 100000 in
theorem vB_Mo_has_0 {X : Xt} {E : En} (g : GG X E 1 b_Mo_has R_Mo 3) (a0 : Int64) (a2 : Int32) (σ : Sto) : VV X E b_Mo_has 3 eB 0 [(0, .long a0), (2, .int a2)] [] σ (B_Mo_has_0 a0 a2 σ) := by
  unfold B_Mo_has_0
  refine v_lload_n 0 g d_Mo_has_0 rfl ?_
  refine v_iload_n 1 g d_Mo_has_1 rfl ?_
  refine v_lushr g d_Mo_has_2 ?_
  refine v_lconst (v := (1 : Int64)) g d_Mo_has_3 (by decide +kernel) ?_
  refine v_land g d_Mo_has_4 ?_
  refine v_lconst (v := (1 : Int64)) g d_Mo_has_5 (by decide +kernel) ?_
  refine v_lcmp_ne 14 g d_Mo_has_6 d_Mo_has_7 (by decide) (fun _ => ?_) (fun _ => ?_)
  · refine v_iconst (v := (0 : Int32)) g d_Mo_has_14 (by decide +kernel) ?_
    exact v_ret d_Mo_has_15 rfl
  · refine v_iconst (v := (1 : Int32)) g d_Mo_has_10 (by decide +kernel) ?_
    refine v_goto 15 g d_Mo_has_11 (by decide) ?_
    exact v_ret d_Mo_has_15 rfl
def f_Mo_has (a0 : Int64) (a2 : Int32) (σ : Sto) : Option (Bool × Sto) := B_Mo_has_0 a0 a2 σ
theorem sp_Mo_has {l : Launch} {E : En} (hE : Dj E) {a0 : Int64} {a2 : Int32} {σ : Sto} {r : Bool} {σ' : Sto} (h : f_Mo_has a0 a2 σ = some (r, σ')) : Ct l E y_Mo_has (wsM y_Mo_has b_Mo_has 3 (some .boolean)) 1 [.long a0, .int a2] σ (eB r) σ' :=
  ct_of hE (by decide +kernel) (Nat.le_of_ble_eq_true rfl) (fun b => Or.inr (Or.inl ⟨rfl, b, rfl⟩)) (fun X _ g => vB_Mo_has_0 g a0 a2 σ) r σ' h
/-! method FittingRingsModel.many(J)I -/
theorem ys_Mo_many : YS y_Mo_many b_Mo_many 5 (some .int) 1 := ⟨m1 1189 (by decide +kernel) (by decide +kernel), ini_Mo, m1 1190 (by decide +kernel) (by decide +kernel), ⟨by decide +kernel, by decide +kernel, by decide +kernel⟩, by decide⟩
theorem d_Mo_many_0 : decode b_Mo_many 0 = .ok (.iconst 0, 1) := by decide +kernel
theorem d_Mo_many_1 : decode b_Mo_many 1 = .ok (.istore_n 2, 1) := by decide +kernel
theorem d_Mo_many_2 : decode b_Mo_many 2 = .ok (.lload_n 0, 1) := by decide +kernel
theorem d_Mo_many_3 : decode b_Mo_many 3 = .ok (.lstore_n 3, 1) := by decide +kernel
theorem d_Mo_many_4 : decode b_Mo_many 4 = .ok (.lload_n 3, 1) := by decide +kernel
theorem d_Mo_many_5 : decode b_Mo_many 5 = .ok (.lconst 0, 1) := by decide +kernel
theorem d_Mo_many_6 : decode b_Mo_many 6 = .ok (.lcmp, 1) := by decide +kernel
theorem d_Mo_many_7 : decode b_Mo_many 7 = .ok (.ifCond .eq 15, 3) := by decide +kernel
theorem d_Mo_many_10 : decode b_Mo_many 10 = .ok (.iinc 2 1, 3) := by decide +kernel
theorem d_Mo_many_13 : decode b_Mo_many 13 = .ok (.lload_n 3, 1) := by decide +kernel
theorem d_Mo_many_14 : decode b_Mo_many 14 = .ok (.lload_n 3, 1) := by decide +kernel
theorem d_Mo_many_15 : decode b_Mo_many 15 = .ok (.lconst 1, 1) := by decide +kernel
theorem d_Mo_many_16 : decode b_Mo_many 16 = .ok (.lsub, 1) := by decide +kernel
theorem d_Mo_many_17 : decode b_Mo_many 17 = .ok (.land, 1) := by decide +kernel
theorem d_Mo_many_18 : decode b_Mo_many 18 = .ok (.lstore_n 3, 1) := by decide +kernel
theorem d_Mo_many_19 : decode b_Mo_many 19 = .ok (.goto (-15), 3) := by decide +kernel
theorem d_Mo_many_22 : decode b_Mo_many 22 = .ok (.iload_n 2, 1) := by decide +kernel
theorem d_Mo_many_23 : decode b_Mo_many 23 = .ok (.ireturn, 1) := by decide +kernel
def B_Mo_many_4 (k4 : Int32 → Int64 → Sto → Option (Int32 × Sto)) (v2 : Int32) (v3 : Int64) (σ : Sto) : Option (Int32 × Sto) :=
  (if v3 = (0 : Int64) then some (v2, σ)
 else (lt1 (v3 &&& (v3 - (1 : Int64))) fun x1 => k4 (v2 + (1 : Int32)) x1 σ))
set_option maxHeartbeats 4000000 in
set_option maxRecDepth 100000 in
theorem vB_Mo_many_4 {X : Xt} {E : En} (g : GG X E 1 b_Mo_many R_Mo 5) {k4 : Int32 → Int64 → Sto → Option (Int32 × Sto)} (hk4 : ∀ (v2 : Int32) (v3 : Int64) (σ : Sto), VV X E b_Mo_many 5 eI 4 [(2, .int v2), (3, .long v3)] [] σ (k4 v2 v3 σ)) (v2 : Int32) (v3 : Int64) (σ : Sto) : VV X E b_Mo_many 5 eI 4 [(2, .int v2), (3, .long v3)] [] σ (B_Mo_many_4 k4 v2 v3 σ) := by
  unfold B_Mo_many_4
  refine v_lload_n 1 g d_Mo_many_4 rfl ?_
  refine v_lconst (v := (0 : Int64)) g d_Mo_many_5 (by decide +kernel) ?_
  refine v_lcmp_eq 22 g d_Mo_many_6 d_Mo_many_7 (by decide) (fun _ => ?_) (fun _ => ?_)
  · refine v_iload_n 0 g d_Mo_many_22 rfl ?_
    exact v_ret d_Mo_many_23 rfl
  · refine v_iinc 0 [(2, .int (v2 + (1 : Int32))), (3, .long v3)] g d_Mo_many_10 rfl (v := (1 : Int32)) (by decide +kernel) (by decide) rfl ?_
    refine v_lload_n 1 g d_Mo_many_13 rfl ?_
    refine v_lload_n 1 g d_Mo_many_14 rfl ?_
    refine v_lconst (v := (1 : Int64)) g d_Mo_many_15 (by decide +kernel) ?_
    refine v_lsub g d_Mo_many_16 ?_
    refine v_land g d_Mo_many_17 ?_
    refine v_nlet (fun x1 ex1 => ?_)
    rw [← ex1]
    refine v_lstore_n [(3, .long x1), (2, .int (v2 + (1 : Int32)))] g d_Mo_many_18 (by decide) rfl ?_
    refine v_goto 4 g d_Mo_many_19 (by decide) ?_
    exact v_sub [1,0] rfl (hk4 (v2 + (1 : Int32)) x1 σ)
def L_Mo_many_4 : Nat → Int32 → Int64 → Sto → Option (Int32 × Sto)
  | 0, _, _, _ => none
  | fu + 1, v2, v3, σ => B_Mo_many_4 (L_Mo_many_4 fu) v2 v3 σ
theorem vL_Mo_many_4 {X : Xt} {E : En} (g : GG X E 1 b_Mo_many R_Mo 5) (fu : Nat) : ∀ (v2 : Int32) (v3 : Int64) (σ : Sto), VV X E b_Mo_many 5 eI 4 [(2, .int v2), (3, .long v3)] [] σ (L_Mo_many_4 fu v2 v3 σ) := by
  induction fu with
  | zero => intros; exact v_none
  | succ fu ih =>
    intro v2 v3 σ
    exact vB_Mo_many_4 g ih v2 v3 σ
def B_Mo_many_0 (a0 : Int64) (σ : Sto) : Option (Int32 × Sto) :=
  L_Mo_many_4 LF (0 : Int32) a0 σ
set_option maxHeartbeats 4000000 in
set_option maxRecDepth 100000 in
theorem vB_Mo_many_0 {X : Xt} {E : En} (g : GG X E 1 b_Mo_many R_Mo 5) (a0 : Int64) (σ : Sto) : VV X E b_Mo_many 5 eI 0 [(0, .long a0)] [] σ (B_Mo_many_0 a0 σ) := by
  unfold B_Mo_many_0
  refine v_iconst (v := (0 : Int32)) g d_Mo_many_0 (by decide +kernel) ?_
  refine v_istore_n [(2, .int (0 : Int32)), (0, .long a0)] g d_Mo_many_1 (by decide) rfl ?_
  refine v_lload_n 1 g d_Mo_many_2 rfl ?_
  refine v_lstore_n [(3, .long a0), (2, .int (0 : Int32)), (0, .long a0)] g d_Mo_many_3 (by decide) rfl ?_
  exact v_sub [1,0] rfl (vL_Mo_many_4 g LF (0 : Int32) a0 σ)
def f_Mo_many (a0 : Int64) (σ : Sto) : Option (Int32 × Sto) := B_Mo_many_0 a0 σ
theorem sp_Mo_many {l : Launch} {E : En} (hE : Dj E) {a0 : Int64} {σ : Sto} {r : Int32} {σ' : Sto} (h : f_Mo_many a0 σ = some (r, σ')) : Ct l E y_Mo_many (wsM y_Mo_many b_Mo_many 5 (some .int)) 1 [.long a0] σ (eI r) σ' :=
  ct_of hE (by decide +kernel) (Nat.le_of_ble_eq_true rfl) (fun x => Or.inl ⟨rfl, x, rfl⟩) (fun X _ g => vB_Mo_many_0 g a0 σ) r σ' h
/-! method FittingRingsModel.most(II)I -/
theorem ys_Mo_most : YS y_Mo_most b_Mo_most 2 (some .int) 2 := ⟨m1 1271 (by decide +kernel) (by decide +kernel), ini_Mo, m1 1272 (by decide +kernel) (by decide +kernel), ⟨by decide +kernel, by decide +kernel, by decide +kernel⟩, by decide⟩
theorem d_Mo_most_0 : decode b_Mo_most 0 = .ok (.iload_n 0, 1) := by decide +kernel
theorem d_Mo_most_1 : decode b_Mo_most 1 = .ok (.iload_n 1, 1) := by decide +kernel
theorem d_Mo_most_2 : decode b_Mo_most 2 = .ok (.if_icmp .le 7, 3) := by decide +kernel
theorem d_Mo_most_5 : decode b_Mo_most 5 = .ok (.iload_n 0, 1) := by decide +kernel
theorem d_Mo_most_6 : decode b_Mo_most 6 = .ok (.goto 4, 3) := by decide +kernel
theorem d_Mo_most_9 : decode b_Mo_most 9 = .ok (.iload_n 1, 1) := by decide +kernel
theorem d_Mo_most_10 : decode b_Mo_most 10 = .ok (.ireturn, 1) := by decide +kernel
def B_Mo_most_0 (a0 : Int32) (a1 : Int32) (σ : Sto) : Option (Int32 × Sto) :=
  (if a0 ≤ a1 then some (a1, σ)
 else some (a0, σ))
set_option maxHeartbeats 4000000 in
set_option maxRecDepth 100000 in
theorem vB_Mo_most_0 {X : Xt} {E : En} (g : GG X E 1 b_Mo_most R_Mo 2) (a0 : Int32) (a1 : Int32) (σ : Sto) : VV X E b_Mo_most 2 eI 0 [(0, .int a0), (1, .int a1)] [] σ (B_Mo_most_0 a0 a1 σ) := by
  unfold B_Mo_most_0
  refine v_iload_n 0 g d_Mo_most_0 rfl ?_
  refine v_iload_n 1 g d_Mo_most_1 rfl ?_
  refine v_icmp_le 9 g d_Mo_most_2 (by decide) (fun _ => ?_) (fun _ => ?_)
  · refine v_iload_n 1 g d_Mo_most_9 rfl ?_
    exact v_ret d_Mo_most_10 rfl
  · refine v_iload_n 0 g d_Mo_most_5 rfl ?_
    refine v_goto 10 g d_Mo_most_6 (by decide) ?_
    exact v_ret d_Mo_most_10 rfl
def f_Mo_most (a0 : Int32) (a1 : Int32) (σ : Sto) : Option (Int32 × Sto) := B_Mo_most_0 a0 a1 σ
theorem sp_Mo_most {l : Launch} {E : En} (hE : Dj E) {a0 : Int32} {a1 : Int32} {σ : Sto} {r : Int32} {σ' : Sto} (h : f_Mo_most a0 a1 σ = some (r, σ')) : Ct l E y_Mo_most (wsM y_Mo_most b_Mo_most 2 (some .int)) 1 [.int a0, .int a1] σ (eI r) σ' :=
  ct_of hE (by decide +kernel) (Nat.le_of_ble_eq_true rfl) (fun x => Or.inl ⟨rfl, x, rfl⟩) (fun X _ g => vB_Mo_most_0 g a0 a1 σ) r σ' h
/-! method FittingRingsModel.isPoint(I)Z -/
theorem yv_Mo_isPoint : YV y_Mo_isPoint b_Mo_isPoint 2 (some .boolean) 1 10 := ⟨m1 1181 (by decide +kernel) (by decide +kernel), m1 26 (by decide +kernel) (by decide +kernel), ini_Mo, m1 1182 (by decide +kernel) (by decide +kernel), ⟨by decide +kernel, by decide +kernel, by decide +kernel⟩, by decide, by decide, T_Mo, 39, rfl⟩
theorem d_Mo_isPoint_0 : decode b_Mo_isPoint 0 = .ok (.iload_n 1, 1) := by decide +kernel
theorem d_Mo_isPoint_1 : decode b_Mo_isPoint 1 = .ok (.i2l, 1) := by decide +kernel
theorem d_Mo_isPoint_2 : decode b_Mo_isPoint 2 = .ok (.lconst 0, 1) := by decide +kernel
theorem d_Mo_isPoint_3 : decode b_Mo_isPoint 3 = .ok (.aload_n 0, 1) := by decide +kernel
theorem d_Mo_isPoint_4 : decode b_Mo_isPoint 4 = .ok (.getfield 80, 3) := by decide +kernel
theorem d_Mo_isPoint_7 : decode b_Mo_isPoint 7 = .ok (.iconst 1, 1) := by decide +kernel
theorem d_Mo_isPoint_8 : decode b_Mo_isPoint 8 = .ok (.isub, 1) := by decide +kernel
theorem d_Mo_isPoint_9 : decode b_Mo_isPoint 9 = .ok (.i2l, 1) := by decide +kernel
theorem d_Mo_isPoint_10 : decode b_Mo_isPoint 10 = .ok (.invokestatic 84, 3) := by decide +kernel
theorem d_Mo_isPoint_13 : decode b_Mo_isPoint 13 = .ok (.ireturn, 1) := by decide +kernel
def B_Mo_isPoint_0 (a1 : Int32) (σ : Sto) : Option (Bool × Sto) :=
  ((f_Mo_in (Int32.toInt64 a1) (0 : Int64) (Int32.toInt64 ((gI σ 48 0) - (1 : Int32))) σ).bind fun q1 => some (q1.1, q1.2))
set_option maxHeartbeats 4000000 in
set_option maxRecDepth 100000 in
theorem vB_Mo_isPoint_0 {X : Xt} {E : En} (g : GG X E 2 b_Mo_isPoint R_Mo 2) (a1 : Int32) (σ : Sto) : VV X E b_Mo_isPoint 2 eB 0 [(0, .ref (E.2.1 48)), (1, .int a1)] [] σ (B_Mo_isPoint_0 a1 σ) := by
  unfold B_Mo_isPoint_0
  refine v_iload_n 1 g d_Mo_isPoint_0 rfl ?_
  refine v_i2l g d_Mo_isPoint_1 ?_
  refine v_lconst (v := (0 : Int64)) g d_Mo_isPoint_2 (by decide +kernel) ?_
  refine v_aload_n 0 g d_Mo_isPoint_3 rfl ?_
  refine v_getI g ff_Mo_80 rfl rfl d_Mo_isPoint_4 ?_
  refine v_iconst (v := (1 : Int32)) g d_Mo_isPoint_7 (by decide +kernel) ?_
  refine v_isub g d_Mo_isPoint_8 ?_
  refine v_i2l g d_Mo_isPoint_9 ?_
  refine v_callB (r_S (rest := []) [.long (Int32.toInt64 a1), .long (0 : Int64), .long (Int32.toInt64 ((gI σ 48 0) - (1 : Int32)))] g (m1 1167 (by decide +kernel) (by decide +kernel)) ys_Mo_in (fun r σ1 h => sp_Mo_in g.2.2.1  h) rfl rfl (by decide) (Nat.le_of_ble_eq_true rfl) d_Mo_isPoint_10) (fun q1 => ?_)
  exact v_ret d_Mo_isPoint_13 rfl
def f_Mo_isPoint (a1 : Int32) (σ : Sto) : Option (Bool × Sto) := B_Mo_isPoint_0 a1 σ
theorem sp_Mo_isPoint {l : Launch} {E : En} (hE : Dj E) {a1 : Int32} {σ : Sto} {r : Bool} {σ' : Sto} (h : f_Mo_isPoint a1 σ = some (r, σ')) : Ct l E y_Mo_isPoint (wsM y_Mo_isPoint b_Mo_isPoint 2 (some .boolean)) 2 [.ref (E.2.1 48), .int a1] σ (eB r) σ' :=
  ct_of hE (by decide +kernel) (Nat.le_of_ble_eq_true rfl) (fun b => Or.inr (Or.inl ⟨rfl, b, rfl⟩)) (fun X _ g => vB_Mo_isPoint_0 g a1 σ) r σ' h
/-! method FittingRingsModel.isSet(J)Z -/
theorem yv_Mo_isSet : YV y_Mo_isSet b_Mo_isSet 3 (some .boolean) 1 10 := ⟨m1 1223 (by decide +kernel) (by decide +kernel), m1 29 (by decide +kernel) (by decide +kernel), ini_Mo, m1 1224 (by decide +kernel) (by decide +kernel), ⟨by decide +kernel, by decide +kernel, by decide +kernel⟩, by decide, by decide, T_Mo, 39, rfl⟩
theorem d_Mo_isSet_0 : decode b_Mo_isSet 0 = .ok (.lload_n 1, 1) := by decide +kernel
theorem d_Mo_isSet_1 : decode b_Mo_isSet 1 = .ok (.aload_n 0, 1) := by decide +kernel
theorem d_Mo_isSet_2 : decode b_Mo_isSet 2 = .ok (.getfield 80, 3) := by decide +kernel
theorem d_Mo_isSet_5 : decode b_Mo_isSet 5 = .ok (.lushr, 1) := by decide +kernel
theorem d_Mo_isSet_6 : decode b_Mo_isSet 6 = .ok (.lconst 0, 1) := by decide +kernel
theorem d_Mo_isSet_7 : decode b_Mo_isSet 7 = .ok (.lcmp, 1) := by decide +kernel
theorem d_Mo_isSet_8 : decode b_Mo_isSet 8 = .ok (.ifCond .ne 7, 3) := by decide +kernel
theorem d_Mo_isSet_11 : decode b_Mo_isSet 11 = .ok (.iconst 1, 1) := by decide +kernel
theorem d_Mo_isSet_12 : decode b_Mo_isSet 12 = .ok (.goto 4, 3) := by decide +kernel
theorem d_Mo_isSet_15 : decode b_Mo_isSet 15 = .ok (.iconst 0, 1) := by decide +kernel
theorem d_Mo_isSet_16 : decode b_Mo_isSet 16 = .ok (.ireturn, 1) := by decide +kernel
def B_Mo_isSet_0 (a1 : Int64) (σ : Sto) : Option (Bool × Sto) :=
  (if (lur a1 (gI σ 48 0)) = (0 : Int64) then some (true, σ)
 else some (false, σ))
set_option maxHeartbeats 4000000 in
set_option maxRecDepth 100000 in
theorem vB_Mo_isSet_0 {X : Xt} {E : En} (g : GG X E 1 b_Mo_isSet R_Mo 3) (a1 : Int64) (σ : Sto) : VV X E b_Mo_isSet 3 eB 0 [(0, .ref (E.2.1 48)), (1, .long a1)] [] σ (B_Mo_isSet_0 a1 σ) := by
  unfold B_Mo_isSet_0
  refine v_lload_n 1 g d_Mo_isSet_0 rfl ?_
  refine v_aload_n 0 g d_Mo_isSet_1 rfl ?_
  refine v_getI g ff_Mo_80 rfl rfl d_Mo_isSet_2 ?_
  refine v_lushr g d_Mo_isSet_5 ?_
  refine v_lconst (v := (0 : Int64)) g d_Mo_isSet_6 (by decide +kernel) ?_
  refine v_lcmp_ne 15 g d_Mo_isSet_7 d_Mo_isSet_8 (by decide) (fun _ => ?_) (fun _ => ?_)
  · refine v_iconst (v := (0 : Int32)) g d_Mo_isSet_15 (by decide +kernel) ?_
    exact v_ret d_Mo_isSet_16 rfl
  · refine v_iconst (v := (1 : Int32)) g d_Mo_isSet_11 (by decide +kernel) ?_
    refine v_goto 16 g d_Mo_isSet_12 (by decide) ?_
    exact v_ret d_Mo_isSet_16 rfl
def f_Mo_isSet (a1 : Int64) (σ : Sto) : Option (Bool × Sto) := B_Mo_isSet_0 a1 σ
theorem sp_Mo_isSet {l : Launch} {E : En} (hE : Dj E) {a1 : Int64} {σ : Sto} {r : Bool} {σ' : Sto} (h : f_Mo_isSet a1 σ = some (r, σ')) : Ct l E y_Mo_isSet (wsM y_Mo_isSet b_Mo_isSet 3 (some .boolean)) 1 [.ref (E.2.1 48), .long a1] σ (eB r) σ' :=
  ct_of hE (by decide +kernel) (Nat.le_of_ble_eq_true rfl) (fun b => Or.inr (Or.inl ⟨rfl, b, rfl⟩)) (fun X _ g => vB_Mo_isSet_0 g a1 σ) r σ' h
/-! method FittingRingsModel.isOne(I)Z -/
theorem ys_Mo_isOne : YS y_Mo_isOne b_Mo_isOne 1 (some .boolean) 1 := ⟨m1 1204 (by decide +kernel) (by decide +kernel), ini_Mo, m1 1205 (by decide +kernel) (by decide +kernel), ⟨by decide +kernel, by decide +kernel, by decide +kernel⟩, by decide⟩
theorem d_Mo_isOne_0 : decode b_Mo_isOne 0 = .ok (.iload_n 0, 1) := by decide +kernel
theorem d_Mo_isOne_1 : decode b_Mo_isOne 1 = .ok (.ifCond .eq 8, 3) := by decide +kernel
theorem d_Mo_isOne_4 : decode b_Mo_isOne 4 = .ok (.iload_n 0, 1) := by decide +kernel
theorem d_Mo_isOne_5 : decode b_Mo_isOne 5 = .ok (.iconst 1, 1) := by decide +kernel
theorem d_Mo_isOne_6 : decode b_Mo_isOne 6 = .ok (.if_icmp .ne 7, 3) := by decide +kernel
theorem d_Mo_isOne_9 : decode b_Mo_isOne 9 = .ok (.iconst 1, 1) := by decide +kernel
theorem d_Mo_isOne_10 : decode b_Mo_isOne 10 = .ok (.goto 4, 3) := by decide +kernel
theorem d_Mo_isOne_13 : decode b_Mo_isOne 13 = .ok (.iconst 0, 1) := by decide +kernel
theorem d_Mo_isOne_14 : decode b_Mo_isOne 14 = .ok (.ireturn, 1) := by decide +kernel
def B_Mo_isOne_0 (a0 : Int32) (σ : Sto) : Option (Bool × Sto) :=
  (if a0 = 0 then some (true, σ)
 else (if a0 = (1 : Int32) then some (true, σ)
  else some (false, σ)))
set_option maxHeartbeats 4000000 in
set_option maxRecDepth 100000 in
theorem vB_Mo_isOne_0 {X : Xt} {E : En} (g : GG X E 1 b_Mo_isOne R_Mo 1) (a0 : Int32) (σ : Sto) : VV X E b_Mo_isOne 1 eB 0 [(0, .int a0)] [] σ (B_Mo_isOne_0 a0 σ) := by
  unfold B_Mo_isOne_0
  refine v_iload_n 0 g d_Mo_isOne_0 rfl ?_
  refine v_if_eq 9 g d_Mo_isOne_1 (by decide) (fun _ => ?_) (fun _ => ?_)
  · refine v_iconst (v := (1 : Int32)) g d_Mo_isOne_9 (by decide +kernel) ?_
    refine v_goto 14 g d_Mo_isOne_10 (by decide) ?_
    exact v_ret d_Mo_isOne_14 rfl
  · refine v_iload_n 0 g d_Mo_isOne_4 rfl ?_
    refine v_iconst (v := (1 : Int32)) g d_Mo_isOne_5 (by decide +kernel) ?_
    refine v_icmp_ne 13 g d_Mo_isOne_6 (by decide) (fun _ => ?_) (fun _ => ?_)
    · refine v_iconst (v := (0 : Int32)) g d_Mo_isOne_13 (by decide +kernel) ?_
      exact v_ret d_Mo_isOne_14 rfl
    · refine v_iconst (v := (1 : Int32)) g d_Mo_isOne_9 (by decide +kernel) ?_
      refine v_goto 14 g d_Mo_isOne_10 (by decide) ?_
      exact v_ret d_Mo_isOne_14 rfl
def f_Mo_isOne (a0 : Int32) (σ : Sto) : Option (Bool × Sto) := B_Mo_isOne_0 a0 σ
theorem sp_Mo_isOne {l : Launch} {E : En} (hE : Dj E) {a0 : Int32} {σ : Sto} {r : Bool} {σ' : Sto} (h : f_Mo_isOne a0 σ = some (r, σ')) : Ct l E y_Mo_isOne (wsM y_Mo_isOne b_Mo_isOne 1 (some .boolean)) 1 [.int a0] σ (eB r) σ' :=
  ct_of hE (by decide +kernel) (Nat.le_of_ble_eq_true rfl) (fun b => Or.inr (Or.inl ⟨rfl, b, rfl⟩)) (fun X _ g => vB_Mo_isOne_0 g a0 σ) r σ' h
/-! method FittingRingsModel.comes(II)I -/
theorem yv_Mo_comes : YV y_Mo_comes b_Mo_comes 3 (some .int) 2 10 := ⟨m1 1173 (by decide +kernel) (by decide +kernel), m1 25 (by decide +kernel) (by decide +kernel), ini_Mo, m1 1174 (by decide +kernel) (by decide +kernel), ⟨by decide +kernel, by decide +kernel, by decide +kernel⟩, by decide, by decide, T_Mo, 39, rfl⟩
theorem d_Mo_comes_0 : decode b_Mo_comes 0 = .ok (.aload_n 0, 1) := by decide +kernel
theorem d_Mo_comes_1 : decode b_Mo_comes 1 = .ok (.getfield 9, 3) := by decide +kernel
theorem d_Mo_comes_4 : decode b_Mo_comes 4 = .ok (.aload_n 0, 1) := by decide +kernel
theorem d_Mo_comes_5 : decode b_Mo_comes 5 = .ok (.getfield 80, 3) := by decide +kernel
theorem d_Mo_comes_8 : decode b_Mo_comes 8 = .ok (.iload_n 1, 1) := by decide +kernel
theorem d_Mo_comes_9 : decode b_Mo_comes 9 = .ok (.iastore, 1) := by decide +kernel
theorem d_Mo_comes_10 : decode b_Mo_comes 10 = .ok (.aload_n 0, 1) := by decide +kernel
theorem d_Mo_comes_11 : decode b_Mo_comes 11 = .ok (.getfield 13, 3) := by decide +kernel
theorem d_Mo_comes_14 : decode b_Mo_comes 14 = .ok (.aload_n 0, 1) := by decide +kernel
theorem d_Mo_comes_15 : decode b_Mo_comes 15 = .ok (.getfield 80, 3) := by decide +kernel
theorem d_Mo_comes_18 : decode b_Mo_comes 18 = .ok (.iload_n 2, 1) := by decide +kernel
theorem d_Mo_comes_19 : decode b_Mo_comes 19 = .ok (.iastore, 1) := by decide +kernel
theorem d_Mo_comes_20 : decode b_Mo_comes 20 = .ok (.aload_n 0, 1) := by decide +kernel
theorem d_Mo_comes_21 : decode b_Mo_comes 21 = .ok (.getfield 16, 3) := by decide +kernel
theorem d_Mo_comes_24 : decode b_Mo_comes 24 = .ok (.aload_n 0, 1) := by decide +kernel
theorem d_Mo_comes_25 : decode b_Mo_comes 25 = .ok (.getfield 80, 3) := by decide +kernel
theorem d_Mo_comes_28 : decode b_Mo_comes 28 = .ok (.lconst 0, 1) := by decide +kernel
theorem d_Mo_comes_29 : decode b_Mo_comes 29 = .ok (.lastore, 1) := by decide +kernel
theorem d_Mo_comes_30 : decode b_Mo_comes 30 = .ok (.aload_n 0, 1) := by decide +kernel
theorem d_Mo_comes_31 : decode b_Mo_comes 31 = .ok (.dup, 1) := by decide +kernel
theorem d_Mo_comes_32 : decode b_Mo_comes 32 = .ok (.getfield 80, 3) := by decide +kernel
theorem d_Mo_comes_35 : decode b_Mo_comes 35 = .ok (.iconst 1, 1) := by decide +kernel
theorem d_Mo_comes_36 : decode b_Mo_comes 36 = .ok (.iadd, 1) := by decide +kernel
theorem d_Mo_comes_37 : decode b_Mo_comes 37 = .ok (.putfield 80, 3) := by decide +kernel
theorem d_Mo_comes_40 : decode b_Mo_comes 40 = .ok (.aload_n 0, 1) := by decide +kernel
theorem d_Mo_comes_41 : decode b_Mo_comes 41 = .ok (.getfield 80, 3) := by decide +kernel
theorem d_Mo_comes_44 : decode b_Mo_comes 44 = .ok (.iconst 1, 1) := by decide +kernel
theorem d_Mo_comes_45 : decode b_Mo_comes 45 = .ok (.isub, 1) := by decide +kernel
theorem d_Mo_comes_46 : decode b_Mo_comes 46 = .ok (.ireturn, 1) := by decide +kernel
def B_Mo_comes_0 (a1 : Int32) (a2 : Int32) (σ : Sto) : Option (Int32 × Sto) :=
  (if inb (gI σ 48 0) 40 = true then (if inb (gI (sI σ 49 (Int32.toNatClampNeg (gI σ 48 0)) a1) 48 0) 40 = true then (lt1 (sI (sI σ 49 (Int32.toNatClampNeg (gI σ 48 0)) a1) 50 (Int32.toNatClampNeg (gI (sI σ 49 (Int32.toNatClampNeg (gI σ 48 0)) a1) 48 0)) a2) fun σ1 => (if inb (gI σ1 48 0) 40 = true then (lt1 (sI (sL σ1 51 (Int32.toNatClampNeg (gI σ1 48 0)) (0 : Int64)) 48 0 ((gI (sL σ1 51 (Int32.toNatClampNeg (gI σ1 48 0)) (0 : Int64)) 48 0) + (1 : Int32))) fun σ2 => some (((gI σ2 48 0) - (1 : Int32)), σ2)) else none)) else none) else none)
set_option maxHeartbeats 4000000 in
set_option maxRecDepth 100000 in
theorem vB_Mo_comes_0 {X : Xt} {E : En} (g : GG X E 1 b_Mo_comes R_Mo 3) (a1 : Int32) (a2 : Int32) (σ : Sto) : VV X E b_Mo_comes 3 eI 0 [(0, .ref (E.2.1 48)), (1, .int a1), (2, .int a2)] [] σ (B_Mo_comes_0 a1 a2 σ) := by
  unfold B_Mo_comes_0
  refine v_aload_n 0 g d_Mo_comes_0 rfl ?_
  refine v_getR 49 g ff_Mo_9 rfl rfl rfl d_Mo_comes_1 ?_
  refine v_aload_n 0 g d_Mo_comes_4 rfl ?_
  refine v_getI g ff_Mo_80 rfl rfl d_Mo_comes_5 ?_
  refine v_iload_n 1 g d_Mo_comes_8 rfl ?_
  refine v_iast g rfl rfl d_Mo_comes_9 (fun _ => ?_)
  refine v_aload_n 0 g d_Mo_comes_10 rfl ?_
  refine v_getR 50 g ff_Mo_13 rfl rfl rfl d_Mo_comes_11 ?_
  refine v_aload_n 0 g d_Mo_comes_14 rfl ?_
  refine v_getI g ff_Mo_80 rfl rfl d_Mo_comes_15 ?_
  refine v_iload_n 2 g d_Mo_comes_18 rfl ?_
  refine v_iast g rfl rfl d_Mo_comes_19 (fun _ => ?_)
  refine v_nlet (fun σ1 eσ1 => ?_)
  rw [← eσ1]
  refine v_aload_n 0 g d_Mo_comes_20 rfl ?_
  refine v_getR 51 g ff_Mo_16 rfl rfl rfl d_Mo_comes_21 ?_
  refine v_aload_n 0 g d_Mo_comes_24 rfl ?_
  refine v_getI g ff_Mo_80 rfl rfl d_Mo_comes_25 ?_
  refine v_lconst (v := (0 : Int64)) g d_Mo_comes_28 (by decide +kernel) ?_
  refine v_last g rfl rfl d_Mo_comes_29 (fun _ => ?_)
  refine v_aload_n 0 g d_Mo_comes_30 rfl ?_
  refine v_dup g d_Mo_comes_31 rfl ?_
  refine v_getI g ff_Mo_80 rfl rfl d_Mo_comes_32 ?_
  refine v_iconst (v := (1 : Int32)) g d_Mo_comes_35 (by decide +kernel) ?_
  refine v_iadd g d_Mo_comes_36 ?_
  refine v_putI g fp_Mo_80 rfl rfl d_Mo_comes_37 ?_
  refine v_nlet (fun σ2 eσ2 => ?_)
  rw [← eσ2]
  refine v_aload_n 0 g d_Mo_comes_40 rfl ?_
  refine v_getI g ff_Mo_80 rfl rfl d_Mo_comes_41 ?_
  refine v_iconst (v := (1 : Int32)) g d_Mo_comes_44 (by decide +kernel) ?_
  refine v_isub g d_Mo_comes_45 ?_
  exact v_ret d_Mo_comes_46 rfl
def f_Mo_comes (a1 : Int32) (a2 : Int32) (σ : Sto) : Option (Int32 × Sto) := B_Mo_comes_0 a1 a2 σ
theorem sp_Mo_comes {l : Launch} {E : En} (hE : Dj E) {a1 : Int32} {a2 : Int32} {σ : Sto} {r : Int32} {σ' : Sto} (h : f_Mo_comes a1 a2 σ = some (r, σ')) : Ct l E y_Mo_comes (wsM y_Mo_comes b_Mo_comes 3 (some .int)) 1 [.ref (E.2.1 48), .int a1, .int a2] σ (eI r) σ' :=
  ct_of hE (by decide +kernel) (Nat.le_of_ble_eq_true rfl) (fun x => Or.inl ⟨rfl, x, rfl⟩) (fun X _ g => vB_Mo_comes_0 g a1 a2 σ) r σ' h
/-! method FittingRingsModel.point(II)I -/
theorem yv_Mo_point : YV y_Mo_point b_Mo_point 3 (some .int) 2 10 := ⟨m1 1163 (by decide +kernel) (by decide +kernel), m1 1164 (by decide +kernel) (by decide +kernel), ini_Mo, m1 1165 (by decide +kernel) (by decide +kernel), ⟨by decide +kernel, by decide +kernel, by decide +kernel⟩, by decide, by decide, T_Mo, 39, rfl⟩
theorem d_Mo_point_0 : decode b_Mo_point 0 = .ok (.iload_n 1, 1) := by decide +kernel
theorem d_Mo_point_1 : decode b_Mo_point 1 = .ok (.i2l, 1) := by decide +kernel
theorem d_Mo_point_2 : decode b_Mo_point 2 = .ok (.lconst 0, 1) := by decide +kernel
theorem d_Mo_point_3 : decode b_Mo_point 3 = .ok (.ldc2_w 88, 3) := by decide +kernel
theorem d_Mo_point_6 : decode b_Mo_point 6 = .ok (.invokestatic 84, 3) := by decide +kernel
theorem d_Mo_point_9 : decode b_Mo_point 9 = .ok (.ifCond .eq 15, 3) := by decide +kernel
theorem d_Mo_point_12 : decode b_Mo_point 12 = .ok (.iload_n 2, 1) := by decide +kernel
theorem d_Mo_point_13 : decode b_Mo_point 13 = .ok (.i2l, 1) := by decide +kernel
theorem d_Mo_point_14 : decode b_Mo_point 14 = .ok (.lconst 0, 1) := by decide +kernel
theorem d_Mo_point_15 : decode b_Mo_point 15 = .ok (.ldc2_w 90, 3) := by decide +kernel
theorem d_Mo_point_18 : decode b_Mo_point 18 = .ok (.invokestatic 84, 3) := by decide +kernel
theorem d_Mo_point_21 : decode b_Mo_point 21 = .ok (.ifCond .ne 6, 3) := by decide +kernel
theorem d_Mo_point_24 : decode b_Mo_point 24 = .ok (.bipush (-2), 2) := by decide +kernel
theorem d_Mo_point_26 : decode b_Mo_point 26 = .ok (.ireturn, 1) := by decide +kernel
theorem d_Mo_point_27 : decode b_Mo_point 27 = .ok (.aload_n 0, 1) := by decide +kernel
theorem d_Mo_point_28 : decode b_Mo_point 28 = .ok (.getfield 80, 3) := by decide +kernel
theorem d_Mo_point_31 : decode b_Mo_point 31 = .ok (.bipush 40, 2) := by decide +kernel
theorem d_Mo_point_33 : decode b_Mo_point 33 = .ok (.if_icmp .ne 8, 3) := by decide +kernel
theorem d_Mo_point_36 : decode b_Mo_point 36 = .ok (.bipush (-4), 2) := by decide +kernel
theorem d_Mo_point_38 : decode b_Mo_point 38 = .ok (.goto 9, 3) := by decide +kernel
theorem d_Mo_point_41 : decode b_Mo_point 41 = .ok (.aload_n 0, 1) := by decide +kernel
theorem d_Mo_point_42 : decode b_Mo_point 42 = .ok (.iload_n 1, 1) := by decide +kernel
theorem d_Mo_point_43 : decode b_Mo_point 43 = .ok (.iload_n 2, 1) := by decide +kernel
theorem d_Mo_point_44 : decode b_Mo_point 44 = .ok (.invokevirtual 92, 3) := by decide +kernel
theorem d_Mo_point_47 : decode b_Mo_point 47 = .ok (.ireturn, 1) := by decide +kernel
def B_Mo_point_0 (a1 : Int32) (a2 : Int32) (σ : Sto) : Option (Int32 × Sto) :=
  ((f_Mo_in (Int32.toInt64 a1) (0 : Int64) (5 : Int64) σ).bind fun q1 => (if (b2i q1.1) = 0 then some ((-2 : Int32), q1.2)
 else ((f_Mo_in (Int32.toInt64 a2) (0 : Int64) (99 : Int64) q1.2).bind fun q2 => (if (b2i q2.1) = 0 then some ((-2 : Int32), q2.2)
  else (if (gI q2.2 48 0) = (40 : Int32) then some ((-4 : Int32), q2.2)
   else ((f_Mo_comes a1 a2 q2.2).bind fun q3 => some (q3.1, q3.2)))))))
set_option maxHeartbeats 4000000 in
set_option maxRecDepth 100000 in
theorem vB_Mo_point_0 {X : Xt} {E : En} (g : GG X E 2 b_Mo_point R_Mo 3) (a1 : Int32) (a2 : Int32) (σ : Sto) : VV X E b_Mo_point 3 eI 0 [(0, .ref (E.2.1 48)), (1, .int a1), (2, .int a2)] [] σ (B_Mo_point_0 a1 a2 σ) := by
  unfold B_Mo_point_0
  refine v_iload_n 1 g d_Mo_point_0 rfl ?_
  refine v_i2l g d_Mo_point_1 ?_
  refine v_lconst (v := (0 : Int64)) g d_Mo_point_2 (by decide +kernel) ?_
  refine v_ldc2 (v := (5 : Int64)) g (m1 1166 (by decide +kernel) (by decide +kernel)) d_Mo_point_3 ?_
  refine v_callB (r_S (rest := []) [.long (Int32.toInt64 a1), .long (0 : Int64), .long (5 : Int64)] g (m1 1167 (by decide +kernel) (by decide +kernel)) ys_Mo_in (fun r σ1 h => sp_Mo_in g.2.2.1  h) rfl rfl (by decide) (Nat.le_of_ble_eq_true rfl) d_Mo_point_6) (fun q1 => ?_)
  refine v_if_eq 24 g d_Mo_point_9 (by decide) (fun _ => ?_) (fun _ => ?_)
  · refine v_bipush (v := (-2 : Int32)) g d_Mo_point_24 (by decide +kernel) ?_
    exact v_ret d_Mo_point_26 rfl
  · refine v_iload_n 2 g d_Mo_point_12 rfl ?_
    refine v_i2l g d_Mo_point_13 ?_
    refine v_lconst (v := (0 : Int64)) g d_Mo_point_14 (by decide +kernel) ?_
    refine v_ldc2 (v := (99 : Int64)) g (m1 1170 (by decide +kernel) (by decide +kernel)) d_Mo_point_15 ?_
    refine v_callB (r_S (rest := []) [.long (Int32.toInt64 a2), .long (0 : Int64), .long (99 : Int64)] g (m1 1167 (by decide +kernel) (by decide +kernel)) ys_Mo_in (fun r σ1 h => sp_Mo_in g.2.2.1  h) rfl rfl (by decide) (Nat.le_of_ble_eq_true rfl) d_Mo_point_18) (fun q2 => ?_)
    refine v_if_ne 27 g d_Mo_point_21 (by decide) (fun _ => ?_) (fun _ => ?_)
    · refine v_aload_n 0 g d_Mo_point_27 rfl ?_
      refine v_getI g ff_Mo_80 rfl rfl d_Mo_point_28 ?_
      refine v_bipush (v := (40 : Int32)) g d_Mo_point_31 (by decide +kernel) ?_
      refine v_icmp_ne 41 g d_Mo_point_33 (by decide) (fun _ => ?_) (fun _ => ?_)
      · refine v_aload_n 0 g d_Mo_point_41 rfl ?_
        refine v_iload_n 1 g d_Mo_point_42 rfl ?_
        refine v_iload_n 2 g d_Mo_point_43 rfl ?_
        refine v_callI (r_V (rest := []) [.int a1, .int a2] g (m1 1171 (by decide +kernel) (by decide +kernel)) yv_Mo_comes rfl (fun r σ1 h => sp_Mo_comes g.2.2.1  h) rfl rfl (by decide) (Nat.le_of_ble_eq_true rfl) d_Mo_point_44) (fun q3 => ?_)
        exact v_ret d_Mo_point_47 rfl
      · refine v_bipush (v := (-4 : Int32)) g d_Mo_point_36 (by decide +kernel) ?_
        refine v_goto 47 g d_Mo_point_38 (by decide) ?_
        exact v_ret d_Mo_point_47 rfl
    · refine v_bipush (v := (-2 : Int32)) g d_Mo_point_24 (by decide +kernel) ?_
      exact v_ret d_Mo_point_26 rfl
def f_Mo_point (a1 : Int32) (a2 : Int32) (σ : Sto) : Option (Int32 × Sto) := B_Mo_point_0 a1 a2 σ
theorem sp_Mo_point {l : Launch} {E : En} (hE : Dj E) {a1 : Int32} {a2 : Int32} {σ : Sto} {r : Int32} {σ' : Sto} (h : f_Mo_point a1 a2 σ = some (r, σ')) : Ct l E y_Mo_point (wsM y_Mo_point b_Mo_point 3 (some .int)) 2 [.ref (E.2.1 48), .int a1, .int a2] σ (eI r) σ' :=
  ct_of hE (by decide +kernel) (Nat.le_of_ble_eq_true rfl) (fun x => Or.inl ⟨rfl, x, rfl⟩) (fun X _ g => vB_Mo_point_0 g a1 a2 σ) r σ' h
/-! method FittingRingsModel.weight(I)I -/
theorem yv_Mo_weight : YV y_Mo_weight b_Mo_weight 4 (some .int) 1 10 := ⟨m1 1186 (by decide +kernel) (by decide +kernel), m1 27 (by decide +kernel) (by decide +kernel), ini_Mo, m1 1187 (by decide +kernel) (by decide +kernel), ⟨by decide +kernel, by decide +kernel, by decide +kernel⟩, by decide, by decide, T_Mo, 39, rfl⟩
theorem d_Mo_weight_0 : decode b_Mo_weight 0 = .ok (.aload_n 0, 1) := by decide +kernel
theorem d_Mo_weight_1 : decode b_Mo_weight 1 = .ok (.getfield 16, 3) := by decide +kernel
theorem d_Mo_weight_4 : decode b_Mo_weight 4 = .ok (.iload_n 1, 1) := by decide +kernel
theorem d_Mo_weight_5 : decode b_Mo_weight 5 = .ok (.laload, 1) := by decide +kernel
theorem d_Mo_weight_6 : decode b_Mo_weight 6 = .ok (.invokestatic 96, 3) := by decide +kernel
theorem d_Mo_weight_9 : decode b_Mo_weight 9 = .ok (.istore_n 2, 1) := by decide +kernel
theorem d_Mo_weight_10 : decode b_Mo_weight 10 = .ok (.aload_n 0, 1) := by decide +kernel
theorem d_Mo_weight_11 : decode b_Mo_weight 11 = .ok (.getfield 13, 3) := by decide +kernel
theorem d_Mo_weight_14 : decode b_Mo_weight 14 = .ok (.iload_n 1, 1) := by decide +kernel
theorem d_Mo_weight_15 : decode b_Mo_weight 15 = .ok (.iaload, 1) := by decide +kernel
theorem d_Mo_weight_16 : decode b_Mo_weight 16 = .ok (.iload_n 2, 1) := by decide +kernel
theorem d_Mo_weight_17 : decode b_Mo_weight 17 = .ok (.if_icmp .le 14, 3) := by decide +kernel
theorem d_Mo_weight_20 : decode b_Mo_weight 20 = .ok (.aload_n 0, 1) := by decide +kernel
theorem d_Mo_weight_21 : decode b_Mo_weight 21 = .ok (.getfield 13, 3) := by decide +kernel
theorem d_Mo_weight_24 : decode b_Mo_weight 24 = .ok (.iload_n 1, 1) := by decide +kernel
theorem d_Mo_weight_25 : decode b_Mo_weight 25 = .ok (.iaload, 1) := by decide +kernel
theorem d_Mo_weight_26 : decode b_Mo_weight 26 = .ok (.iload_n 2, 1) := by decide +kernel
theorem d_Mo_weight_27 : decode b_Mo_weight 27 = .ok (.isub, 1) := by decide +kernel
theorem d_Mo_weight_28 : decode b_Mo_weight 28 = .ok (.goto 4, 3) := by decide +kernel
theorem d_Mo_weight_31 : decode b_Mo_weight 31 = .ok (.iconst 0, 1) := by decide +kernel
theorem d_Mo_weight_32 : decode b_Mo_weight 32 = .ok (.istore_n 3, 1) := by decide +kernel
theorem d_Mo_weight_33 : decode b_Mo_weight 33 = .ok (.aload_n 0, 1) := by decide +kernel
theorem d_Mo_weight_34 : decode b_Mo_weight 34 = .ok (.getfield 9, 3) := by decide +kernel
theorem d_Mo_weight_37 : decode b_Mo_weight 37 = .ok (.iload_n 1, 1) := by decide +kernel
theorem d_Mo_weight_38 : decode b_Mo_weight 38 = .ok (.iaload, 1) := by decide +kernel
theorem d_Mo_weight_39 : decode b_Mo_weight 39 = .ok (.tableswitch 74 1 5 #[33, 42, 44, 55, 59], 33) := by decide +kernel
theorem d_Mo_weight_72 : decode b_Mo_weight 72 = .ok (.iconst 2, 1) := by decide +kernel
theorem d_Mo_weight_73 : decode b_Mo_weight 73 = .ok (.aload_n 0, 1) := by decide +kernel
theorem d_Mo_weight_74 : decode b_Mo_weight 74 = .ok (.getfield 13, 3) := by decide +kernel
theorem d_Mo_weight_77 : decode b_Mo_weight 77 = .ok (.iload_n 1, 1) := by decide +kernel
theorem d_Mo_weight_78 : decode b_Mo_weight 78 = .ok (.iaload, 1) := by decide +kernel
theorem d_Mo_weight_79 : decode b_Mo_weight 79 = .ok (.imul, 1) := by decide +kernel
theorem d_Mo_weight_80 : decode b_Mo_weight 80 = .ok (.ireturn, 1) := by decide +kernel
theorem d_Mo_weight_81 : decode b_Mo_weight 81 = .ok (.iload_n 3, 1) := by decide +kernel
theorem d_Mo_weight_82 : decode b_Mo_weight 82 = .ok (.ireturn, 1) := by decide +kernel
theorem d_Mo_weight_83 : decode b_Mo_weight 83 = .ok (.iconst 2, 1) := by decide +kernel
theorem d_Mo_weight_84 : decode b_Mo_weight 84 = .ok (.aload_n 0, 1) := by decide +kernel
theorem d_Mo_weight_85 : decode b_Mo_weight 85 = .ok (.getfield 13, 3) := by decide +kernel
theorem d_Mo_weight_88 : decode b_Mo_weight 88 = .ok (.iload_n 1, 1) := by decide +kernel
theorem d_Mo_weight_89 : decode b_Mo_weight 89 = .ok (.iaload, 1) := by decide +kernel
theorem d_Mo_weight_90 : decode b_Mo_weight 90 = .ok (.imul, 1) := by decide +kernel
theorem d_Mo_weight_91 : decode b_Mo_weight 91 = .ok (.iload_n 2, 1) := by decide +kernel
theorem d_Mo_weight_92 : decode b_Mo_weight 92 = .ok (.iadd, 1) := by decide +kernel
theorem d_Mo_weight_93 : decode b_Mo_weight 93 = .ok (.ireturn, 1) := by decide +kernel
theorem d_Mo_weight_94 : decode b_Mo_weight 94 = .ok (.iload_n 3, 1) := by decide +kernel
theorem d_Mo_weight_95 : decode b_Mo_weight 95 = .ok (.iconst 2, 1) := by decide +kernel
theorem d_Mo_weight_96 : decode b_Mo_weight 96 = .ok (.idiv, 1) := by decide +kernel
theorem d_Mo_weight_97 : decode b_Mo_weight 97 = .ok (.ireturn, 1) := by decide +kernel
theorem d_Mo_weight_98 : decode b_Mo_weight 98 = .ok (.iload_n 2, 1) := by decide +kernel
theorem d_Mo_weight_99 : decode b_Mo_weight 99 = .ok (.ifCond .ne 12, 3) := by decide +kernel
theorem d_Mo_weight_102 : decode b_Mo_weight 102 = .ok (.aload_n 0, 1) := by decide +kernel
theorem d_Mo_weight_103 : decode b_Mo_weight 103 = .ok (.getfield 13, 3) := by decide +kernel
theorem d_Mo_weight_106 : decode b_Mo_weight 106 = .ok (.iload_n 1, 1) := by decide +kernel
theorem d_Mo_weight_107 : decode b_Mo_weight 107 = .ok (.iaload, 1) := by decide +kernel
theorem d_Mo_weight_108 : decode b_Mo_weight 108 = .ok (.goto 4, 3) := by decide +kernel
theorem d_Mo_weight_111 : decode b_Mo_weight 111 = .ok (.iconst 1, 1) := by decide +kernel
theorem d_Mo_weight_112 : decode b_Mo_weight 112 = .ok (.ireturn, 1) := by decide +kernel
theorem d_Mo_weight_113 : decode b_Mo_weight 113 = .ok (.aload_n 0, 1) := by decide +kernel
theorem d_Mo_weight_114 : decode b_Mo_weight 114 = .ok (.getfield 13, 3) := by decide +kernel
theorem d_Mo_weight_117 : decode b_Mo_weight 117 = .ok (.iload_n 1, 1) := by decide +kernel
theorem d_Mo_weight_118 : decode b_Mo_weight 118 = .ok (.iaload, 1) := by decide +kernel
theorem d_Mo_weight_119 : decode b_Mo_weight 119 = .ok (.ireturn, 1) := by decide +kernel
def B_Mo_weight_32 (v1 : Int32) (v2 : Int32) (s0 : Int32) (σ : Sto) : Option (Int32 × Sto) :=
  (if inb v1 40 = true then (if (gI σ 49 (Int32.toNatClampNeg v1)) = (1 : Int32) then (if inb v1 40 = true then some (((2 : Int32) * (gI σ 50 (Int32.toNatClampNeg v1))), σ) else none)
 else (if (gI σ 49 (Int32.toNatClampNeg v1)) = (2 : Int32) then some (s0, σ)
  else (if (gI σ 49 (Int32.toNatClampNeg v1)) = (3 : Int32) then (if inb v1 40 = true then some ((((2 : Int32) * (gI σ 50 (Int32.toNatClampNeg v1))) + v2), σ) else none)
   else (if (gI σ 49 (Int32.toNatClampNeg v1)) = (4 : Int32) then (if ¬ (2 : Int32) = 0 then some ((s0 / (2 : Int32)), σ) else none)
    else (if (gI σ 49 (Int32.toNatClampNeg v1)) = (5 : Int32) then (if v2 = 0 then (if inb v1 40 = true then some ((gI σ 50 (Int32.toNatClampNeg v1)), σ) else none)
      else some ((1 : Int32), σ))
     else (if inb v1 40 = true then some ((gI σ 50 (Int32.toNatClampNeg v1)), σ) else none)))))) else none)
set_option maxHeartbeats 4000000 in
set_option maxRecDepth 100000 in
theorem vB_Mo_weight_32 {X : Xt} {E : En} (g : GG X E 2 b_Mo_weight R_Mo 4) (v1 : Int32) (v2 : Int32) (s0 : Int32) (σ : Sto) : VV X E b_Mo_weight 4 eI 32 [(0, .ref (E.2.1 48)), (1, .int v1), (2, .int v2)] [.int s0] σ (B_Mo_weight_32 v1 v2 s0 σ) := by
  unfold B_Mo_weight_32
  refine v_istore_n [(3, .int s0), (0, .ref (E.2.1 48)), (1, .int v1), (2, .int v2)] g d_Mo_weight_32 (by decide) rfl ?_
  refine v_aload_n 1 g d_Mo_weight_33 rfl ?_
  refine v_getR 49 g ff_Mo_9 rfl rfl rfl d_Mo_weight_34 ?_
  refine v_iload_n 2 g d_Mo_weight_37 rfl ?_
  refine v_iald g rfl rfl d_Mo_weight_38 (fun _ => ?_)
  refine v_ite _ (fun h_0 => ?_) (fun h_0 => ?_)
  · refine v_tableIn 72 g d_Mo_weight_39 (by rw [h_0]; decide +kernel) (by rw [h_0]; decide +kernel) (off := 33) (by rw [h_0]; decide +kernel) (by decide) ?_
    refine v_iconst (v := (2 : Int32)) g d_Mo_weight_72 (by decide +kernel) ?_
    refine v_aload_n 1 g d_Mo_weight_73 rfl ?_
    refine v_getR 50 g ff_Mo_13 rfl rfl rfl d_Mo_weight_74 ?_
    refine v_iload_n 2 g d_Mo_weight_77 rfl ?_
    refine v_iald g rfl rfl d_Mo_weight_78 (fun _ => ?_)
    refine v_imul g d_Mo_weight_79 ?_
    exact v_ret d_Mo_weight_80 rfl
  · refine v_ite _ (fun h_1 => ?_) (fun h_1 => ?_)
    · refine v_tableIn 81 g d_Mo_weight_39 (by rw [h_1]; decide +kernel) (by rw [h_1]; decide +kernel) (off := 42) (by rw [h_1]; decide +kernel) (by decide) ?_
      refine v_iload_n 0 g d_Mo_weight_81 rfl ?_
      exact v_ret d_Mo_weight_82 rfl
    · refine v_ite _ (fun h_2 => ?_) (fun h_2 => ?_)
      · refine v_tableIn 83 g d_Mo_weight_39 (by rw [h_2]; decide +kernel) (by rw [h_2]; decide +kernel) (off := 44) (by rw [h_2]; decide +kernel) (by decide) ?_
        refine v_iconst (v := (2 : Int32)) g d_Mo_weight_83 (by decide +kernel) ?_
        refine v_aload_n 1 g d_Mo_weight_84 rfl ?_
        refine v_getR 50 g ff_Mo_13 rfl rfl rfl d_Mo_weight_85 ?_
        refine v_iload_n 2 g d_Mo_weight_88 rfl ?_
        refine v_iald g rfl rfl d_Mo_weight_89 (fun _ => ?_)
        refine v_imul g d_Mo_weight_90 ?_
        refine v_iload_n 3 g d_Mo_weight_91 rfl ?_
        refine v_iadd g d_Mo_weight_92 ?_
        exact v_ret d_Mo_weight_93 rfl
      · refine v_ite _ (fun h_3 => ?_) (fun h_3 => ?_)
        · refine v_tableIn 94 g d_Mo_weight_39 (by rw [h_3]; decide +kernel) (by rw [h_3]; decide +kernel) (off := 55) (by rw [h_3]; decide +kernel) (by decide) ?_
          refine v_iload_n 0 g d_Mo_weight_94 rfl ?_
          refine v_iconst (v := (2 : Int32)) g d_Mo_weight_95 (by decide +kernel) ?_
          refine v_idiv g d_Mo_weight_96 (fun _ => ?_)
          exact v_ret d_Mo_weight_97 rfl
        · refine v_ite _ (fun h_4 => ?_) (fun h_4 => ?_)
          · refine v_tableIn 98 g d_Mo_weight_39 (by rw [h_4]; decide +kernel) (by rw [h_4]; decide +kernel) (off := 59) (by rw [h_4]; decide +kernel) (by decide) ?_
            refine v_iload_n 3 g d_Mo_weight_98 rfl ?_
            refine v_if_ne 111 g d_Mo_weight_99 (by decide) (fun _ => ?_) (fun _ => ?_)
            · refine v_iconst (v := (1 : Int32)) g d_Mo_weight_111 (by decide +kernel) ?_
              exact v_ret d_Mo_weight_112 rfl
            · refine v_aload_n 1 g d_Mo_weight_102 rfl ?_
              refine v_getR 50 g ff_Mo_13 rfl rfl rfl d_Mo_weight_103 ?_
              refine v_iload_n 2 g d_Mo_weight_106 rfl ?_
              refine v_iald g rfl rfl d_Mo_weight_107 (fun _ => ?_)
              refine v_goto 112 g d_Mo_weight_108 (by decide) ?_
              exact v_ret d_Mo_weight_112 rfl
          · refine v_tableOut 113 g d_Mo_weight_39 (by have n0 := sw_ne h_0 (show ((1 : Int32)).toInt = 1 by decide +kernel); have n1 := sw_ne h_1 (show ((2 : Int32)).toInt = 2 by decide +kernel); have n2 := sw_ne h_2 (show ((3 : Int32)).toInt = 3 by decide +kernel); have n3 := sw_ne h_3 (show ((4 : Int32)).toInt = 4 by decide +kernel); have n4 := sw_ne h_4 (show ((5 : Int32)).toInt = 5 by decide +kernel); omega) (by decide) ?_
            refine v_aload_n 1 g d_Mo_weight_113 rfl ?_
            refine v_getR 50 g ff_Mo_13 rfl rfl rfl d_Mo_weight_114 ?_
            refine v_iload_n 2 g d_Mo_weight_117 rfl ?_
            refine v_iald g rfl rfl d_Mo_weight_118 (fun _ => ?_)
            exact v_ret d_Mo_weight_119 rfl
def B_Mo_weight_0 (a1 : Int32) (σ : Sto) : Option (Int32 × Sto) :=
  (if inb a1 40 = true then ((f_Mo_many (gL σ 51 (Int32.toNatClampNeg a1)) σ).bind fun q1 => (if inb a1 40 = true then (if (gI q1.2 50 (Int32.toNatClampNeg a1)) ≤ q1.1 then B_Mo_weight_32 a1 q1.1 (0 : Int32) q1.2
 else (if inb a1 40 = true then B_Mo_weight_32 a1 q1.1 ((gI q1.2 50 (Int32.toNatClampNeg a1)) - q1.1) q1.2 else none)) else none)) else none)
set_option maxHeartbeats 4000000 in
set_option maxRecDepth 100000 in
theorem vB_Mo_weight_0 {X : Xt} {E : En} (g : GG X E 2 b_Mo_weight R_Mo 4) (a1 : Int32) (σ : Sto) : VV X E b_Mo_weight 4 eI 0 [(0, .ref (E.2.1 48)), (1, .int a1)] [] σ (B_Mo_weight_0 a1 σ) := by
  unfold B_Mo_weight_0
  refine v_aload_n 0 g d_Mo_weight_0 rfl ?_
  refine v_getR 51 g ff_Mo_16 rfl rfl rfl d_Mo_weight_1 ?_
  refine v_iload_n 1 g d_Mo_weight_4 rfl ?_
  refine v_lald g rfl rfl d_Mo_weight_5 (fun _ => ?_)
  refine v_callI (r_S (rest := []) [.long (gL σ 51 (Int32.toNatClampNeg a1))] g (m1 1188 (by decide +kernel) (by decide +kernel)) ys_Mo_many (fun r σ1 h => sp_Mo_many g.2.2.1  h) rfl rfl (by decide) (Nat.le_of_ble_eq_true rfl) d_Mo_weight_6) (fun q1 => ?_)
  refine v_istore_n [(2, .int q1.1), (0, .ref (E.2.1 48)), (1, .int a1)] g d_Mo_weight_9 (by decide) rfl ?_
  refine v_aload_n 1 g d_Mo_weight_10 rfl ?_
  refine v_getR 50 g ff_Mo_13 rfl rfl rfl d_Mo_weight_11 ?_
  refine v_iload_n 2 g d_Mo_weight_14 rfl ?_
  refine v_iald g rfl rfl d_Mo_weight_15 (fun _ => ?_)
  refine v_iload_n 0 g d_Mo_weight_16 rfl ?_
  refine v_icmp_le 31 g d_Mo_weight_17 (by decide) (fun _ => ?_) (fun _ => ?_)
  · refine v_iconst (v := (0 : Int32)) g d_Mo_weight_31 (by decide +kernel) ?_
    exact v_sub [1,2,0] rfl (vB_Mo_weight_32 g a1 q1.1 (0 : Int32) q1.2)
  · refine v_aload_n 1 g d_Mo_weight_20 rfl ?_
    refine v_getR 50 g ff_Mo_13 rfl rfl rfl d_Mo_weight_21 ?_
    refine v_iload_n 2 g d_Mo_weight_24 rfl ?_
    refine v_iald g rfl rfl d_Mo_weight_25 (fun _ => ?_)
    refine v_iload_n 0 g d_Mo_weight_26 rfl ?_
    refine v_isub g d_Mo_weight_27 ?_
    refine v_goto 32 g d_Mo_weight_28 (by decide) ?_
    exact v_sub [1,2,0] rfl (vB_Mo_weight_32 g a1 q1.1 ((gI q1.2 50 (Int32.toNatClampNeg a1)) - q1.1) q1.2)
def f_Mo_weight (a1 : Int32) (σ : Sto) : Option (Int32 × Sto) := B_Mo_weight_0 a1 σ
theorem sp_Mo_weight {l : Launch} {E : En} (hE : Dj E) {a1 : Int32} {σ : Sto} {r : Int32} {σ' : Sto} (h : f_Mo_weight a1 σ = some (r, σ')) : Ct l E y_Mo_weight (wsM y_Mo_weight b_Mo_weight 4 (some .int)) 2 [.ref (E.2.1 48), .int a1] σ (eI r) σ' :=
  ct_of hE (by decide +kernel) (Nat.le_of_ble_eq_true rfl) (fun x => Or.inl ⟨rfl, x, rfl⟩) (fun X _ g => vB_Mo_weight_0 g a1 σ) r σ' h
/-! method FittingRingsModel.told(II)I -/
theorem yv_Mo_told : YV y_Mo_told b_Mo_told 3 (some .int) 2 10 := ⟨m1 1176 (by decide +kernel) (by decide +kernel), m1 1177 (by decide +kernel) (by decide +kernel), ini_Mo, m1 1178 (by decide +kernel) (by decide +kernel), ⟨by decide +kernel, by decide +kernel, by decide +kernel⟩, by decide, by decide, T_Mo, 39, rfl⟩
theorem d_Mo_told_0 : decode b_Mo_told 0 = .ok (.aload_n 0, 1) := by decide +kernel
theorem d_Mo_told_1 : decode b_Mo_told 1 = .ok (.iload_n 1, 1) := by decide +kernel
theorem d_Mo_told_2 : decode b_Mo_told 2 = .ok (.invokevirtual 100, 3) := by decide +kernel
theorem d_Mo_told_5 : decode b_Mo_told 5 = .ok (.ifCond .eq 15, 3) := by decide +kernel
theorem d_Mo_told_8 : decode b_Mo_told 8 = .ok (.iload_n 2, 1) := by decide +kernel
theorem d_Mo_told_9 : decode b_Mo_told 9 = .ok (.i2l, 1) := by decide +kernel
theorem d_Mo_told_10 : decode b_Mo_told 10 = .ok (.lconst 0, 1) := by decide +kernel
theorem d_Mo_told_11 : decode b_Mo_told 11 = .ok (.ldc2_w 104, 3) := by decide +kernel
theorem d_Mo_told_14 : decode b_Mo_told 14 = .ok (.invokestatic 84, 3) := by decide +kernel
theorem d_Mo_told_17 : decode b_Mo_told 17 = .ok (.ifCond .ne 6, 3) := by decide +kernel
theorem d_Mo_told_20 : decode b_Mo_told 20 = .ok (.bipush (-2), 2) := by decide +kernel
theorem d_Mo_told_22 : decode b_Mo_told 22 = .ok (.ireturn, 1) := by decide +kernel
theorem d_Mo_told_23 : decode b_Mo_told 23 = .ok (.iload_n 2, 1) := by decide +kernel
theorem d_Mo_told_24 : decode b_Mo_told 24 = .ok (.ifCond .ne 12, 3) := by decide +kernel
theorem d_Mo_told_27 : decode b_Mo_told 27 = .ok (.aload_n 0, 1) := by decide +kernel
theorem d_Mo_told_28 : decode b_Mo_told 28 = .ok (.getfield 9, 3) := by decide +kernel
theorem d_Mo_told_31 : decode b_Mo_told 31 = .ok (.iload_n 1, 1) := by decide +kernel
theorem d_Mo_told_32 : decode b_Mo_told 32 = .ok (.iaload, 1) := by decide +kernel
theorem d_Mo_told_33 : decode b_Mo_told 33 = .ok (.goto 39, 3) := by decide +kernel
theorem d_Mo_told_36 : decode b_Mo_told 36 = .ok (.iload_n 2, 1) := by decide +kernel
theorem d_Mo_told_37 : decode b_Mo_told 37 = .ok (.iconst 1, 1) := by decide +kernel
theorem d_Mo_told_38 : decode b_Mo_told 38 = .ok (.if_icmp .ne 12, 3) := by decide +kernel
theorem d_Mo_told_41 : decode b_Mo_told 41 = .ok (.aload_n 0, 1) := by decide +kernel
theorem d_Mo_told_42 : decode b_Mo_told 42 = .ok (.getfield 13, 3) := by decide +kernel
theorem d_Mo_told_45 : decode b_Mo_told 45 = .ok (.iload_n 1, 1) := by decide +kernel
theorem d_Mo_told_46 : decode b_Mo_told 46 = .ok (.iaload, 1) := by decide +kernel
theorem d_Mo_told_47 : decode b_Mo_told 47 = .ok (.goto 25, 3) := by decide +kernel
theorem d_Mo_told_50 : decode b_Mo_told 50 = .ok (.iload_n 2, 1) := by decide +kernel
theorem d_Mo_told_51 : decode b_Mo_told 51 = .ok (.iconst 2, 1) := by decide +kernel
theorem d_Mo_told_52 : decode b_Mo_told 52 = .ok (.if_icmp .ne 11, 3) := by decide +kernel
theorem d_Mo_told_55 : decode b_Mo_told 55 = .ok (.aload_n 0, 1) := by decide +kernel
theorem d_Mo_told_56 : decode b_Mo_told 56 = .ok (.iload_n 1, 1) := by decide +kernel
theorem d_Mo_told_57 : decode b_Mo_told 57 = .ok (.invokevirtual 106, 3) := by decide +kernel
theorem d_Mo_told_60 : decode b_Mo_told 60 = .ok (.goto 12, 3) := by decide +kernel
theorem d_Mo_told_63 : decode b_Mo_told 63 = .ok (.aload_n 0, 1) := by decide +kernel
theorem d_Mo_told_64 : decode b_Mo_told 64 = .ok (.getfield 16, 3) := by decide +kernel
theorem d_Mo_told_67 : decode b_Mo_told 67 = .ok (.iload_n 1, 1) := by decide +kernel
theorem d_Mo_told_68 : decode b_Mo_told 68 = .ok (.laload, 1) := by decide +kernel
theorem d_Mo_told_69 : decode b_Mo_told 69 = .ok (.invokestatic 96, 3) := by decide +kernel
theorem d_Mo_told_72 : decode b_Mo_told 72 = .ok (.ireturn, 1) := by decide +kernel
def B_Mo_told_0 (a1 : Int32) (a2 : Int32) (σ : Sto) : Option (Int32 × Sto) :=
  ((f_Mo_isPoint a1 σ).bind fun q1 => (if (b2i q1.1) = 0 then some ((-2 : Int32), q1.2)
 else ((f_Mo_in (Int32.toInt64 a2) (0 : Int64) (3 : Int64) q1.2).bind fun q2 => (if (b2i q2.1) = 0 then some ((-2 : Int32), q2.2)
  else (if a2 = 0 then (if inb a1 40 = true then some ((gI q2.2 49 (Int32.toNatClampNeg a1)), q2.2) else none)
   else (if a2 = (1 : Int32) then (if inb a1 40 = true then some ((gI q2.2 50 (Int32.toNatClampNeg a1)), q2.2) else none)
    else (if a2 = (2 : Int32) then ((f_Mo_weight a1 q2.2).bind fun q4 => some (q4.1, q4.2))
     else (if inb a1 40 = true then ((f_Mo_many (gL q2.2 51 (Int32.toNatClampNeg a1)) q2.2).bind fun q3 => some (q3.1, q3.2)) else none))))))))
set_option maxHeartbeats 4000000 in
set_option maxRecDepth 100000 in
theorem vB_Mo_told_0 {X : Xt} {E : En} (g : GG X E 3 b_Mo_told R_Mo 3) (a1 : Int32) (a2 : Int32) (σ : Sto) : VV X E b_Mo_told 3 eI 0 [(0, .ref (E.2.1 48)), (1, .int a1), (2, .int a2)] [] σ (B_Mo_told_0 a1 a2 σ) := by
  unfold B_Mo_told_0
  refine v_aload_n 0 g d_Mo_told_0 rfl ?_
  refine v_iload_n 1 g d_Mo_told_1 rfl ?_
  refine v_callB (r_V (rest := []) [.int a1] g (m1 1179 (by decide +kernel) (by decide +kernel)) yv_Mo_isPoint rfl (fun r σ1 h => sp_Mo_isPoint g.2.2.1  h) rfl rfl (by decide) (Nat.le_of_ble_eq_true rfl) d_Mo_told_2) (fun q1 => ?_)
  refine v_if_eq 20 g d_Mo_told_5 (by decide) (fun _ => ?_) (fun _ => ?_)
  · refine v_bipush (v := (-2 : Int32)) g d_Mo_told_20 (by decide +kernel) ?_
    exact v_ret d_Mo_told_22 rfl
  · refine v_iload_n 2 g d_Mo_told_8 rfl ?_
    refine v_i2l g d_Mo_told_9 ?_
    refine v_lconst (v := (0 : Int64)) g d_Mo_told_10 (by decide +kernel) ?_
    refine v_ldc2 (v := (3 : Int64)) g (m1 1183 (by decide +kernel) (by decide +kernel)) d_Mo_told_11 ?_
    refine v_callB (r_S (rest := []) [.long (Int32.toInt64 a2), .long (0 : Int64), .long (3 : Int64)] g (m1 1167 (by decide +kernel) (by decide +kernel)) ys_Mo_in (fun r σ1 h => sp_Mo_in g.2.2.1  h) rfl rfl (by decide) (Nat.le_of_ble_eq_true rfl) d_Mo_told_14) (fun q2 => ?_)
    refine v_if_ne 23 g d_Mo_told_17 (by decide) (fun _ => ?_) (fun _ => ?_)
    · refine v_iload_n 2 g d_Mo_told_23 rfl ?_
      refine v_if_ne 36 g d_Mo_told_24 (by decide) (fun _ => ?_) (fun _ => ?_)
      · refine v_iload_n 2 g d_Mo_told_36 rfl ?_
        refine v_iconst (v := (1 : Int32)) g d_Mo_told_37 (by decide +kernel) ?_
        refine v_icmp_ne 50 g d_Mo_told_38 (by decide) (fun _ => ?_) (fun _ => ?_)
        · refine v_iload_n 2 g d_Mo_told_50 rfl ?_
          refine v_iconst (v := (2 : Int32)) g d_Mo_told_51 (by decide +kernel) ?_
          refine v_icmp_ne 63 g d_Mo_told_52 (by decide) (fun _ => ?_) (fun _ => ?_)
          · refine v_aload_n 0 g d_Mo_told_63 rfl ?_
            refine v_getR 51 g ff_Mo_16 rfl rfl rfl d_Mo_told_64 ?_
            refine v_iload_n 1 g d_Mo_told_67 rfl ?_
            refine v_lald g rfl rfl d_Mo_told_68 (fun _ => ?_)
            refine v_callI (r_S (rest := []) [.long (gL q2.2 51 (Int32.toNatClampNeg a1))] g (m1 1188 (by decide +kernel) (by decide +kernel)) ys_Mo_many (fun r σ1 h => sp_Mo_many g.2.2.1  h) rfl rfl (by decide) (Nat.le_of_ble_eq_true rfl) d_Mo_told_69) (fun q3 => ?_)
            exact v_ret d_Mo_told_72 rfl
          · refine v_aload_n 0 g d_Mo_told_55 rfl ?_
            refine v_iload_n 1 g d_Mo_told_56 rfl ?_
            refine v_callI (r_V (rest := []) [.int a1] g (m1 1184 (by decide +kernel) (by decide +kernel)) yv_Mo_weight rfl (fun r σ1 h => sp_Mo_weight g.2.2.1  h) rfl rfl (by decide) (Nat.le_of_ble_eq_true rfl) d_Mo_told_57) (fun q4 => ?_)
            refine v_goto 72 g d_Mo_told_60 (by decide) ?_
            exact v_ret d_Mo_told_72 rfl
        · refine v_aload_n 0 g d_Mo_told_41 rfl ?_
          refine v_getR 50 g ff_Mo_13 rfl rfl rfl d_Mo_told_42 ?_
          refine v_iload_n 1 g d_Mo_told_45 rfl ?_
          refine v_iald g rfl rfl d_Mo_told_46 (fun _ => ?_)
          refine v_goto 72 g d_Mo_told_47 (by decide) ?_
          exact v_ret d_Mo_told_72 rfl
      · refine v_aload_n 0 g d_Mo_told_27 rfl ?_
        refine v_getR 49 g ff_Mo_9 rfl rfl rfl d_Mo_told_28 ?_
        refine v_iload_n 1 g d_Mo_told_31 rfl ?_
        refine v_iald g rfl rfl d_Mo_told_32 (fun _ => ?_)
        refine v_goto 72 g d_Mo_told_33 (by decide) ?_
        exact v_ret d_Mo_told_72 rfl
    · refine v_bipush (v := (-2 : Int32)) g d_Mo_told_20 (by decide +kernel) ?_
      exact v_ret d_Mo_told_22 rfl
def f_Mo_told (a1 : Int32) (a2 : Int32) (σ : Sto) : Option (Int32 × Sto) := B_Mo_told_0 a1 a2 σ
theorem sp_Mo_told {l : Launch} {E : En} (hE : Dj E) {a1 : Int32} {a2 : Int32} {σ : Sto} {r : Int32} {σ' : Sto} (h : f_Mo_told a1 a2 σ = some (r, σ')) : Ct l E y_Mo_told (wsM y_Mo_told b_Mo_told 3 (some .int)) 3 [.ref (E.2.1 48), .int a1, .int a2] σ (eI r) σ' :=
  ct_of hE (by decide +kernel) (Nat.le_of_ble_eq_true rfl) (fun x => Or.inl ⟨rfl, x, rfl⟩) (fun X _ g => vB_Mo_told_0 g a1 a2 σ) r σ' h
/-! method FittingRingsModel.set(II)I -/
theorem yv_Mo_set : YV y_Mo_set b_Mo_set 4 (some .int) 2 10 := ⟨m1 1192 (by decide +kernel) (by decide +kernel), m1 1193 (by decide +kernel) (by decide +kernel), ini_Mo, m1 1194 (by decide +kernel) (by decide +kernel), ⟨by decide +kernel, by decide +kernel, by decide +kernel⟩, by decide, by decide, T_Mo, 39, rfl⟩
theorem d_Mo_set_0 : decode b_Mo_set 0 = .ok (.aload_n 0, 1) := by decide +kernel
theorem d_Mo_set_1 : decode b_Mo_set 1 = .ok (.iload_n 1, 1) := by decide +kernel
theorem d_Mo_set_2 : decode b_Mo_set 2 = .ok (.invokevirtual 100, 3) := by decide +kernel
theorem d_Mo_set_5 : decode b_Mo_set 5 = .ok (.ifCond .eq 15, 3) := by decide +kernel
theorem d_Mo_set_8 : decode b_Mo_set 8 = .ok (.iload_n 2, 1) := by decide +kernel
theorem d_Mo_set_9 : decode b_Mo_set 9 = .ok (.i2l, 1) := by decide +kernel
theorem d_Mo_set_10 : decode b_Mo_set 10 = .ok (.lconst 0, 1) := by decide +kernel
theorem d_Mo_set_11 : decode b_Mo_set 11 = .ok (.ldc2_w 90, 3) := by decide +kernel
theorem d_Mo_set_14 : decode b_Mo_set 14 = .ok (.invokestatic 84, 3) := by decide +kernel
theorem d_Mo_set_17 : decode b_Mo_set 17 = .ok (.ifCond .ne 6, 3) := by decide +kernel
theorem d_Mo_set_20 : decode b_Mo_set 20 = .ok (.bipush (-2), 2) := by decide +kernel
theorem d_Mo_set_22 : decode b_Mo_set 22 = .ok (.ireturn, 1) := by decide +kernel
theorem d_Mo_set_23 : decode b_Mo_set 23 = .ok (.aload_n 0, 1) := by decide +kernel
theorem d_Mo_set_24 : decode b_Mo_set 24 = .ok (.getfield 13, 3) := by decide +kernel
theorem d_Mo_set_27 : decode b_Mo_set 27 = .ok (.iload_n 1, 1) := by decide +kernel
theorem d_Mo_set_28 : decode b_Mo_set 28 = .ok (.iaload, 1) := by decide +kernel
theorem d_Mo_set_29 : decode b_Mo_set 29 = .ok (.istore_n 3, 1) := by decide +kernel
theorem d_Mo_set_30 : decode b_Mo_set 30 = .ok (.aload_n 0, 1) := by decide +kernel
theorem d_Mo_set_31 : decode b_Mo_set 31 = .ok (.getfield 13, 3) := by decide +kernel
theorem d_Mo_set_34 : decode b_Mo_set 34 = .ok (.iload_n 1, 1) := by decide +kernel
theorem d_Mo_set_35 : decode b_Mo_set 35 = .ok (.iload_n 2, 1) := by decide +kernel
theorem d_Mo_set_36 : decode b_Mo_set 36 = .ok (.iastore, 1) := by decide +kernel
theorem d_Mo_set_37 : decode b_Mo_set 37 = .ok (.iload_n 3, 1) := by decide +kernel
theorem d_Mo_set_38 : decode b_Mo_set 38 = .ok (.ireturn, 1) := by decide +kernel
def B_Mo_set_0 (a1 : Int32) (a2 : Int32) (σ : Sto) : Option (Int32 × Sto) :=
  ((f_Mo_isPoint a1 σ).bind fun q1 => (if (b2i q1.1) = 0 then some ((-2 : Int32), q1.2)
 else ((f_Mo_in (Int32.toInt64 a2) (0 : Int64) (99 : Int64) q1.2).bind fun q2 => (if (b2i q2.1) = 0 then some ((-2 : Int32), q2.2)
  else (if inb a1 40 = true then (lt1 (gI q2.2 50 (Int32.toNatClampNeg a1)) fun x3 => (if inb a1 40 = true then some (x3, (sI q2.2 50 (Int32.toNatClampNeg a1) a2)) else none)) else none)))))
set_option maxHeartbeats 4000000 in
set_option maxRecDepth 100000 in
theorem vB_Mo_set_0 {X : Xt} {E : En} (g : GG X E 3 b_Mo_set R_Mo 4) (a1 : Int32) (a2 : Int32) (σ : Sto) : VV X E b_Mo_set 4 eI 0 [(0, .ref (E.2.1 48)), (1, .int a1), (2, .int a2)] [] σ (B_Mo_set_0 a1 a2 σ) := by
  unfold B_Mo_set_0
  refine v_aload_n 0 g d_Mo_set_0 rfl ?_
  refine v_iload_n 1 g d_Mo_set_1 rfl ?_
  refine v_callB (r_V (rest := []) [.int a1] g (m1 1179 (by decide +kernel) (by decide +kernel)) yv_Mo_isPoint rfl (fun r σ1 h => sp_Mo_isPoint g.2.2.1  h) rfl rfl (by decide) (Nat.le_of_ble_eq_true rfl) d_Mo_set_2) (fun q1 => ?_)
  refine v_if_eq 20 g d_Mo_set_5 (by decide) (fun _ => ?_) (fun _ => ?_)
  · refine v_bipush (v := (-2 : Int32)) g d_Mo_set_20 (by decide +kernel) ?_
    exact v_ret d_Mo_set_22 rfl
  · refine v_iload_n 2 g d_Mo_set_8 rfl ?_
    refine v_i2l g d_Mo_set_9 ?_
    refine v_lconst (v := (0 : Int64)) g d_Mo_set_10 (by decide +kernel) ?_
    refine v_ldc2 (v := (99 : Int64)) g (m1 1170 (by decide +kernel) (by decide +kernel)) d_Mo_set_11 ?_
    refine v_callB (r_S (rest := []) [.long (Int32.toInt64 a2), .long (0 : Int64), .long (99 : Int64)] g (m1 1167 (by decide +kernel) (by decide +kernel)) ys_Mo_in (fun r σ1 h => sp_Mo_in g.2.2.1  h) rfl rfl (by decide) (Nat.le_of_ble_eq_true rfl) d_Mo_set_14) (fun q2 => ?_)
    refine v_if_ne 23 g d_Mo_set_17 (by decide) (fun _ => ?_) (fun _ => ?_)
    · refine v_aload_n 0 g d_Mo_set_23 rfl ?_
      refine v_getR 50 g ff_Mo_13 rfl rfl rfl d_Mo_set_24 ?_
      refine v_iload_n 1 g d_Mo_set_27 rfl ?_
      refine v_iald g rfl rfl d_Mo_set_28 (fun _ => ?_)
      refine v_nlet (fun x3 ex3 => ?_)
      rw [← ex3]
      refine v_istore_n [(3, .int x3), (0, .ref (E.2.1 48)), (1, .int a1), (2, .int a2)] g d_Mo_set_29 (by decide) rfl ?_
      refine v_aload_n 1 g d_Mo_set_30 rfl ?_
      refine v_getR 50 g ff_Mo_13 rfl rfl rfl d_Mo_set_31 ?_
      refine v_iload_n 2 g d_Mo_set_34 rfl ?_
      refine v_iload_n 3 g d_Mo_set_35 rfl ?_
      refine v_iast g rfl rfl d_Mo_set_36 (fun _ => ?_)
      refine v_iload_n 0 g d_Mo_set_37 rfl ?_
      exact v_ret d_Mo_set_38 rfl
    · refine v_bipush (v := (-2 : Int32)) g d_Mo_set_20 (by decide +kernel) ?_
      exact v_ret d_Mo_set_22 rfl
def f_Mo_set (a1 : Int32) (a2 : Int32) (σ : Sto) : Option (Int32 × Sto) := B_Mo_set_0 a1 a2 σ
theorem sp_Mo_set {l : Launch} {E : En} (hE : Dj E) {a1 : Int32} {a2 : Int32} {σ : Sto} {r : Int32} {σ' : Sto} (h : f_Mo_set a1 a2 σ = some (r, σ')) : Ct l E y_Mo_set (wsM y_Mo_set b_Mo_set 4 (some .int)) 3 [.ref (E.2.1 48), .int a1, .int a2] σ (eI r) σ' :=
  ct_of hE (by decide +kernel) (Nat.le_of_ble_eq_true rfl) (fun x => Or.inl ⟨rfl, x, rfl⟩) (fun X _ g => vB_Mo_set_0 g a1 a2 σ) r σ' h
/-! method FittingRingsModel.turns(II)I -/
theorem yv_Mo_turns : YV y_Mo_turns b_Mo_turns 4 (some .int) 2 10 := ⟨m1 1196 (by decide +kernel) (by decide +kernel), m1 1197 (by decide +kernel) (by decide +kernel), ini_Mo, m1 1198 (by decide +kernel) (by decide +kernel), ⟨by decide +kernel, by decide +kernel, by decide +kernel⟩, by decide, by decide, T_Mo, 39, rfl⟩
theorem d_Mo_turns_0 : decode b_Mo_turns 0 = .ok (.aload_n 0, 1) := by decide +kernel
theorem d_Mo_turns_1 : decode b_Mo_turns 1 = .ok (.iload_n 1, 1) := by decide +kernel
theorem d_Mo_turns_2 : decode b_Mo_turns 2 = .ok (.invokevirtual 100, 3) := by decide +kernel
theorem d_Mo_turns_5 : decode b_Mo_turns 5 = .ok (.ifCond .eq 15, 3) := by decide +kernel
theorem d_Mo_turns_8 : decode b_Mo_turns 8 = .ok (.iload_n 2, 1) := by decide +kernel
theorem d_Mo_turns_9 : decode b_Mo_turns 9 = .ok (.i2l, 1) := by decide +kernel
theorem d_Mo_turns_10 : decode b_Mo_turns 10 = .ok (.lconst 0, 1) := by decide +kernel
theorem d_Mo_turns_11 : decode b_Mo_turns 11 = .ok (.ldc2_w 88, 3) := by decide +kernel
theorem d_Mo_turns_14 : decode b_Mo_turns 14 = .ok (.invokestatic 84, 3) := by decide +kernel
theorem d_Mo_turns_17 : decode b_Mo_turns 17 = .ok (.ifCond .ne 6, 3) := by decide +kernel
theorem d_Mo_turns_20 : decode b_Mo_turns 20 = .ok (.bipush (-2), 2) := by decide +kernel
theorem d_Mo_turns_22 : decode b_Mo_turns 22 = .ok (.ireturn, 1) := by decide +kernel
theorem d_Mo_turns_23 : decode b_Mo_turns 23 = .ok (.aload_n 0, 1) := by decide +kernel
theorem d_Mo_turns_24 : decode b_Mo_turns 24 = .ok (.getfield 9, 3) := by decide +kernel
theorem d_Mo_turns_27 : decode b_Mo_turns 27 = .ok (.iload_n 1, 1) := by decide +kernel
theorem d_Mo_turns_28 : decode b_Mo_turns 28 = .ok (.iaload, 1) := by decide +kernel
theorem d_Mo_turns_29 : decode b_Mo_turns 29 = .ok (.istore_n 3, 1) := by decide +kernel
theorem d_Mo_turns_30 : decode b_Mo_turns 30 = .ok (.aload_n 0, 1) := by decide +kernel
theorem d_Mo_turns_31 : decode b_Mo_turns 31 = .ok (.getfield 9, 3) := by decide +kernel
theorem d_Mo_turns_34 : decode b_Mo_turns 34 = .ok (.iload_n 1, 1) := by decide +kernel
theorem d_Mo_turns_35 : decode b_Mo_turns 35 = .ok (.iload_n 2, 1) := by decide +kernel
theorem d_Mo_turns_36 : decode b_Mo_turns 36 = .ok (.iastore, 1) := by decide +kernel
theorem d_Mo_turns_37 : decode b_Mo_turns 37 = .ok (.iload_n 3, 1) := by decide +kernel
theorem d_Mo_turns_38 : decode b_Mo_turns 38 = .ok (.ireturn, 1) := by decide +kernel
def B_Mo_turns_0 (a1 : Int32) (a2 : Int32) (σ : Sto) : Option (Int32 × Sto) :=
  ((f_Mo_isPoint a1 σ).bind fun q1 => (if (b2i q1.1) = 0 then some ((-2 : Int32), q1.2)
 else ((f_Mo_in (Int32.toInt64 a2) (0 : Int64) (5 : Int64) q1.2).bind fun q2 => (if (b2i q2.1) = 0 then some ((-2 : Int32), q2.2)
  else (if inb a1 40 = true then (lt1 (gI q2.2 49 (Int32.toNatClampNeg a1)) fun x3 => (if inb a1 40 = true then some (x3, (sI q2.2 49 (Int32.toNatClampNeg a1) a2)) else none)) else none)))))
set_option maxHeartbeats 4000000 in
set_option maxRecDepth 100000 in
theorem vB_Mo_turns_0 {X : Xt} {E : En} (g : GG X E 3 b_Mo_turns R_Mo 4) (a1 : Int32) (a2 : Int32) (σ : Sto) : VV X E b_Mo_turns 4 eI 0 [(0, .ref (E.2.1 48)), (1, .int a1), (2, .int a2)] [] σ (B_Mo_turns_0 a1 a2 σ) := by
  unfold B_Mo_turns_0
  refine v_aload_n 0 g d_Mo_turns_0 rfl ?_
  refine v_iload_n 1 g d_Mo_turns_1 rfl ?_
  refine v_callB (r_V (rest := []) [.int a1] g (m1 1179 (by decide +kernel) (by decide +kernel)) yv_Mo_isPoint rfl (fun r σ1 h => sp_Mo_isPoint g.2.2.1  h) rfl rfl (by decide) (Nat.le_of_ble_eq_true rfl) d_Mo_turns_2) (fun q1 => ?_)
  refine v_if_eq 20 g d_Mo_turns_5 (by decide) (fun _ => ?_) (fun _ => ?_)
  · refine v_bipush (v := (-2 : Int32)) g d_Mo_turns_20 (by decide +kernel) ?_
    exact v_ret d_Mo_turns_22 rfl
  · refine v_iload_n 2 g d_Mo_turns_8 rfl ?_
    refine v_i2l g d_Mo_turns_9 ?_
    refine v_lconst (v := (0 : Int64)) g d_Mo_turns_10 (by decide +kernel) ?_
    refine v_ldc2 (v := (5 : Int64)) g (m1 1166 (by decide +kernel) (by decide +kernel)) d_Mo_turns_11 ?_
    refine v_callB (r_S (rest := []) [.long (Int32.toInt64 a2), .long (0 : Int64), .long (5 : Int64)] g (m1 1167 (by decide +kernel) (by decide +kernel)) ys_Mo_in (fun r σ1 h => sp_Mo_in g.2.2.1  h) rfl rfl (by decide) (Nat.le_of_ble_eq_true rfl) d_Mo_turns_14) (fun q2 => ?_)
    refine v_if_ne 23 g d_Mo_turns_17 (by decide) (fun _ => ?_) (fun _ => ?_)
    · refine v_aload_n 0 g d_Mo_turns_23 rfl ?_
      refine v_getR 49 g ff_Mo_9 rfl rfl rfl d_Mo_turns_24 ?_
      refine v_iload_n 1 g d_Mo_turns_27 rfl ?_
      refine v_iald g rfl rfl d_Mo_turns_28 (fun _ => ?_)
      refine v_nlet (fun x3 ex3 => ?_)
      rw [← ex3]
      refine v_istore_n [(3, .int x3), (0, .ref (E.2.1 48)), (1, .int a1), (2, .int a2)] g d_Mo_turns_29 (by decide) rfl ?_
      refine v_aload_n 1 g d_Mo_turns_30 rfl ?_
      refine v_getR 49 g ff_Mo_9 rfl rfl rfl d_Mo_turns_31 ?_
      refine v_iload_n 2 g d_Mo_turns_34 rfl ?_
      refine v_iload_n 3 g d_Mo_turns_35 rfl ?_
      refine v_iast g rfl rfl d_Mo_turns_36 (fun _ => ?_)
      refine v_iload_n 0 g d_Mo_turns_37 rfl ?_
      exact v_ret d_Mo_turns_38 rfl
    · refine v_bipush (v := (-2 : Int32)) g d_Mo_turns_20 (by decide +kernel) ?_
      exact v_ret d_Mo_turns_22 rfl
def f_Mo_turns (a1 : Int32) (a2 : Int32) (σ : Sto) : Option (Int32 × Sto) := B_Mo_turns_0 a1 a2 σ
theorem sp_Mo_turns {l : Launch} {E : En} (hE : Dj E) {a1 : Int32} {a2 : Int32} {σ : Sto} {r : Int32} {σ' : Sto} (h : f_Mo_turns a1 a2 σ = some (r, σ')) : Ct l E y_Mo_turns (wsM y_Mo_turns b_Mo_turns 4 (some .int)) 3 [.ref (E.2.1 48), .int a1, .int a2] σ (eI r) σ' :=
  ct_of hE (by decide +kernel) (Nat.le_of_ble_eq_true rfl) (fun x => Or.inl ⟨rfl, x, rfl⟩) (fun X _ g => vB_Mo_turns_0 g a1 a2 σ) r σ' h
/-! method FittingRingsModel.puts(IIZ)V -/
theorem yv_Mo_puts : YV y_Mo_puts b_Mo_puts 4 (none) 3 10 := ⟨m1 1211 (by decide +kernel) (by decide +kernel), m1 28 (by decide +kernel) (by decide +kernel), ini_Mo, m1 1212 (by decide +kernel) (by decide +kernel), ⟨by decide +kernel, by decide +kernel, by decide +kernel⟩, by decide, by decide, T_Mo, 39, rfl⟩
theorem d_Mo_puts_0 : decode b_Mo_puts 0 = .ok (.aload_n 0, 1) := by decide +kernel
theorem d_Mo_puts_1 : decode b_Mo_puts 1 = .ok (.getfield 16, 3) := by decide +kernel
theorem d_Mo_puts_4 : decode b_Mo_puts 4 = .ok (.iload_n 1, 1) := by decide +kernel
theorem d_Mo_puts_5 : decode b_Mo_puts 5 = .ok (.iload_n 3, 1) := by decide +kernel
theorem d_Mo_puts_6 : decode b_Mo_puts 6 = .ok (.ifCond .eq 17, 3) := by decide +kernel
theorem d_Mo_puts_9 : decode b_Mo_puts 9 = .ok (.aload_n 0, 1) := by decide +kernel
theorem d_Mo_puts_10 : decode b_Mo_puts 10 = .ok (.getfield 16, 3) := by decide +kernel
theorem d_Mo_puts_13 : decode b_Mo_puts 13 = .ok (.iload_n 1, 1) := by decide +kernel
theorem d_Mo_puts_14 : decode b_Mo_puts 14 = .ok (.laload, 1) := by decide +kernel
theorem d_Mo_puts_15 : decode b_Mo_puts 15 = .ok (.iload_n 2, 1) := by decide +kernel
theorem d_Mo_puts_16 : decode b_Mo_puts 16 = .ok (.invokestatic 110, 3) := by decide +kernel
theorem d_Mo_puts_19 : decode b_Mo_puts 19 = .ok (.lor, 1) := by decide +kernel
theorem d_Mo_puts_20 : decode b_Mo_puts 20 = .ok (.goto 18, 3) := by decide +kernel
theorem d_Mo_puts_23 : decode b_Mo_puts 23 = .ok (.aload_n 0, 1) := by decide +kernel
theorem d_Mo_puts_24 : decode b_Mo_puts 24 = .ok (.getfield 16, 3) := by decide +kernel
theorem d_Mo_puts_27 : decode b_Mo_puts 27 = .ok (.iload_n 1, 1) := by decide +kernel
theorem d_Mo_puts_28 : decode b_Mo_puts 28 = .ok (.laload, 1) := by decide +kernel
theorem d_Mo_puts_29 : decode b_Mo_puts 29 = .ok (.iload_n 2, 1) := by decide +kernel
theorem d_Mo_puts_30 : decode b_Mo_puts 30 = .ok (.invokestatic 110, 3) := by decide +kernel
theorem d_Mo_puts_33 : decode b_Mo_puts 33 = .ok (.ldc2_w 114, 3) := by decide +kernel
theorem d_Mo_puts_36 : decode b_Mo_puts 36 = .ok (.lxor, 1) := by decide +kernel
theorem d_Mo_puts_37 : decode b_Mo_puts 37 = .ok (.land, 1) := by decide +kernel
theorem d_Mo_puts_38 : decode b_Mo_puts 38 = .ok (.lastore, 1) := by decide +kernel
theorem d_Mo_puts_39 : decode b_Mo_puts 39 = .ok (.aload_n 0, 1) := by decide +kernel
theorem d_Mo_puts_40 : decode b_Mo_puts 40 = .ok (.getfield 16, 3) := by decide +kernel
theorem d_Mo_puts_43 : decode b_Mo_puts 43 = .ok (.iload_n 2, 1) := by decide +kernel
theorem d_Mo_puts_44 : decode b_Mo_puts 44 = .ok (.iload_n 3, 1) := by decide +kernel
theorem d_Mo_puts_45 : decode b_Mo_puts 45 = .ok (.ifCond .eq 17, 3) := by decide +kernel
theorem d_Mo_puts_48 : decode b_Mo_puts 48 = .ok (.aload_n 0, 1) := by decide +kernel
theorem d_Mo_puts_49 : decode b_Mo_puts 49 = .ok (.getfield 16, 3) := by decide +kernel
theorem d_Mo_puts_52 : decode b_Mo_puts 52 = .ok (.iload_n 2, 1) := by decide +kernel
theorem d_Mo_puts_53 : decode b_Mo_puts 53 = .ok (.laload, 1) := by decide +kernel
theorem d_Mo_puts_54 : decode b_Mo_puts 54 = .ok (.iload_n 1, 1) := by decide +kernel
theorem d_Mo_puts_55 : decode b_Mo_puts 55 = .ok (.invokestatic 110, 3) := by decide +kernel
theorem d_Mo_puts_58 : decode b_Mo_puts 58 = .ok (.lor, 1) := by decide +kernel
theorem d_Mo_puts_59 : decode b_Mo_puts 59 = .ok (.goto 18, 3) := by decide +kernel
theorem d_Mo_puts_62 : decode b_Mo_puts 62 = .ok (.aload_n 0, 1) := by decide +kernel
theorem d_Mo_puts_63 : decode b_Mo_puts 63 = .ok (.getfield 16, 3) := by decide +kernel
theorem d_Mo_puts_66 : decode b_Mo_puts 66 = .ok (.iload_n 2, 1) := by decide +kernel
theorem d_Mo_puts_67 : decode b_Mo_puts 67 = .ok (.laload, 1) := by decide +kernel
theorem d_Mo_puts_68 : decode b_Mo_puts 68 = .ok (.iload_n 1, 1) := by decide +kernel
theorem d_Mo_puts_69 : decode b_Mo_puts 69 = .ok (.invokestatic 110, 3) := by decide +kernel
theorem d_Mo_puts_72 : decode b_Mo_puts 72 = .ok (.ldc2_w 114, 3) := by decide +kernel
theorem d_Mo_puts_75 : decode b_Mo_puts 75 = .ok (.lxor, 1) := by decide +kernel
theorem d_Mo_puts_76 : decode b_Mo_puts 76 = .ok (.land, 1) := by decide +kernel
theorem d_Mo_puts_77 : decode b_Mo_puts 77 = .ok (.lastore, 1) := by decide +kernel
theorem d_Mo_puts_78 : decode b_Mo_puts 78 = .ok (.return_, 1) := by decide +kernel
def B_Mo_puts_38 (v1 : Int32) (v2 : Int32) (v3 : Int32) (s1 : Int32) (s2 : Int64) (σ : Sto) : Option (Unit × Sto) :=
  (if inb s1 40 = true then (if v3 = 0 then (if inb v2 40 = true then ((f_Mo_bit v1 (sL σ 51 (Int32.toNatClampNeg s1) s2)).bind fun q3 => (if inb v2 40 = true then (lt1 (sL q3.2 51 (Int32.toNatClampNeg v2) ((gL (sL σ 51 (Int32.toNatClampNeg s1) s2) 51 (Int32.toNatClampNeg v2)) &&& (q3.1 ^^^ (-1 : Int64)))) fun σ4 => some ((), σ4)) else none)) else none)
 else (if inb v2 40 = true then ((f_Mo_bit v1 (sL σ 51 (Int32.toNatClampNeg s1) s2)).bind fun q5 => (if inb v2 40 = true then (lt1 (sL q5.2 51 (Int32.toNatClampNeg v2) ((gL (sL σ 51 (Int32.toNatClampNeg s1) s2) 51 (Int32.toNatClampNeg v2)) ||| q5.1)) fun σ6 => some ((), σ6)) else none)) else none)) else none)
set_option maxHeartbeats 4000000 in
set_option maxRecDepth 100000 in
theorem vB_Mo_puts_38 {X : Xt} {E : En} (g : GG X E 2 b_Mo_puts R_Mo 4) (v1 : Int32) (v2 : Int32) (v3 : Int32) (s1 : Int32) (s2 : Int64) (σ : Sto) : VV X E b_Mo_puts 4 eU 38 [(0, .ref (E.2.1 48)), (1, .int v1), (2, .int v2), (3, .int v3)] [.long s2, .int s1, .ref (E.2.1 51)] σ (B_Mo_puts_38 v1 v2 v3 s1 s2 σ) := by
  unfold B_Mo_puts_38
  refine v_last g rfl rfl d_Mo_puts_38 (fun _ => ?_)
  refine v_aload_n 0 g d_Mo_puts_39 rfl ?_
  refine v_getR 51 g ff_Mo_16 rfl rfl rfl d_Mo_puts_40 ?_
  refine v_iload_n 2 g d_Mo_puts_43 rfl ?_
  refine v_iload_n 3 g d_Mo_puts_44 rfl ?_
  refine v_if_eq 62 g d_Mo_puts_45 (by decide) (fun _ => ?_) (fun _ => ?_)
  · refine v_aload_n 0 g d_Mo_puts_62 rfl ?_
    refine v_getR 51 g ff_Mo_16 rfl rfl rfl d_Mo_puts_63 ?_
    refine v_iload_n 2 g d_Mo_puts_66 rfl ?_
    refine v_lald g rfl rfl d_Mo_puts_67 (fun _ => ?_)
    refine v_iload_n 1 g d_Mo_puts_68 rfl ?_
    refine v_callL (r_S (rest := [.long (gL (sL σ 51 (Int32.toNatClampNeg s1) s2) 51 (Int32.toNatClampNeg v2)), .int v2, .ref (E.2.1 51)]) [.int v1] g (m1 1213 (by decide +kernel) (by decide +kernel)) ys_Mo_bit (fun r σ1 h => sp_Mo_bit g.2.2.1  h) rfl rfl (by decide) (Nat.le_of_ble_eq_true rfl) d_Mo_puts_69) (fun q3 => ?_)
    refine v_ldc2 (v := (-1 : Int64)) g (m1 1216 (by decide +kernel) (by decide +kernel)) d_Mo_puts_72 ?_
    refine v_lxor g d_Mo_puts_75 ?_
    refine v_land g d_Mo_puts_76 ?_
    refine v_last g rfl rfl d_Mo_puts_77 (fun _ => ?_)
    refine v_nlet (fun σ4 eσ4 => ?_)
    rw [← eσ4]
    exact v_ret d_Mo_puts_78 rfl
  · refine v_aload_n 0 g d_Mo_puts_48 rfl ?_
    refine v_getR 51 g ff_Mo_16 rfl rfl rfl d_Mo_puts_49 ?_
    refine v_iload_n 2 g d_Mo_puts_52 rfl ?_
    refine v_lald g rfl rfl d_Mo_puts_53 (fun _ => ?_)
    refine v_iload_n 1 g d_Mo_puts_54 rfl ?_
    refine v_callL (r_S (rest := [.long (gL (sL σ 51 (Int32.toNatClampNeg s1) s2) 51 (Int32.toNatClampNeg v2)), .int v2, .ref (E.2.1 51)]) [.int v1] g (m1 1213 (by decide +kernel) (by decide +kernel)) ys_Mo_bit (fun r σ1 h => sp_Mo_bit g.2.2.1  h) rfl rfl (by decide) (Nat.le_of_ble_eq_true rfl) d_Mo_puts_55) (fun q5 => ?_)
    refine v_lor g d_Mo_puts_58 ?_
    refine v_goto 77 g d_Mo_puts_59 (by decide) ?_
    refine v_last g rfl rfl d_Mo_puts_77 (fun _ => ?_)
    refine v_nlet (fun σ6 eσ6 => ?_)
    rw [← eσ6]
    exact v_ret d_Mo_puts_78 rfl
def B_Mo_puts_0 (a1 : Int32) (a2 : Int32) (a3 : Int32) (σ : Sto) : Option (Unit × Sto) :=
  (if a3 = 0 then (if inb a1 40 = true then ((f_Mo_bit a2 σ).bind fun q1 => B_Mo_puts_38 a1 a2 a3 a1 ((gL σ 51 (Int32.toNatClampNeg a1)) &&& (q1.1 ^^^ (-1 : Int64))) q1.2) else none)
 else (if inb a1 40 = true then ((f_Mo_bit a2 σ).bind fun q2 => B_Mo_puts_38 a1 a2 a3 a1 ((gL σ 51 (Int32.toNatClampNeg a1)) ||| q2.1) q2.2) else none))
set_option maxHeartbeats 4000000 in
set_option maxRecDepth 100000 in
theorem vB_Mo_puts_0 {X : Xt} {E : En} (g : GG X E 2 b_Mo_puts R_Mo 4) (a1 : Int32) (a2 : Int32) (a3 : Int32) (σ : Sto) : VV X E b_Mo_puts 4 eU 0 [(0, .ref (E.2.1 48)), (1, .int a1), (2, .int a2), (3, .int a3)] [] σ (B_Mo_puts_0 a1 a2 a3 σ) := by
  unfold B_Mo_puts_0
  refine v_aload_n 0 g d_Mo_puts_0 rfl ?_
  refine v_getR 51 g ff_Mo_16 rfl rfl rfl d_Mo_puts_1 ?_
  refine v_iload_n 1 g d_Mo_puts_4 rfl ?_
  refine v_iload_n 3 g d_Mo_puts_5 rfl ?_
  refine v_if_eq 23 g d_Mo_puts_6 (by decide) (fun _ => ?_) (fun _ => ?_)
  · refine v_aload_n 0 g d_Mo_puts_23 rfl ?_
    refine v_getR 51 g ff_Mo_16 rfl rfl rfl d_Mo_puts_24 ?_
    refine v_iload_n 1 g d_Mo_puts_27 rfl ?_
    refine v_lald g rfl rfl d_Mo_puts_28 (fun _ => ?_)
    refine v_iload_n 2 g d_Mo_puts_29 rfl ?_
    refine v_callL (r_S (rest := [.long (gL σ 51 (Int32.toNatClampNeg a1)), .int a1, .ref (E.2.1 51)]) [.int a2] g (m1 1213 (by decide +kernel) (by decide +kernel)) ys_Mo_bit (fun r σ1 h => sp_Mo_bit g.2.2.1  h) rfl rfl (by decide) (Nat.le_of_ble_eq_true rfl) d_Mo_puts_30) (fun q1 => ?_)
    refine v_ldc2 (v := (-1 : Int64)) g (m1 1216 (by decide +kernel) (by decide +kernel)) d_Mo_puts_33 ?_
    refine v_lxor g d_Mo_puts_36 ?_
    refine v_land g d_Mo_puts_37 ?_
    exact v_sub [0,1,2,3] rfl (vB_Mo_puts_38 g a1 a2 a3 a1 ((gL σ 51 (Int32.toNatClampNeg a1)) &&& (q1.1 ^^^ (-1 : Int64))) q1.2)
  · refine v_aload_n 0 g d_Mo_puts_9 rfl ?_
    refine v_getR 51 g ff_Mo_16 rfl rfl rfl d_Mo_puts_10 ?_
    refine v_iload_n 1 g d_Mo_puts_13 rfl ?_
    refine v_lald g rfl rfl d_Mo_puts_14 (fun _ => ?_)
    refine v_iload_n 2 g d_Mo_puts_15 rfl ?_
    refine v_callL (r_S (rest := [.long (gL σ 51 (Int32.toNatClampNeg a1)), .int a1, .ref (E.2.1 51)]) [.int a2] g (m1 1213 (by decide +kernel) (by decide +kernel)) ys_Mo_bit (fun r σ1 h => sp_Mo_bit g.2.2.1  h) rfl rfl (by decide) (Nat.le_of_ble_eq_true rfl) d_Mo_puts_16) (fun q2 => ?_)
    refine v_lor g d_Mo_puts_19 ?_
    refine v_goto 38 g d_Mo_puts_20 (by decide) ?_
    exact v_sub [0,1,2,3] rfl (vB_Mo_puts_38 g a1 a2 a3 a1 ((gL σ 51 (Int32.toNatClampNeg a1)) ||| q2.1) q2.2)
def f_Mo_puts (a1 : Int32) (a2 : Int32) (a3 : Int32) (σ : Sto) : Option (Unit × Sto) := B_Mo_puts_0 a1 a2 a3 σ
theorem sp_Mo_puts {l : Launch} {E : En} (hE : Dj E) {a1 : Int32} {a2 : Int32} {a3 : Int32} {σ : Sto} {r : Unit} {σ' : Sto} (h : f_Mo_puts a1 a2 a3 σ = some (r, σ')) : Ct l E y_Mo_puts (wsM y_Mo_puts b_Mo_puts 4 (none)) 2 [.ref (E.2.1 48), .int a1, .int a2, .int a3] σ (eU r) σ' :=
  ct_of hE (by decide +kernel) (Nat.le_of_ble_eq_true rfl) (fun _ => Or.inr (Or.inr (Or.inr (Or.inl ⟨rfl, rfl⟩)))) (fun X _ g => vB_Mo_puts_0 g a1 a2 a3 σ) r σ' h
/-! method FittingRingsModel.flips(II)V -/
theorem yv_Mo_flips : YV y_Mo_flips b_Mo_flips 3 (none) 2 10 := ⟨m1 1227 (by decide +kernel) (by decide +kernel), m1 30 (by decide +kernel) (by decide +kernel), ini_Mo, m1 1228 (by decide +kernel) (by decide +kernel), ⟨by decide +kernel, by decide +kernel, by decide +kernel⟩, by decide, by decide, T_Mo, 39, rfl⟩
theorem d_Mo_flips_0 : decode b_Mo_flips 0 = .ok (.aload_n 0, 1) := by decide +kernel
theorem d_Mo_flips_1 : decode b_Mo_flips 1 = .ok (.getfield 16, 3) := by decide +kernel
theorem d_Mo_flips_4 : decode b_Mo_flips 4 = .ok (.iload_n 1, 1) := by decide +kernel
theorem d_Mo_flips_5 : decode b_Mo_flips 5 = .ok (.dup2, 1) := by decide +kernel
theorem d_Mo_flips_6 : decode b_Mo_flips 6 = .ok (.laload, 1) := by decide +kernel
theorem d_Mo_flips_7 : decode b_Mo_flips 7 = .ok (.iload_n 2, 1) := by decide +kernel
theorem d_Mo_flips_8 : decode b_Mo_flips 8 = .ok (.invokestatic 110, 3) := by decide +kernel
theorem d_Mo_flips_11 : decode b_Mo_flips 11 = .ok (.lxor, 1) := by decide +kernel
theorem d_Mo_flips_12 : decode b_Mo_flips 12 = .ok (.lastore, 1) := by decide +kernel
theorem d_Mo_flips_13 : decode b_Mo_flips 13 = .ok (.aload_n 0, 1) := by decide +kernel
theorem d_Mo_flips_14 : decode b_Mo_flips 14 = .ok (.getfield 16, 3) := by decide +kernel
theorem d_Mo_flips_17 : decode b_Mo_flips 17 = .ok (.iload_n 2, 1) := by decide +kernel
theorem d_Mo_flips_18 : decode b_Mo_flips 18 = .ok (.dup2, 1) := by decide +kernel
theorem d_Mo_flips_19 : decode b_Mo_flips 19 = .ok (.laload, 1) := by decide +kernel
theorem d_Mo_flips_20 : decode b_Mo_flips 20 = .ok (.iload_n 1, 1) := by decide +kernel
theorem d_Mo_flips_21 : decode b_Mo_flips 21 = .ok (.invokestatic 110, 3) := by decide +kernel
theorem d_Mo_flips_24 : decode b_Mo_flips 24 = .ok (.lxor, 1) := by decide +kernel
theorem d_Mo_flips_25 : decode b_Mo_flips 25 = .ok (.lastore, 1) := by decide +kernel
theorem d_Mo_flips_26 : decode b_Mo_flips 26 = .ok (.return_, 1) := by decide +kernel
def B_Mo_flips_0 (a1 : Int32) (a2 : Int32) (σ : Sto) : Option (Unit × Sto) :=
  (if inb a1 40 = true then ((f_Mo_bit a2 σ).bind fun q1 => (if inb a1 40 = true then (lt1 (sL q1.2 51 (Int32.toNatClampNeg a1) ((gL σ 51 (Int32.toNatClampNeg a1)) ^^^ q1.1)) fun σ2 => (if inb a2 40 = true then ((f_Mo_bit a1 σ2).bind fun q3 => (if inb a2 40 = true then (lt1 (sL q3.2 51 (Int32.toNatClampNeg a2) ((gL σ2 51 (Int32.toNatClampNeg a2)) ^^^ q3.1)) fun σ4 => some ((), σ4)) else none)) else none)) else none)) else none)
set_option maxHeartbeats 4000000 in
set_option maxRecDepth 100000 in
theorem vB_Mo_flips_0 {X : Xt} {E : En} (g : GG X E 2 b_Mo_flips R_Mo 3) (a1 : Int32) (a2 : Int32) (σ : Sto) : VV X E b_Mo_flips 3 eU 0 [(0, .ref (E.2.1 48)), (1, .int a1), (2, .int a2)] [] σ (B_Mo_flips_0 a1 a2 σ) := by
  unfold B_Mo_flips_0
  refine v_aload_n 0 g d_Mo_flips_0 rfl ?_
  refine v_getR 51 g ff_Mo_16 rfl rfl rfl d_Mo_flips_1 ?_
  refine v_iload_n 1 g d_Mo_flips_4 rfl ?_
  refine v_dup2_11 g d_Mo_flips_5 rfl rfl ?_
  refine v_lald g rfl rfl d_Mo_flips_6 (fun _ => ?_)
  refine v_iload_n 2 g d_Mo_flips_7 rfl ?_
  refine v_callL (r_S (rest := [.long (gL σ 51 (Int32.toNatClampNeg a1)), .int a1, .ref (E.2.1 51)]) [.int a2] g (m1 1213 (by decide +kernel) (by decide +kernel)) ys_Mo_bit (fun r σ1 h => sp_Mo_bit g.2.2.1  h) rfl rfl (by decide) (Nat.le_of_ble_eq_true rfl) d_Mo_flips_8) (fun q1 => ?_)
  refine v_lxor g d_Mo_flips_11 ?_
  refine v_last g rfl rfl d_Mo_flips_12 (fun _ => ?_)
  refine v_nlet (fun σ2 eσ2 => ?_)
  rw [← eσ2]
  refine v_aload_n 0 g d_Mo_flips_13 rfl ?_
  refine v_getR 51 g ff_Mo_16 rfl rfl rfl d_Mo_flips_14 ?_
  refine v_iload_n 2 g d_Mo_flips_17 rfl ?_
  refine v_dup2_11 g d_Mo_flips_18 rfl rfl ?_
  refine v_lald g rfl rfl d_Mo_flips_19 (fun _ => ?_)
  refine v_iload_n 1 g d_Mo_flips_20 rfl ?_
  refine v_callL (r_S (rest := [.long (gL σ2 51 (Int32.toNatClampNeg a2)), .int a2, .ref (E.2.1 51)]) [.int a1] g (m1 1213 (by decide +kernel) (by decide +kernel)) ys_Mo_bit (fun r σ1 h => sp_Mo_bit g.2.2.1  h) rfl rfl (by decide) (Nat.le_of_ble_eq_true rfl) d_Mo_flips_21) (fun q3 => ?_)
  refine v_lxor g d_Mo_flips_24 ?_
  refine v_last g rfl rfl d_Mo_flips_25 (fun _ => ?_)
  refine v_nlet (fun σ4 eσ4 => ?_)
  rw [← eσ4]
  exact v_ret d_Mo_flips_26 rfl
def f_Mo_flips (a1 : Int32) (a2 : Int32) (σ : Sto) : Option (Unit × Sto) := B_Mo_flips_0 a1 a2 σ
theorem sp_Mo_flips {l : Launch} {E : En} (hE : Dj E) {a1 : Int32} {a2 : Int32} {σ : Sto} {r : Unit} {σ' : Sto} (h : f_Mo_flips a1 a2 σ = some (r, σ')) : Ct l E y_Mo_flips (wsM y_Mo_flips b_Mo_flips 3 (none)) 2 [.ref (E.2.1 48), .int a1, .int a2] σ (eU r) σ' :=
  ct_of hE (by decide +kernel) (Nat.le_of_ble_eq_true rfl) (fun _ => Or.inr (Or.inr (Or.inr (Or.inl ⟨rfl, rfl⟩)))) (fun X _ g => vB_Mo_flips_0 g a1 a2 σ) r σ' h
/-! method FittingRingsModel.join(III)I -/
theorem yv_Mo_join : YV y_Mo_join b_Mo_join 5 (some .int) 3 10 := ⟨m1 1200 (by decide +kernel) (by decide +kernel), m1 1201 (by decide +kernel) (by decide +kernel), ini_Mo, m1 1202 (by decide +kernel) (by decide +kernel), ⟨by decide +kernel, by decide +kernel, by decide +kernel⟩, by decide, by decide, T_Mo, 39, rfl⟩
theorem d_Mo_join_0 : decode b_Mo_join 0 = .ok (.aload_n 0, 1) := by decide +kernel
theorem d_Mo_join_1 : decode b_Mo_join 1 = .ok (.iload_n 1, 1) := by decide +kernel
theorem d_Mo_join_2 : decode b_Mo_join 2 = .ok (.invokevirtual 100, 3) := by decide +kernel
theorem d_Mo_join_5 : decode b_Mo_join 5 = .ok (.ifCond .eq 23, 3) := by decide +kernel
theorem d_Mo_join_8 : decode b_Mo_join 8 = .ok (.aload_n 0, 1) := by decide +kernel
theorem d_Mo_join_9 : decode b_Mo_join 9 = .ok (.iload_n 2, 1) := by decide +kernel
theorem d_Mo_join_10 : decode b_Mo_join 10 = .ok (.invokevirtual 100, 3) := by decide +kernel
theorem d_Mo_join_13 : decode b_Mo_join 13 = .ok (.ifCond .eq 15, 3) := by decide +kernel
theorem d_Mo_join_16 : decode b_Mo_join 16 = .ok (.iload_n 1, 1) := by decide +kernel
theorem d_Mo_join_17 : decode b_Mo_join 17 = .ok (.iload_n 2, 1) := by decide +kernel
theorem d_Mo_join_18 : decode b_Mo_join 18 = .ok (.if_icmp .eq 10, 3) := by decide +kernel
theorem d_Mo_join_21 : decode b_Mo_join 21 = .ok (.iload_n 3, 1) := by decide +kernel
theorem d_Mo_join_22 : decode b_Mo_join 22 = .ok (.invokestatic 116, 3) := by decide +kernel
theorem d_Mo_join_25 : decode b_Mo_join 25 = .ok (.ifCond .ne 6, 3) := by decide +kernel
theorem d_Mo_join_28 : decode b_Mo_join 28 = .ok (.bipush (-2), 2) := by decide +kernel
theorem d_Mo_join_30 : decode b_Mo_join 30 = .ok (.ireturn, 1) := by decide +kernel
theorem d_Mo_join_31 : decode b_Mo_join 31 = .ok (.aload_n 0, 1) := by decide +kernel
theorem d_Mo_join_32 : decode b_Mo_join 32 = .ok (.getfield 16, 3) := by decide +kernel
theorem d_Mo_join_35 : decode b_Mo_join 35 = .ok (.iload_n 1, 1) := by decide +kernel
theorem d_Mo_join_36 : decode b_Mo_join 36 = .ok (.laload, 1) := by decide +kernel
theorem d_Mo_join_37 : decode b_Mo_join 37 = .ok (.iload_n 2, 1) := by decide +kernel
theorem d_Mo_join_38 : decode b_Mo_join 38 = .ok (.invokestatic 119, 3) := by decide +kernel
theorem d_Mo_join_41 : decode b_Mo_join 41 = .ok (.ifCond .eq 7, 3) := by decide +kernel
theorem d_Mo_join_44 : decode b_Mo_join 44 = .ok (.iconst 1, 1) := by decide +kernel
theorem d_Mo_join_45 : decode b_Mo_join 45 = .ok (.goto 4, 3) := by decide +kernel
theorem d_Mo_join_48 : decode b_Mo_join 48 = .ok (.iconst 0, 1) := by decide +kernel
theorem d_Mo_join_49 : decode b_Mo_join 49 = .ok (.istore 4, 2) := by decide +kernel
theorem d_Mo_join_51 : decode b_Mo_join 51 = .ok (.aload_n 0, 1) := by decide +kernel
theorem d_Mo_join_52 : decode b_Mo_join 52 = .ok (.iload_n 1, 1) := by decide +kernel
theorem d_Mo_join_53 : decode b_Mo_join 53 = .ok (.iload_n 2, 1) := by decide +kernel
theorem d_Mo_join_54 : decode b_Mo_join 54 = .ok (.iload_n 3, 1) := by decide +kernel
theorem d_Mo_join_55 : decode b_Mo_join 55 = .ok (.iconst 1, 1) := by decide +kernel
theorem d_Mo_join_56 : decode b_Mo_join 56 = .ok (.if_icmp .ne 7, 3) := by decide +kernel
theorem d_Mo_join_59 : decode b_Mo_join 59 = .ok (.iconst 1, 1) := by decide +kernel
theorem d_Mo_join_60 : decode b_Mo_join 60 = .ok (.goto 4, 3) := by decide +kernel
theorem d_Mo_join_63 : decode b_Mo_join 63 = .ok (.iconst 0, 1) := by decide +kernel
theorem d_Mo_join_64 : decode b_Mo_join 64 = .ok (.invokevirtual 123, 3) := by decide +kernel
theorem d_Mo_join_67 : decode b_Mo_join 67 = .ok (.iload 4, 2) := by decide +kernel
theorem d_Mo_join_69 : decode b_Mo_join 69 = .ok (.ireturn, 1) := by decide +kernel
def B_Mo_join_0 (a1 : Int32) (a2 : Int32) (a3 : Int32) (σ : Sto) : Option (Int32 × Sto) :=
  ((f_Mo_isPoint a1 σ).bind fun q1 => (if (b2i q1.1) = 0 then some ((-2 : Int32), q1.2)
 else ((f_Mo_isPoint a2 q1.2).bind fun q2 => (if (b2i q2.1) = 0 then some ((-2 : Int32), q2.2)
  else (if a1 = a2 then some ((-2 : Int32), q2.2)
   else ((f_Mo_isOne a3 q2.2).bind fun q3 => (if (b2i q3.1) = 0 then some ((-2 : Int32), q3.2)
    else (if inb a1 40 = true then ((f_Mo_has (gL q3.2 51 (Int32.toNatClampNeg a1)) a2 q3.2).bind fun q4 => (if (b2i q4.1) = 0 then (if a3 = (1 : Int32) then ((f_Mo_puts a1 a2 (1 : Int32) q4.2).bind fun q6 => some ((0 : Int32), q6.2))
      else ((f_Mo_puts a1 a2 (0 : Int32) q4.2).bind fun q5 => some ((0 : Int32), q5.2)))
     else (if a3 = (1 : Int32) then ((f_Mo_puts a1 a2 (1 : Int32) q4.2).bind fun q8 => some ((1 : Int32), q8.2))
      else ((f_Mo_puts a1 a2 (0 : Int32) q4.2).bind fun q7 => some ((1 : Int32), q7.2))))) else none))))))))
set_option maxHeartbeats 4000000 in
set_option maxRecDepth 100000 in
theorem vB_Mo_join_0 {X : Xt} {E : En} (g : GG X E 3 b_Mo_join R_Mo 5) (a1 : Int32) (a2 : Int32) (a3 : Int32) (σ : Sto) : VV X E b_Mo_join 5 eI 0 [(0, .ref (E.2.1 48)), (1, .int a1), (2, .int a2), (3, .int a3)] [] σ (B_Mo_join_0 a1 a2 a3 σ) := by
  unfold B_Mo_join_0
  refine v_aload_n 0 g d_Mo_join_0 rfl ?_
  refine v_iload_n 1 g d_Mo_join_1 rfl ?_
  refine v_callB (r_V (rest := []) [.int a1] g (m1 1179 (by decide +kernel) (by decide +kernel)) yv_Mo_isPoint rfl (fun r σ1 h => sp_Mo_isPoint g.2.2.1  h) rfl rfl (by decide) (Nat.le_of_ble_eq_true rfl) d_Mo_join_2) (fun q1 => ?_)
  refine v_if_eq 28 g d_Mo_join_5 (by decide) (fun _ => ?_) (fun _ => ?_)
  · refine v_bipush (v := (-2 : Int32)) g d_Mo_join_28 (by decide +kernel) ?_
    exact v_ret d_Mo_join_30 rfl
  · refine v_aload_n 0 g d_Mo_join_8 rfl ?_
    refine v_iload_n 2 g d_Mo_join_9 rfl ?_
    refine v_callB (r_V (rest := []) [.int a2] g (m1 1179 (by decide +kernel) (by decide +kernel)) yv_Mo_isPoint rfl (fun r σ1 h => sp_Mo_isPoint g.2.2.1  h) rfl rfl (by decide) (Nat.le_of_ble_eq_true rfl) d_Mo_join_10) (fun q2 => ?_)
    refine v_if_eq 28 g d_Mo_join_13 (by decide) (fun _ => ?_) (fun _ => ?_)
    · refine v_bipush (v := (-2 : Int32)) g d_Mo_join_28 (by decide +kernel) ?_
      exact v_ret d_Mo_join_30 rfl
    · refine v_iload_n 1 g d_Mo_join_16 rfl ?_
      refine v_iload_n 2 g d_Mo_join_17 rfl ?_
      refine v_icmp_eq 28 g d_Mo_join_18 (by decide) (fun _ => ?_) (fun _ => ?_)
      · refine v_bipush (v := (-2 : Int32)) g d_Mo_join_28 (by decide +kernel) ?_
        exact v_ret d_Mo_join_30 rfl
      · refine v_iload_n 3 g d_Mo_join_21 rfl ?_
        refine v_callB (r_S (rest := []) [.int a3] g (m1 1203 (by decide +kernel) (by decide +kernel)) ys_Mo_isOne (fun r σ1 h => sp_Mo_isOne g.2.2.1  h) rfl rfl (by decide) (Nat.le_of_ble_eq_true rfl) d_Mo_join_22) (fun q3 => ?_)
        refine v_if_ne 31 g d_Mo_join_25 (by decide) (fun _ => ?_) (fun _ => ?_)
        · refine v_aload_n 0 g d_Mo_join_31 rfl ?_
          refine v_getR 51 g ff_Mo_16 rfl rfl rfl d_Mo_join_32 ?_
          refine v_iload_n 1 g d_Mo_join_35 rfl ?_
          refine v_lald g rfl rfl d_Mo_join_36 (fun _ => ?_)
          refine v_iload_n 2 g d_Mo_join_37 rfl ?_
          refine v_callB (r_S (rest := []) [.long (gL q3.2 51 (Int32.toNatClampNeg a1)), .int a2] g (m1 1206 (by decide +kernel) (by decide +kernel)) ys_Mo_has (fun r σ1 h => sp_Mo_has g.2.2.1  h) rfl rfl (by decide) (Nat.le_of_ble_eq_true rfl) d_Mo_join_38) (fun q4 => ?_)
          refine v_if_eq 48 g d_Mo_join_41 (by decide) (fun _ => ?_) (fun _ => ?_)
          · refine v_iconst (v := (0 : Int32)) g d_Mo_join_48 (by decide +kernel) ?_
            refine v_istore [(4, .int (0 : Int32)), (0, .ref (E.2.1 48)), (1, .int a1), (2, .int a2), (3, .int a3)] g d_Mo_join_49 (by decide) rfl ?_
            refine v_aload_n 1 g d_Mo_join_51 rfl ?_
            refine v_iload_n 2 g d_Mo_join_52 rfl ?_
            refine v_iload_n 3 g d_Mo_join_53 rfl ?_
            refine v_iload_n 4 g d_Mo_join_54 rfl ?_
            refine v_iconst (v := (1 : Int32)) g d_Mo_join_55 (by decide +kernel) ?_
            refine v_icmp_ne 63 g d_Mo_join_56 (by decide) (fun _ => ?_) (fun _ => ?_)
            · refine v_iconst (v := (0 : Int32)) g d_Mo_join_63 (by decide +kernel) ?_
              refine v_callU (r_V (rest := []) [.int a1, .int a2, .int (0 : Int32)] g (m1 1209 (by decide +kernel) (by decide +kernel)) yv_Mo_puts rfl (fun r σ1 h => sp_Mo_puts g.2.2.1  h) rfl rfl (by decide) (Nat.le_of_ble_eq_true rfl) d_Mo_join_64) (fun q5 => ?_)
              refine v_iload 0 g d_Mo_join_67 rfl ?_
              exact v_ret d_Mo_join_69 rfl
            · refine v_iconst (v := (1 : Int32)) g d_Mo_join_59 (by decide +kernel) ?_
              refine v_goto 64 g d_Mo_join_60 (by decide) ?_
              refine v_callU (r_V (rest := []) [.int a1, .int a2, .int (1 : Int32)] g (m1 1209 (by decide +kernel) (by decide +kernel)) yv_Mo_puts rfl (fun r σ1 h => sp_Mo_puts g.2.2.1  h) rfl rfl (by decide) (Nat.le_of_ble_eq_true rfl) d_Mo_join_64) (fun q6 => ?_)
              refine v_iload 0 g d_Mo_join_67 rfl ?_
              exact v_ret d_Mo_join_69 rfl
          · refine v_iconst (v := (1 : Int32)) g d_Mo_join_44 (by decide +kernel) ?_
            refine v_goto 49 g d_Mo_join_45 (by decide) ?_
            refine v_istore [(4, .int (1 : Int32)), (0, .ref (E.2.1 48)), (1, .int a1), (2, .int a2), (3, .int a3)] g d_Mo_join_49 (by decide) rfl ?_
            refine v_aload_n 1 g d_Mo_join_51 rfl ?_
            refine v_iload_n 2 g d_Mo_join_52 rfl ?_
            refine v_iload_n 3 g d_Mo_join_53 rfl ?_
            refine v_iload_n 4 g d_Mo_join_54 rfl ?_
            refine v_iconst (v := (1 : Int32)) g d_Mo_join_55 (by decide +kernel) ?_
            refine v_icmp_ne 63 g d_Mo_join_56 (by decide) (fun _ => ?_) (fun _ => ?_)
            · refine v_iconst (v := (0 : Int32)) g d_Mo_join_63 (by decide +kernel) ?_
              refine v_callU (r_V (rest := []) [.int a1, .int a2, .int (0 : Int32)] g (m1 1209 (by decide +kernel) (by decide +kernel)) yv_Mo_puts rfl (fun r σ1 h => sp_Mo_puts g.2.2.1  h) rfl rfl (by decide) (Nat.le_of_ble_eq_true rfl) d_Mo_join_64) (fun q7 => ?_)
              refine v_iload 0 g d_Mo_join_67 rfl ?_
              exact v_ret d_Mo_join_69 rfl
            · refine v_iconst (v := (1 : Int32)) g d_Mo_join_59 (by decide +kernel) ?_
              refine v_goto 64 g d_Mo_join_60 (by decide) ?_
              refine v_callU (r_V (rest := []) [.int a1, .int a2, .int (1 : Int32)] g (m1 1209 (by decide +kernel) (by decide +kernel)) yv_Mo_puts rfl (fun r σ1 h => sp_Mo_puts g.2.2.1  h) rfl rfl (by decide) (Nat.le_of_ble_eq_true rfl) d_Mo_join_64) (fun q8 => ?_)
              refine v_iload 0 g d_Mo_join_67 rfl ?_
              exact v_ret d_Mo_join_69 rfl
        · refine v_bipush (v := (-2 : Int32)) g d_Mo_join_28 (by decide +kernel) ?_
          exact v_ret d_Mo_join_30 rfl
def f_Mo_join (a1 : Int32) (a2 : Int32) (a3 : Int32) (σ : Sto) : Option (Int32 × Sto) := B_Mo_join_0 a1 a2 a3 σ
theorem sp_Mo_join {l : Launch} {E : En} (hE : Dj E) {a1 : Int32} {a2 : Int32} {a3 : Int32} {σ : Sto} {r : Int32} {σ' : Sto} (h : f_Mo_join a1 a2 a3 σ = some (r, σ')) : Ct l E y_Mo_join (wsM y_Mo_join b_Mo_join 5 (some .int)) 3 [.ref (E.2.1 48), .int a1, .int a2, .int a3] σ (eI r) σ' :=
  ct_of hE (by decide +kernel) (Nat.le_of_ble_eq_true rfl) (fun x => Or.inl ⟨rfl, x, rfl⟩) (fun X _ g => vB_Mo_join_0 g a1 a2 a3 σ) r σ' h
/-! method FittingRingsModel.mesh(JI)I -/
theorem yv_Mo_mesh : YV y_Mo_mesh b_Mo_mesh 7 (some .int) 2 10 := ⟨m1 1218 (by decide +kernel) (by decide +kernel), m1 1219 (by decide +kernel) (by decide +kernel), ini_Mo, m1 1220 (by decide +kernel) (by decide +kernel), ⟨by decide +kernel, by decide +kernel, by decide +kernel⟩, by decide, by decide, T_Mo, 39, rfl⟩
theorem d_Mo_mesh_0 : decode b_Mo_mesh 0 = .ok (.aload_n 0, 1) := by decide +kernel
theorem d_Mo_mesh_1 : decode b_Mo_mesh 1 = .ok (.lload_n 1, 1) := by decide +kernel
theorem d_Mo_mesh_2 : decode b_Mo_mesh 2 = .ok (.invokevirtual 127, 3) := by decide +kernel
theorem d_Mo_mesh_5 : decode b_Mo_mesh 5 = .ok (.ifCond .eq 10, 3) := by decide +kernel
theorem d_Mo_mesh_8 : decode b_Mo_mesh 8 = .ok (.iload_n 3, 1) := by decide +kernel
theorem d_Mo_mesh_9 : decode b_Mo_mesh 9 = .ok (.invokestatic 116, 3) := by decide +kernel
theorem d_Mo_mesh_12 : decode b_Mo_mesh 12 = .ok (.ifCond .ne 6, 3) := by decide +kernel
theorem d_Mo_mesh_15 : decode b_Mo_mesh 15 = .ok (.bipush (-2), 2) := by decide +kernel
theorem d_Mo_mesh_17 : decode b_Mo_mesh 17 = .ok (.ireturn, 1) := by decide +kernel
theorem d_Mo_mesh_18 : decode b_Mo_mesh 18 = .ok (.iconst 0, 1) := by decide +kernel
theorem d_Mo_mesh_19 : decode b_Mo_mesh 19 = .ok (.istore 4, 2) := by decide +kernel
theorem d_Mo_mesh_21 : decode b_Mo_mesh 21 = .ok (.iconst 0, 1) := by decide +kernel
theorem d_Mo_mesh_22 : decode b_Mo_mesh 22 = .ok (.istore 5, 2) := by decide +kernel
theorem d_Mo_mesh_24 : decode b_Mo_mesh 24 = .ok (.iload 5, 2) := by decide +kernel
theorem d_Mo_mesh_26 : decode b_Mo_mesh 26 = .ok (.aload_n 0, 1) := by decide +kernel
theorem d_Mo_mesh_27 : decode b_Mo_mesh 27 = .ok (.getfield 80, 3) := by decide +kernel
theorem d_Mo_mesh_30 : decode b_Mo_mesh 30 = .ok (.if_icmp .ge 84, 3) := by decide +kernel
theorem d_Mo_mesh_33 : decode b_Mo_mesh 33 = .ok (.iload 5, 2) := by decide +kernel
theorem d_Mo_mesh_35 : decode b_Mo_mesh 35 = .ok (.iconst 1, 1) := by decide +kernel
theorem d_Mo_mesh_36 : decode b_Mo_mesh 36 = .ok (.iadd, 1) := by decide +kernel
theorem d_Mo_mesh_37 : decode b_Mo_mesh 37 = .ok (.istore 6, 2) := by decide +kernel
theorem d_Mo_mesh_39 : decode b_Mo_mesh 39 = .ok (.iload 6, 2) := by decide +kernel
theorem d_Mo_mesh_41 : decode b_Mo_mesh 41 = .ok (.aload_n 0, 1) := by decide +kernel
theorem d_Mo_mesh_42 : decode b_Mo_mesh 42 = .ok (.getfield 80, 3) := by decide +kernel
theorem d_Mo_mesh_45 : decode b_Mo_mesh 45 = .ok (.if_icmp .ge 63, 3) := by decide +kernel
theorem d_Mo_mesh_48 : decode b_Mo_mesh 48 = .ok (.lload_n 1, 1) := by decide +kernel
theorem d_Mo_mesh_49 : decode b_Mo_mesh 49 = .ok (.iload 5, 2) := by decide +kernel
theorem d_Mo_mesh_51 : decode b_Mo_mesh 51 = .ok (.invokestatic 119, 3) := by decide +kernel
theorem d_Mo_mesh_54 : decode b_Mo_mesh 54 = .ok (.ifCond .eq 48, 3) := by decide +kernel
theorem d_Mo_mesh_57 : decode b_Mo_mesh 57 = .ok (.lload_n 1, 1) := by decide +kernel
theorem d_Mo_mesh_58 : decode b_Mo_mesh 58 = .ok (.iload 6, 2) := by decide +kernel
theorem d_Mo_mesh_60 : decode b_Mo_mesh 60 = .ok (.invokestatic 119, 3) := by decide +kernel
theorem d_Mo_mesh_63 : decode b_Mo_mesh 63 = .ok (.ifCond .eq 39, 3) := by decide +kernel
theorem d_Mo_mesh_66 : decode b_Mo_mesh 66 = .ok (.aload_n 0, 1) := by decide +kernel
theorem d_Mo_mesh_67 : decode b_Mo_mesh 67 = .ok (.getfield 16, 3) := by decide +kernel
theorem d_Mo_mesh_70 : decode b_Mo_mesh 70 = .ok (.iload 5, 2) := by decide +kernel
theorem d_Mo_mesh_72 : decode b_Mo_mesh 72 = .ok (.laload, 1) := by decide +kernel
theorem d_Mo_mesh_73 : decode b_Mo_mesh 73 = .ok (.iload 6, 2) := by decide +kernel
theorem d_Mo_mesh_75 : decode b_Mo_mesh 75 = .ok (.invokestatic 119, 3) := by decide +kernel
theorem d_Mo_mesh_78 : decode b_Mo_mesh 78 = .ok (.iload_n 3, 1) := by decide +kernel
theorem d_Mo_mesh_79 : decode b_Mo_mesh 79 = .ok (.iconst 1, 1) := by decide +kernel
theorem d_Mo_mesh_80 : decode b_Mo_mesh 80 = .ok (.if_icmp .ne 7, 3) := by decide +kernel
theorem d_Mo_mesh_83 : decode b_Mo_mesh 83 = .ok (.iconst 1, 1) := by decide +kernel
theorem d_Mo_mesh_84 : decode b_Mo_mesh 84 = .ok (.goto 4, 3) := by decide +kernel
theorem d_Mo_mesh_87 : decode b_Mo_mesh 87 = .ok (.iconst 0, 1) := by decide +kernel
theorem d_Mo_mesh_88 : decode b_Mo_mesh 88 = .ok (.if_icmp .eq 14, 3) := by decide +kernel
theorem d_Mo_mesh_91 : decode b_Mo_mesh 91 = .ok (.aload_n 0, 1) := by decide +kernel
theorem d_Mo_mesh_92 : decode b_Mo_mesh 92 = .ok (.iload 5, 2) := by decide +kernel
theorem d_Mo_mesh_94 : decode b_Mo_mesh 94 = .ok (.iload 6, 2) := by decide +kernel
theorem d_Mo_mesh_96 : decode b_Mo_mesh 96 = .ok (.invokevirtual 131, 3) := by decide +kernel
theorem d_Mo_mesh_99 : decode b_Mo_mesh 99 = .ok (.iinc 4 1, 3) := by decide +kernel
theorem d_Mo_mesh_102 : decode b_Mo_mesh 102 = .ok (.iinc 6 1, 3) := by decide +kernel
theorem d_Mo_mesh_105 : decode b_Mo_mesh 105 = .ok (.goto (-66), 3) := by decide +kernel
theorem d_Mo_mesh_108 : decode b_Mo_mesh 108 = .ok (.iinc 5 1, 3) := by decide +kernel
theorem d_Mo_mesh_111 : decode b_Mo_mesh 111 = .ok (.goto (-87), 3) := by decide +kernel
theorem d_Mo_mesh_114 : decode b_Mo_mesh 114 = .ok (.iload 4, 2) := by decide +kernel
theorem d_Mo_mesh_116 : decode b_Mo_mesh 116 = .ok (.ireturn, 1) := by decide +kernel
def B_Mo_mesh_39 (k24 : Int64 → Int32 → Int32 → Int32 → Sto → Option (Int32 × Sto)) (k39 : Int64 → Int32 → Int32 → Int32 → Int32 → Sto → Option (Int32 × Sto)) (v1 : Int64) (v3 : Int32) (v4 : Int32) (v5 : Int32) (v6 : Int32) (σ : Sto) : Option (Int32 × Sto) :=
  (if (gI σ 48 0) ≤ v6 then k24 v1 v3 v4 (v5 + (1 : Int32)) σ
 else ((f_Mo_has v1 v5 σ).bind fun q3 => (if (b2i q3.1) = 0 then k39 v1 v3 v4 v5 (v6 + (1 : Int32)) q3.2
  else ((f_Mo_has v1 v6 q3.2).bind fun q4 => (if (b2i q4.1) = 0 then k39 v1 v3 v4 v5 (v6 + (1 : Int32)) q4.2
   else (if inb v5 40 = true then ((f_Mo_has (gL q4.2 51 (Int32.toNatClampNeg v5)) v6 q4.2).bind fun q5 => (if v3 = (1 : Int32) then (if (b2i q5.1) = (1 : Int32) then k39 v1 v3 v4 v5 (v6 + (1 : Int32)) q5.2
     else ((f_Mo_flips v5 v6 q5.2).bind fun q7 => k39 v1 v3 (v4 + (1 : Int32)) v5 (v6 + (1 : Int32)) q7.2))
    else (if (b2i q5.1) = (0 : Int32) then k39 v1 v3 v4 v5 (v6 + (1 : Int32)) q5.2
     else ((f_Mo_flips v5 v6 q5.2).bind fun q6 => k39 v1 v3 (v4 + (1 : Int32)) v5 (v6 + (1 : Int32)) q6.2)))) else none))))))
set_option maxHeartbeats 4000000 in
set_option maxRecDepth 100000 in
theorem vB_Mo_mesh_39 {X : Xt} {E : En} (g : GG X E 3 b_Mo_mesh R_Mo 7) {k24 : Int64 → Int32 → Int32 → Int32 → Sto → Option (Int32 × Sto)} {k39 : Int64 → Int32 → Int32 → Int32 → Int32 → Sto → Option (Int32 × Sto)} (hk24 : ∀ (v1 : Int64) (v3 : Int32) (v4 : Int32) (v5 : Int32) (σ : Sto), VV X E b_Mo_mesh 7 eI 24 [(0, .ref (E.2.1 48)), (1, .long v1), (3, .int v3), (4, .int v4), (5, .int v5)] [] σ (k24 v1 v3 v4 v5 σ)) (hk39 : ∀ (v1 : Int64) (v3 : Int32) (v4 : Int32) (v5 : Int32) (v6 : Int32) (σ : Sto), VV X E b_Mo_mesh 7 eI 39 [(0, .ref (E.2.1 48)), (1, .long v1), (3, .int v3), (4, .int v4), (5, .int v5), (6, .int v6)] [] σ (k39 v1 v3 v4 v5 v6 σ)) (v1 : Int64) (v3 : Int32) (v4 : Int32) (v5 : Int32) (v6 : Int32) (σ : Sto) : VV X E b_Mo_mesh 7 eI 39 [(0, .ref (E.2.1 48)), (1, .long v1), (3, .int v3), (4, .int v4), (5, .int v5), (6, .int v6)] [] σ (B_Mo_mesh_39 k24 k39 v1 v3 v4 v5 v6 σ) := by
  unfold B_Mo_mesh_39
  refine v_iload 5 g d_Mo_mesh_39 rfl ?_
  refine v_aload_n 0 g d_Mo_mesh_41 rfl ?_
  refine v_getI g ff_Mo_80 rfl rfl d_Mo_mesh_42 ?_
  refine v_icmp_ge 108 g d_Mo_mesh_45 (by decide) (fun _ => ?_) (fun _ => ?_)
  · refine v_iinc 4 [(5, .int (v5 + (1 : Int32))), (0, .ref (E.2.1 48)), (1, .long v1), (3, .int v3), (4, .int v4), (6, .int v6)] g d_Mo_mesh_108 rfl (v := (1 : Int32)) (by decide +kernel) (by decide) rfl ?_
    refine v_goto 24 g d_Mo_mesh_111 (by decide) ?_
    exact v_sub [1,2,3,4,0] rfl (hk24 v1 v3 v4 (v5 + (1 : Int32)) σ)
  · refine v_lload_n 1 g d_Mo_mesh_48 rfl ?_
    refine v_iload 4 g d_Mo_mesh_49 rfl ?_
    refine v_callB (r_S (rest := []) [.long v1, .int v5] g (m1 1206 (by decide +kernel) (by decide +kernel)) ys_Mo_has (fun r σ1 h => sp_Mo_has g.2.2.1  h) rfl rfl (by decide) (Nat.le_of_ble_eq_true rfl) d_Mo_mesh_51) (fun q3 => ?_)
    refine v_if_eq 102 g d_Mo_mesh_54 (by decide) (fun _ => ?_) (fun _ => ?_)
    · refine v_iinc 5 [(6, .int (v6 + (1 : Int32))), (0, .ref (E.2.1 48)), (1, .long v1), (3, .int v3), (4, .int v4), (5, .int v5)] g d_Mo_mesh_102 rfl (v := (1 : Int32)) (by decide +kernel) (by decide) rfl ?_
      refine v_goto 39 g d_Mo_mesh_105 (by decide) ?_
      exact v_sub [1,2,3,4,5,0] rfl (hk39 v1 v3 v4 v5 (v6 + (1 : Int32)) q3.2)
    · refine v_lload_n 1 g d_Mo_mesh_57 rfl ?_
      refine v_iload 5 g d_Mo_mesh_58 rfl ?_
      refine v_callB (r_S (rest := []) [.long v1, .int v6] g (m1 1206 (by decide +kernel) (by decide +kernel)) ys_Mo_has (fun r σ1 h => sp_Mo_has g.2.2.1  h) rfl rfl (by decide) (Nat.le_of_ble_eq_true rfl) d_Mo_mesh_60) (fun q4 => ?_)
      refine v_if_eq 102 g d_Mo_mesh_63 (by decide) (fun _ => ?_) (fun _ => ?_)
      · refine v_iinc 5 [(6, .int (v6 + (1 : Int32))), (0, .ref (E.2.1 48)), (1, .long v1), (3, .int v3), (4, .int v4), (5, .int v5)] g d_Mo_mesh_102 rfl (v := (1 : Int32)) (by decide +kernel) (by decide) rfl ?_
        refine v_goto 39 g d_Mo_mesh_105 (by decide) ?_
        exact v_sub [1,2,3,4,5,0] rfl (hk39 v1 v3 v4 v5 (v6 + (1 : Int32)) q4.2)
      · refine v_aload_n 0 g d_Mo_mesh_66 rfl ?_
        refine v_getR 51 g ff_Mo_16 rfl rfl rfl d_Mo_mesh_67 ?_
        refine v_iload 4 g d_Mo_mesh_70 rfl ?_
        refine v_lald g rfl rfl d_Mo_mesh_72 (fun _ => ?_)
        refine v_iload 5 g d_Mo_mesh_73 rfl ?_
        refine v_callB (r_S (rest := []) [.long (gL q4.2 51 (Int32.toNatClampNeg v5)), .int v6] g (m1 1206 (by decide +kernel) (by decide +kernel)) ys_Mo_has (fun r σ1 h => sp_Mo_has g.2.2.1  h) rfl rfl (by decide) (Nat.le_of_ble_eq_true rfl) d_Mo_mesh_75) (fun q5 => ?_)
        refine v_iload_n 2 g d_Mo_mesh_78 rfl ?_
        refine v_iconst (v := (1 : Int32)) g d_Mo_mesh_79 (by decide +kernel) ?_
        refine v_icmp_ne 87 g d_Mo_mesh_80 (by decide) (fun _ => ?_) (fun _ => ?_)
        · refine v_iconst (v := (0 : Int32)) g d_Mo_mesh_87 (by decide +kernel) ?_
          refine v_icmp_eq 102 g d_Mo_mesh_88 (by decide) (fun _ => ?_) (fun _ => ?_)
          · refine v_iinc 5 [(6, .int (v6 + (1 : Int32))), (0, .ref (E.2.1 48)), (1, .long v1), (3, .int v3), (4, .int v4), (5, .int v5)] g d_Mo_mesh_102 rfl (v := (1 : Int32)) (by decide +kernel) (by decide) rfl ?_
            refine v_goto 39 g d_Mo_mesh_105 (by decide) ?_
            exact v_sub [1,2,3,4,5,0] rfl (hk39 v1 v3 v4 v5 (v6 + (1 : Int32)) q5.2)
          · refine v_aload_n 0 g d_Mo_mesh_91 rfl ?_
            refine v_iload 4 g d_Mo_mesh_92 rfl ?_
            refine v_iload 5 g d_Mo_mesh_94 rfl ?_
            refine v_callU (r_V (rest := []) [.int v5, .int v6] g (m1 1225 (by decide +kernel) (by decide +kernel)) yv_Mo_flips rfl (fun r σ1 h => sp_Mo_flips g.2.2.1  h) rfl rfl (by decide) (Nat.le_of_ble_eq_true rfl) d_Mo_mesh_96) (fun q6 => ?_)
            refine v_iinc 3 [(4, .int (v4 + (1 : Int32))), (0, .ref (E.2.1 48)), (1, .long v1), (3, .int v3), (5, .int v5), (6, .int v6)] g d_Mo_mesh_99 rfl (v := (1 : Int32)) (by decide +kernel) (by decide) rfl ?_
            refine v_iinc 5 [(6, .int (v6 + (1 : Int32))), (4, .int (v4 + (1 : Int32))), (0, .ref (E.2.1 48)), (1, .long v1), (3, .int v3), (5, .int v5)] g d_Mo_mesh_102 rfl (v := (1 : Int32)) (by decide +kernel) (by decide) rfl ?_
            refine v_goto 39 g d_Mo_mesh_105 (by decide) ?_
            exact v_sub [2,3,4,1,5,0] rfl (hk39 v1 v3 (v4 + (1 : Int32)) v5 (v6 + (1 : Int32)) q6.2)
        · refine v_iconst (v := (1 : Int32)) g d_Mo_mesh_83 (by decide +kernel) ?_
          refine v_goto 88 g d_Mo_mesh_84 (by decide) ?_
          refine v_icmp_eq 102 g d_Mo_mesh_88 (by decide) (fun _ => ?_) (fun _ => ?_)
          · refine v_iinc 5 [(6, .int (v6 + (1 : Int32))), (0, .ref (E.2.1 48)), (1, .long v1), (3, .int v3), (4, .int v4), (5, .int v5)] g d_Mo_mesh_102 rfl (v := (1 : Int32)) (by decide +kernel) (by decide) rfl ?_
            refine v_goto 39 g d_Mo_mesh_105 (by decide) ?_
            exact v_sub [1,2,3,4,5,0] rfl (hk39 v1 v3 v4 v5 (v6 + (1 : Int32)) q5.2)
          · refine v_aload_n 0 g d_Mo_mesh_91 rfl ?_
            refine v_iload 4 g d_Mo_mesh_92 rfl ?_
            refine v_iload 5 g d_Mo_mesh_94 rfl ?_
            refine v_callU (r_V (rest := []) [.int v5, .int v6] g (m1 1225 (by decide +kernel) (by decide +kernel)) yv_Mo_flips rfl (fun r σ1 h => sp_Mo_flips g.2.2.1  h) rfl rfl (by decide) (Nat.le_of_ble_eq_true rfl) d_Mo_mesh_96) (fun q7 => ?_)
            refine v_iinc 3 [(4, .int (v4 + (1 : Int32))), (0, .ref (E.2.1 48)), (1, .long v1), (3, .int v3), (5, .int v5), (6, .int v6)] g d_Mo_mesh_99 rfl (v := (1 : Int32)) (by decide +kernel) (by decide) rfl ?_
            refine v_iinc 5 [(6, .int (v6 + (1 : Int32))), (4, .int (v4 + (1 : Int32))), (0, .ref (E.2.1 48)), (1, .long v1), (3, .int v3), (5, .int v5)] g d_Mo_mesh_102 rfl (v := (1 : Int32)) (by decide +kernel) (by decide) rfl ?_
            refine v_goto 39 g d_Mo_mesh_105 (by decide) ?_
            exact v_sub [2,3,4,1,5,0] rfl (hk39 v1 v3 (v4 + (1 : Int32)) v5 (v6 + (1 : Int32)) q7.2)
def L_Mo_mesh_39 (k24 : Int64 → Int32 → Int32 → Int32 → Sto → Option (Int32 × Sto)) : Nat → Int64 → Int32 → Int32 → Int32 → Int32 → Sto → Option (Int32 × Sto)
  | 0, _, _, _, _, _, _ => none
  | fu + 1, v1, v3, v4, v5, v6, σ => B_Mo_mesh_39 k24 (L_Mo_mesh_39 k24 fu) v1 v3 v4 v5 v6 σ
theorem vL_Mo_mesh_39 {X : Xt} {E : En} (g : GG X E 3 b_Mo_mesh R_Mo 7) {k24 : Int64 → Int32 → Int32 → Int32 → Sto → Option (Int32 × Sto)} (hk24 : ∀ (v1 : Int64) (v3 : Int32) (v4 : Int32) (v5 : Int32) (σ : Sto), VV X E b_Mo_mesh 7 eI 24 [(0, .ref (E.2.1 48)), (1, .long v1), (3, .int v3), (4, .int v4), (5, .int v5)] [] σ (k24 v1 v3 v4 v5 σ)) (fu : Nat) : ∀ (v1 : Int64) (v3 : Int32) (v4 : Int32) (v5 : Int32) (v6 : Int32) (σ : Sto), VV X E b_Mo_mesh 7 eI 39 [(0, .ref (E.2.1 48)), (1, .long v1), (3, .int v3), (4, .int v4), (5, .int v5), (6, .int v6)] [] σ (L_Mo_mesh_39 k24 fu v1 v3 v4 v5 v6 σ) := by
  induction fu with
  | zero => intros; exact v_none
  | succ fu ih =>
    intro v1 v3 v4 v5 v6 σ
    exact vB_Mo_mesh_39 g hk24 ih v1 v3 v4 v5 v6 σ
def B_Mo_mesh_24 (k24 : Int64 → Int32 → Int32 → Int32 → Sto → Option (Int32 × Sto)) (v1 : Int64) (v3 : Int32) (v4 : Int32) (v5 : Int32) (σ : Sto) : Option (Int32 × Sto) :=
  (if (gI σ 48 0) ≤ v5 then some (v4, σ)
 else L_Mo_mesh_39 k24 LF v1 v3 v4 v5 (v5 + (1 : Int32)) σ)
set_option maxHeartbeats 4000000 in
set_option maxRecDepth 100000 in
theorem vB_Mo_mesh_24 {X : Xt} {E : En} (g : GG X E 3 b_Mo_mesh R_Mo 7) {k24 : Int64 → Int32 → Int32 → Int32 → Sto → Option (Int32 × Sto)} (hk24 : ∀ (v1 : Int64) (v3 : Int32) (v4 : Int32) (v5 : Int32) (σ : Sto), VV X E b_Mo_mesh 7 eI 24 [(0, .ref (E.2.1 48)), (1, .long v1), (3, .int v3), (4, .int v4), (5, .int v5)] [] σ (k24 v1 v3 v4 v5 σ)) (v1 : Int64) (v3 : Int32) (v4 : Int32) (v5 : Int32) (σ : Sto) : VV X E b_Mo_mesh 7 eI 24 [(0, .ref (E.2.1 48)), (1, .long v1), (3, .int v3), (4, .int v4), (5, .int v5)] [] σ (B_Mo_mesh_24 k24 v1 v3 v4 v5 σ) := by
  unfold B_Mo_mesh_24
  refine v_iload 4 g d_Mo_mesh_24 rfl ?_
  refine v_aload_n 0 g d_Mo_mesh_26 rfl ?_
  refine v_getI g ff_Mo_80 rfl rfl d_Mo_mesh_27 ?_
  refine v_icmp_ge 114 g d_Mo_mesh_30 (by decide) (fun _ => ?_) (fun _ => ?_)
  · refine v_iload 3 g d_Mo_mesh_114 rfl ?_
    exact v_ret d_Mo_mesh_116 rfl
  · refine v_iload 4 g d_Mo_mesh_33 rfl ?_
    refine v_iconst (v := (1 : Int32)) g d_Mo_mesh_35 (by decide +kernel) ?_
    refine v_iadd g d_Mo_mesh_36 ?_
    refine v_istore [(6, .int (v5 + (1 : Int32))), (0, .ref (E.2.1 48)), (1, .long v1), (3, .int v3), (4, .int v4), (5, .int v5)] g d_Mo_mesh_37 (by decide) rfl ?_
    exact v_sub [1,2,3,4,5,0] rfl (vL_Mo_mesh_39 g hk24 LF v1 v3 v4 v5 (v5 + (1 : Int32)) σ)
def L_Mo_mesh_24 : Nat → Int64 → Int32 → Int32 → Int32 → Sto → Option (Int32 × Sto)
  | 0, _, _, _, _, _ => none
  | fu + 1, v1, v3, v4, v5, σ => B_Mo_mesh_24 (L_Mo_mesh_24 fu) v1 v3 v4 v5 σ
theorem vL_Mo_mesh_24 {X : Xt} {E : En} (g : GG X E 3 b_Mo_mesh R_Mo 7) (fu : Nat) : ∀ (v1 : Int64) (v3 : Int32) (v4 : Int32) (v5 : Int32) (σ : Sto), VV X E b_Mo_mesh 7 eI 24 [(0, .ref (E.2.1 48)), (1, .long v1), (3, .int v3), (4, .int v4), (5, .int v5)] [] σ (L_Mo_mesh_24 fu v1 v3 v4 v5 σ) := by
  induction fu with
  | zero => intros; exact v_none
  | succ fu ih =>
    intro v1 v3 v4 v5 σ
    exact vB_Mo_mesh_24 g ih v1 v3 v4 v5 σ
def B_Mo_mesh_0 (a1 : Int64) (a3 : Int32) (σ : Sto) : Option (Int32 × Sto) :=
  ((f_Mo_isSet a1 σ).bind fun q1 => (if (b2i q1.1) = 0 then some ((-2 : Int32), q1.2)
 else ((f_Mo_isOne a3 q1.2).bind fun q2 => (if (b2i q2.1) = 0 then some ((-2 : Int32), q2.2)
  else L_Mo_mesh_24 LF a1 a3 (0 : Int32) (0 : Int32) q2.2))))
set_option maxHeartbeats 4000000 in
set_option maxRecDepth 100000 in
theorem vB_Mo_mesh_0 {X : Xt} {E : En} (g : GG X E 3 b_Mo_mesh R_Mo 7) (a1 : Int64) (a3 : Int32) (σ : Sto) : VV X E b_Mo_mesh 7 eI 0 [(0, .ref (E.2.1 48)), (1, .long a1), (3, .int a3)] [] σ (B_Mo_mesh_0 a1 a3 σ) := by
  unfold B_Mo_mesh_0
  refine v_aload_n 0 g d_Mo_mesh_0 rfl ?_
  refine v_lload_n 1 g d_Mo_mesh_1 rfl ?_
  refine v_callB (r_V (rest := []) [.long a1] g (m1 1221 (by decide +kernel) (by decide +kernel)) yv_Mo_isSet rfl (fun r σ1 h => sp_Mo_isSet g.2.2.1  h) rfl rfl (by decide) (Nat.le_of_ble_eq_true rfl) d_Mo_mesh_2) (fun q1 => ?_)
  refine v_if_eq 15 g d_Mo_mesh_5 (by decide) (fun _ => ?_) (fun _ => ?_)
  · refine v_bipush (v := (-2 : Int32)) g d_Mo_mesh_15 (by decide +kernel) ?_
    exact v_ret d_Mo_mesh_17 rfl
  · refine v_iload_n 2 g d_Mo_mesh_8 rfl ?_
    refine v_callB (r_S (rest := []) [.int a3] g (m1 1203 (by decide +kernel) (by decide +kernel)) ys_Mo_isOne (fun r σ1 h => sp_Mo_isOne g.2.2.1  h) rfl rfl (by decide) (Nat.le_of_ble_eq_true rfl) d_Mo_mesh_9) (fun q2 => ?_)
    refine v_if_ne 18 g d_Mo_mesh_12 (by decide) (fun _ => ?_) (fun _ => ?_)
    · refine v_iconst (v := (0 : Int32)) g d_Mo_mesh_18 (by decide +kernel) ?_
      refine v_istore [(4, .int (0 : Int32)), (0, .ref (E.2.1 48)), (1, .long a1), (3, .int a3)] g d_Mo_mesh_19 (by decide) rfl ?_
      refine v_iconst (v := (0 : Int32)) g d_Mo_mesh_21 (by decide +kernel) ?_
      refine v_istore [(5, .int (0 : Int32)), (4, .int (0 : Int32)), (0, .ref (E.2.1 48)), (1, .long a1), (3, .int a3)] g d_Mo_mesh_22 (by decide) rfl ?_
      exact v_sub [2,3,4,1,0] rfl (vL_Mo_mesh_24 g LF a1 a3 (0 : Int32) (0 : Int32) q2.2)
    · refine v_bipush (v := (-2 : Int32)) g d_Mo_mesh_15 (by decide +kernel) ?_
      exact v_ret d_Mo_mesh_17 rfl
def f_Mo_mesh (a1 : Int64) (a3 : Int32) (σ : Sto) : Option (Int32 × Sto) := B_Mo_mesh_0 a1 a3 σ
theorem sp_Mo_mesh {l : Launch} {E : En} (hE : Dj E) {a1 : Int64} {a3 : Int32} {σ : Sto} {r : Int32} {σ' : Sto} (h : f_Mo_mesh a1 a3 σ = some (r, σ')) : Ct l E y_Mo_mesh (wsM y_Mo_mesh b_Mo_mesh 7 (some .int)) 3 [.ref (E.2.1 48), .long a1, .int a3] σ (eI r) σ' :=
  ct_of hE (by decide +kernel) (Nat.le_of_ble_eq_true rfl) (fun x => Or.inl ⟨rfl, x, rfl⟩) (fun X _ g => vB_Mo_mesh_0 g a1 a3 σ) r σ' h
/-! method FittingRingsModel.fits(IIJ)J -/
theorem yv_Mo_fits : YV y_Mo_fits b_Mo_fits 5 (some .long) 3 10 := ⟨m1 1235 (by decide +kernel) (by decide +kernel), m1 31 (by decide +kernel) (by decide +kernel), ini_Mo, m1 1236 (by decide +kernel) (by decide +kernel), ⟨by decide +kernel, by decide +kernel, by decide +kernel⟩, by decide, by decide, T_Mo, 39, rfl⟩
theorem d_Mo_fits_0 : decode b_Mo_fits 0 = .ok (.iload_n 1, 1) := by decide +kernel
theorem d_Mo_fits_1 : decode b_Mo_fits 1 = .ok (.ifCond .ne 14, 3) := by decide +kernel
theorem d_Mo_fits_4 : decode b_Mo_fits 4 = .ok (.aload_n 0, 1) := by decide +kernel
theorem d_Mo_fits_5 : decode b_Mo_fits 5 = .ok (.getfield 16, 3) := by decide +kernel
theorem d_Mo_fits_8 : decode b_Mo_fits 8 = .ok (.iload_n 2, 1) := by decide +kernel
theorem d_Mo_fits_9 : decode b_Mo_fits 9 = .ok (.laload, 1) := by decide +kernel
theorem d_Mo_fits_10 : decode b_Mo_fits 10 = .ok (.lload_n 3, 1) := by decide +kernel
theorem d_Mo_fits_11 : decode b_Mo_fits 11 = .ok (.land, 1) := by decide +kernel
theorem d_Mo_fits_12 : decode b_Mo_fits 12 = .ok (.goto 24, 3) := by decide +kernel
theorem d_Mo_fits_15 : decode b_Mo_fits 15 = .ok (.lload_n 3, 1) := by decide +kernel
theorem d_Mo_fits_16 : decode b_Mo_fits 16 = .ok (.aload_n 0, 1) := by decide +kernel
theorem d_Mo_fits_17 : decode b_Mo_fits 17 = .ok (.getfield 16, 3) := by decide +kernel
theorem d_Mo_fits_20 : decode b_Mo_fits 20 = .ok (.iload_n 2, 1) := by decide +kernel
theorem d_Mo_fits_21 : decode b_Mo_fits 21 = .ok (.laload, 1) := by decide +kernel
theorem d_Mo_fits_22 : decode b_Mo_fits 22 = .ok (.ldc2_w 114, 3) := by decide +kernel
theorem d_Mo_fits_25 : decode b_Mo_fits 25 = .ok (.lxor, 1) := by decide +kernel
theorem d_Mo_fits_26 : decode b_Mo_fits 26 = .ok (.land, 1) := by decide +kernel
theorem d_Mo_fits_27 : decode b_Mo_fits 27 = .ok (.iload_n 2, 1) := by decide +kernel
theorem d_Mo_fits_28 : decode b_Mo_fits 28 = .ok (.invokestatic 110, 3) := by decide +kernel
theorem d_Mo_fits_31 : decode b_Mo_fits 31 = .ok (.ldc2_w 114, 3) := by decide +kernel
theorem d_Mo_fits_34 : decode b_Mo_fits 34 = .ok (.lxor, 1) := by decide +kernel
theorem d_Mo_fits_35 : decode b_Mo_fits 35 = .ok (.land, 1) := by decide +kernel
theorem d_Mo_fits_36 : decode b_Mo_fits 36 = .ok (.lreturn, 1) := by decide +kernel
def B_Mo_fits_0 (a1 : Int32) (a2 : Int32) (a3 : Int64) (σ : Sto) : Option (Int64 × Sto) :=
  (if a1 = 0 then (if inb a2 40 = true then some (((gL σ 51 (Int32.toNatClampNeg a2)) &&& a3), σ) else none)
 else (if inb a2 40 = true then ((f_Mo_bit a2 σ).bind fun q1 => some (((a3 &&& ((gL σ 51 (Int32.toNatClampNeg a2)) ^^^ (-1 : Int64))) &&& (q1.1 ^^^ (-1 : Int64))), q1.2)) else none))
set_option maxHeartbeats 4000000 in
set_option maxRecDepth 100000 in
theorem vB_Mo_fits_0 {X : Xt} {E : En} (g : GG X E 2 b_Mo_fits R_Mo 5) (a1 : Int32) (a2 : Int32) (a3 : Int64) (σ : Sto) : VV X E b_Mo_fits 5 eL 0 [(0, .ref (E.2.1 48)), (1, .int a1), (2, .int a2), (3, .long a3)] [] σ (B_Mo_fits_0 a1 a2 a3 σ) := by
  unfold B_Mo_fits_0
  refine v_iload_n 1 g d_Mo_fits_0 rfl ?_
  refine v_if_ne 15 g d_Mo_fits_1 (by decide) (fun _ => ?_) (fun _ => ?_)
  · refine v_lload_n 3 g d_Mo_fits_15 rfl ?_
    refine v_aload_n 0 g d_Mo_fits_16 rfl ?_
    refine v_getR 51 g ff_Mo_16 rfl rfl rfl d_Mo_fits_17 ?_
    refine v_iload_n 2 g d_Mo_fits_20 rfl ?_
    refine v_lald g rfl rfl d_Mo_fits_21 (fun _ => ?_)
    refine v_ldc2 (v := (-1 : Int64)) g (m1 1216 (by decide +kernel) (by decide +kernel)) d_Mo_fits_22 ?_
    refine v_lxor g d_Mo_fits_25 ?_
    refine v_land g d_Mo_fits_26 ?_
    refine v_iload_n 2 g d_Mo_fits_27 rfl ?_
    refine v_callL (r_S (rest := [.long (a3 &&& ((gL σ 51 (Int32.toNatClampNeg a2)) ^^^ (-1 : Int64)))]) [.int a2] g (m1 1213 (by decide +kernel) (by decide +kernel)) ys_Mo_bit (fun r σ1 h => sp_Mo_bit g.2.2.1  h) rfl rfl (by decide) (Nat.le_of_ble_eq_true rfl) d_Mo_fits_28) (fun q1 => ?_)
    refine v_ldc2 (v := (-1 : Int64)) g (m1 1216 (by decide +kernel) (by decide +kernel)) d_Mo_fits_31 ?_
    refine v_lxor g d_Mo_fits_34 ?_
    refine v_land g d_Mo_fits_35 ?_
    exact v_ret d_Mo_fits_36 rfl
  · refine v_aload_n 0 g d_Mo_fits_4 rfl ?_
    refine v_getR 51 g ff_Mo_16 rfl rfl rfl d_Mo_fits_5 ?_
    refine v_iload_n 2 g d_Mo_fits_8 rfl ?_
    refine v_lald g rfl rfl d_Mo_fits_9 (fun _ => ?_)
    refine v_lload_n 3 g d_Mo_fits_10 rfl ?_
    refine v_land g d_Mo_fits_11 ?_
    refine v_goto 36 g d_Mo_fits_12 (by decide) ?_
    exact v_ret d_Mo_fits_36 rfl
def f_Mo_fits (a1 : Int32) (a2 : Int32) (a3 : Int64) (σ : Sto) : Option (Int64 × Sto) := B_Mo_fits_0 a1 a2 a3 σ
theorem sp_Mo_fits {l : Launch} {E : En} (hE : Dj E) {a1 : Int32} {a2 : Int32} {a3 : Int64} {σ : Sto} {r : Int64} {σ' : Sto} (h : f_Mo_fits a1 a2 a3 σ = some (r, σ')) : Ct l E y_Mo_fits (wsM y_Mo_fits b_Mo_fits 5 (some .long)) 2 [.ref (E.2.1 48), .int a1, .int a2, .long a3] σ (eL r) σ' :=
  ct_of hE (by decide +kernel) (Nat.le_of_ble_eq_true rfl) (fun x => Or.inr (Or.inr (Or.inl ⟨rfl, x, rfl⟩))) (fun X _ g => vB_Mo_fits_0 g a1 a2 a3 σ) r σ' h
/-! method FittingRingsModel.near(IIJ)J -/
theorem yv_Mo_near : YV y_Mo_near b_Mo_near 5 (some .long) 3 10 := ⟨m1 1230 (by decide +kernel) (by decide +kernel), m1 1231 (by decide +kernel) (by decide +kernel), ini_Mo, m1 1232 (by decide +kernel) (by decide +kernel), ⟨by decide +kernel, by decide +kernel, by decide +kernel⟩, by decide, by decide, T_Mo, 39, rfl⟩
theorem d_Mo_near_0 : decode b_Mo_near 0 = .ok (.iload_n 1, 1) := by decide +kernel
theorem d_Mo_near_1 : decode b_Mo_near 1 = .ok (.invokestatic 116, 3) := by decide +kernel
theorem d_Mo_near_4 : decode b_Mo_near 4 = .ok (.ifCond .eq 29, 3) := by decide +kernel
theorem d_Mo_near_7 : decode b_Mo_near 7 = .ok (.aload_n 0, 1) := by decide +kernel
theorem d_Mo_near_8 : decode b_Mo_near 8 = .ok (.iload_n 2, 1) := by decide +kernel
theorem d_Mo_near_9 : decode b_Mo_near 9 = .ok (.invokevirtual 100, 3) := by decide +kernel
theorem d_Mo_near_12 : decode b_Mo_near 12 = .ok (.ifCond .eq 21, 3) := by decide +kernel
theorem d_Mo_near_15 : decode b_Mo_near 15 = .ok (.aload_n 0, 1) := by decide +kernel
theorem d_Mo_near_16 : decode b_Mo_near 16 = .ok (.lload_n 3, 1) := by decide +kernel
theorem d_Mo_near_17 : decode b_Mo_near 17 = .ok (.invokevirtual 127, 3) := by decide +kernel
theorem d_Mo_near_20 : decode b_Mo_near 20 = .ok (.ifCond .eq 13, 3) := by decide +kernel
theorem d_Mo_near_23 : decode b_Mo_near 23 = .ok (.aload_n 0, 1) := by decide +kernel
theorem d_Mo_near_24 : decode b_Mo_near 24 = .ok (.iload_n 1, 1) := by decide +kernel
theorem d_Mo_near_25 : decode b_Mo_near 25 = .ok (.iload_n 2, 1) := by decide +kernel
theorem d_Mo_near_26 : decode b_Mo_near 26 = .ok (.lload_n 3, 1) := by decide +kernel
theorem d_Mo_near_27 : decode b_Mo_near 27 = .ok (.invokevirtual 135, 3) := by decide +kernel
theorem d_Mo_near_30 : decode b_Mo_near 30 = .ok (.goto 6, 3) := by decide +kernel
theorem d_Mo_near_33 : decode b_Mo_near 33 = .ok (.ldc2_w 139, 3) := by decide +kernel
theorem d_Mo_near_36 : decode b_Mo_near 36 = .ok (.lreturn, 1) := by decide +kernel
def B_Mo_near_0 (a1 : Int32) (a2 : Int32) (a3 : Int64) (σ : Sto) : Option (Int64 × Sto) :=
  ((f_Mo_isOne a1 σ).bind fun q1 => (if (b2i q1.1) = 0 then some ((-2 : Int64), q1.2)
 else ((f_Mo_isPoint a2 q1.2).bind fun q2 => (if (b2i q2.1) = 0 then some ((-2 : Int64), q2.2)
  else ((f_Mo_isSet a3 q2.2).bind fun q3 => (if (b2i q3.1) = 0 then some ((-2 : Int64), q3.2)
   else ((f_Mo_fits a1 a2 a3 q3.2).bind fun q4 => some (q4.1, q4.2))))))))
set_option maxHeartbeats 4000000 in
set_option maxRecDepth 100000 in
theorem vB_Mo_near_0 {X : Xt} {E : En} (g : GG X E 3 b_Mo_near R_Mo 5) (a1 : Int32) (a2 : Int32) (a3 : Int64) (σ : Sto) : VV X E b_Mo_near 5 eL 0 [(0, .ref (E.2.1 48)), (1, .int a1), (2, .int a2), (3, .long a3)] [] σ (B_Mo_near_0 a1 a2 a3 σ) := by
  unfold B_Mo_near_0
  refine v_iload_n 1 g d_Mo_near_0 rfl ?_
  refine v_callB (r_S (rest := []) [.int a1] g (m1 1203 (by decide +kernel) (by decide +kernel)) ys_Mo_isOne (fun r σ1 h => sp_Mo_isOne g.2.2.1  h) rfl rfl (by decide) (Nat.le_of_ble_eq_true rfl) d_Mo_near_1) (fun q1 => ?_)
  refine v_if_eq 33 g d_Mo_near_4 (by decide) (fun _ => ?_) (fun _ => ?_)
  · refine v_ldc2 (v := (-2 : Int64)) g (m1 1237 (by decide +kernel) (by decide +kernel)) d_Mo_near_33 ?_
    exact v_ret d_Mo_near_36 rfl
  · refine v_aload_n 0 g d_Mo_near_7 rfl ?_
    refine v_iload_n 2 g d_Mo_near_8 rfl ?_
    refine v_callB (r_V (rest := []) [.int a2] g (m1 1179 (by decide +kernel) (by decide +kernel)) yv_Mo_isPoint rfl (fun r σ1 h => sp_Mo_isPoint g.2.2.1  h) rfl rfl (by decide) (Nat.le_of_ble_eq_true rfl) d_Mo_near_9) (fun q2 => ?_)
    refine v_if_eq 33 g d_Mo_near_12 (by decide) (fun _ => ?_) (fun _ => ?_)
    · refine v_ldc2 (v := (-2 : Int64)) g (m1 1237 (by decide +kernel) (by decide +kernel)) d_Mo_near_33 ?_
      exact v_ret d_Mo_near_36 rfl
    · refine v_aload_n 0 g d_Mo_near_15 rfl ?_
      refine v_lload_n 3 g d_Mo_near_16 rfl ?_
      refine v_callB (r_V (rest := []) [.long a3] g (m1 1221 (by decide +kernel) (by decide +kernel)) yv_Mo_isSet rfl (fun r σ1 h => sp_Mo_isSet g.2.2.1  h) rfl rfl (by decide) (Nat.le_of_ble_eq_true rfl) d_Mo_near_17) (fun q3 => ?_)
      refine v_if_eq 33 g d_Mo_near_20 (by decide) (fun _ => ?_) (fun _ => ?_)
      · refine v_ldc2 (v := (-2 : Int64)) g (m1 1237 (by decide +kernel) (by decide +kernel)) d_Mo_near_33 ?_
        exact v_ret d_Mo_near_36 rfl
      · refine v_aload_n 0 g d_Mo_near_23 rfl ?_
        refine v_iload_n 1 g d_Mo_near_24 rfl ?_
        refine v_iload_n 2 g d_Mo_near_25 rfl ?_
        refine v_lload_n 3 g d_Mo_near_26 rfl ?_
        refine v_callL (r_V (rest := []) [.int a1, .int a2, .long a3] g (m1 1233 (by decide +kernel) (by decide +kernel)) yv_Mo_fits rfl (fun r σ1 h => sp_Mo_fits g.2.2.1  h) rfl rfl (by decide) (Nat.le_of_ble_eq_true rfl) d_Mo_near_27) (fun q4 => ?_)
        refine v_goto 36 g d_Mo_near_30 (by decide) ?_
        exact v_ret d_Mo_near_36 rfl
def f_Mo_near (a1 : Int32) (a2 : Int32) (a3 : Int64) (σ : Sto) : Option (Int64 × Sto) := B_Mo_near_0 a1 a2 a3 σ
theorem sp_Mo_near {l : Launch} {E : En} (hE : Dj E) {a1 : Int32} {a2 : Int32} {a3 : Int64} {σ : Sto} {r : Int64} {σ' : Sto} (h : f_Mo_near a1 a2 a3 σ = some (r, σ')) : Ct l E y_Mo_near (wsM y_Mo_near b_Mo_near 5 (some .long)) 3 [.ref (E.2.1 48), .int a1, .int a2, .long a3] σ (eL r) σ' :=
  ct_of hE (by decide +kernel) (Nat.le_of_ble_eq_true rfl) (fun x => Or.inr (Or.inr (Or.inl ⟨rfl, x, rfl⟩))) (fun X _ g => vB_Mo_near_0 g a1 a2 a3 σ) r σ' h
/-! method FittingRingsModel.worth(II)I -/
theorem yv_Mo_worth : YV y_Mo_worth b_Mo_worth 3 (some .int) 2 10 := ⟨m1 1248 (by decide +kernel) (by decide +kernel), m1 33 (by decide +kernel) (by decide +kernel), ini_Mo, m1 1249 (by decide +kernel) (by decide +kernel), ⟨by decide +kernel, by decide +kernel, by decide +kernel⟩, by decide, by decide, T_Mo, 39, rfl⟩
theorem d_Mo_worth_0 : decode b_Mo_worth 0 = .ok (.iload_n 1, 1) := by decide +kernel
theorem d_Mo_worth_1 : decode b_Mo_worth 1 = .ok (.ifCond .ne 7, 3) := by decide +kernel
theorem d_Mo_worth_4 : decode b_Mo_worth 4 = .ok (.iconst 1, 1) := by decide +kernel
theorem d_Mo_worth_5 : decode b_Mo_worth 5 = .ok (.goto 8, 3) := by decide +kernel
theorem d_Mo_worth_8 : decode b_Mo_worth 8 = .ok (.aload_n 0, 1) := by decide +kernel
theorem d_Mo_worth_9 : decode b_Mo_worth 9 = .ok (.iload_n 2, 1) := by decide +kernel
theorem d_Mo_worth_10 : decode b_Mo_worth 10 = .ok (.invokevirtual 106, 3) := by decide +kernel
theorem d_Mo_worth_13 : decode b_Mo_worth 13 = .ok (.ireturn, 1) := by decide +kernel
def B_Mo_worth_0 (a1 : Int32) (a2 : Int32) (σ : Sto) : Option (Int32 × Sto) :=
  (if a1 = 0 then some ((1 : Int32), σ)
 else ((f_Mo_weight a2 σ).bind fun q1 => some (q1.1, q1.2)))
set_option maxHeartbeats 4000000 in
set_option maxRecDepth 100000 in
theorem vB_Mo_worth_0 {X : Xt} {E : En} (g : GG X E 3 b_Mo_worth R_Mo 3) (a1 : Int32) (a2 : Int32) (σ : Sto) : VV X E b_Mo_worth 3 eI 0 [(0, .ref (E.2.1 48)), (1, .int a1), (2, .int a2)] [] σ (B_Mo_worth_0 a1 a2 σ) := by
  unfold B_Mo_worth_0
  refine v_iload_n 1 g d_Mo_worth_0 rfl ?_
  refine v_if_ne 8 g d_Mo_worth_1 (by decide) (fun _ => ?_) (fun _ => ?_)
  · refine v_aload_n 0 g d_Mo_worth_8 rfl ?_
    refine v_iload_n 2 g d_Mo_worth_9 rfl ?_
    refine v_callI (r_V (rest := []) [.int a2] g (m1 1184 (by decide +kernel) (by decide +kernel)) yv_Mo_weight rfl (fun r σ1 h => sp_Mo_weight g.2.2.1  h) rfl rfl (by decide) (Nat.le_of_ble_eq_true rfl) d_Mo_worth_10) (fun q1 => ?_)
    exact v_ret d_Mo_worth_13 rfl
  · refine v_iconst (v := (1 : Int32)) g d_Mo_worth_4 (by decide +kernel) ?_
    refine v_goto 13 g d_Mo_worth_5 (by decide) ?_
    exact v_ret d_Mo_worth_13 rfl
def f_Mo_worth (a1 : Int32) (a2 : Int32) (σ : Sto) : Option (Int32 × Sto) := B_Mo_worth_0 a1 a2 σ
theorem sp_Mo_worth {l : Launch} {E : En} (hE : Dj E) {a1 : Int32} {a2 : Int32} {σ : Sto} {r : Int32} {σ' : Sto} (h : f_Mo_worth a1 a2 σ = some (r, σ')) : Ct l E y_Mo_worth (wsM y_Mo_worth b_Mo_worth 3 (some .int)) 3 [.ref (E.2.1 48), .int a1, .int a2] σ (eI r) σ' :=
  ct_of hE (by decide +kernel) (Nat.le_of_ble_eq_true rfl) (fun x => Or.inl ⟨rfl, x, rfl⟩) (fun X _ g => vB_Mo_worth_0 g a1 a2 σ) r σ' h
/-! method FittingRingsModel.measureOf(IJ)I -/
theorem yv_Mo_measureOf : YV y_Mo_measureOf b_Mo_measureOf 6 (some .int) 2 10 := ⟨m1 1244 (by decide +kernel) (by decide +kernel), m1 32 (by decide +kernel) (by decide +kernel), ini_Mo, m1 1245 (by decide +kernel) (by decide +kernel), ⟨by decide +kernel, by decide +kernel, by decide +kernel⟩, by decide, by decide, T_Mo, 39, rfl⟩
theorem d_Mo_measureOf_0 : decode b_Mo_measureOf 0 = .ok (.iconst 0, 1) := by decide +kernel
theorem d_Mo_measureOf_1 : decode b_Mo_measureOf 1 = .ok (.istore 4, 2) := by decide +kernel
theorem d_Mo_measureOf_3 : decode b_Mo_measureOf 3 = .ok (.iconst 0, 1) := by decide +kernel
theorem d_Mo_measureOf_4 : decode b_Mo_measureOf 4 = .ok (.istore 5, 2) := by decide +kernel
theorem d_Mo_measureOf_6 : decode b_Mo_measureOf 6 = .ok (.iload 5, 2) := by decide +kernel
theorem d_Mo_measureOf_8 : decode b_Mo_measureOf 8 = .ok (.aload_n 0, 1) := by decide +kernel
theorem d_Mo_measureOf_9 : decode b_Mo_measureOf 9 = .ok (.getfield 80, 3) := by decide +kernel
theorem d_Mo_measureOf_12 : decode b_Mo_measureOf 12 = .ok (.if_icmp .ge 34, 3) := by decide +kernel
theorem d_Mo_measureOf_15 : decode b_Mo_measureOf 15 = .ok (.iload 4, 2) := by decide +kernel
theorem d_Mo_measureOf_17 : decode b_Mo_measureOf 17 = .ok (.lload_n 2, 1) := by decide +kernel
theorem d_Mo_measureOf_18 : decode b_Mo_measureOf 18 = .ok (.iload 5, 2) := by decide +kernel
theorem d_Mo_measureOf_20 : decode b_Mo_measureOf 20 = .ok (.invokestatic 119, 3) := by decide +kernel
theorem d_Mo_measureOf_23 : decode b_Mo_measureOf 23 = .ok (.ifCond .eq 13, 3) := by decide +kernel
theorem d_Mo_measureOf_26 : decode b_Mo_measureOf 26 = .ok (.aload_n 0, 1) := by decide +kernel
theorem d_Mo_measureOf_27 : decode b_Mo_measureOf 27 = .ok (.iload_n 1, 1) := by decide +kernel
theorem d_Mo_measureOf_28 : decode b_Mo_measureOf 28 = .ok (.iload 5, 2) := by decide +kernel
theorem d_Mo_measureOf_30 : decode b_Mo_measureOf 30 = .ok (.invokevirtual 141, 3) := by decide +kernel
theorem d_Mo_measureOf_33 : decode b_Mo_measureOf 33 = .ok (.goto 4, 3) := by decide +kernel
theorem d_Mo_measureOf_36 : decode b_Mo_measureOf 36 = .ok (.iconst 0, 1) := by decide +kernel
theorem d_Mo_measureOf_37 : decode b_Mo_measureOf 37 = .ok (.iadd, 1) := by decide +kernel
theorem d_Mo_measureOf_38 : decode b_Mo_measureOf 38 = .ok (.istore 4, 2) := by decide +kernel
theorem d_Mo_measureOf_40 : decode b_Mo_measureOf 40 = .ok (.iinc 5 1, 3) := by decide +kernel
theorem d_Mo_measureOf_43 : decode b_Mo_measureOf 43 = .ok (.goto (-37), 3) := by decide +kernel
theorem d_Mo_measureOf_46 : decode b_Mo_measureOf 46 = .ok (.iload 4, 2) := by decide +kernel
theorem d_Mo_measureOf_48 : decode b_Mo_measureOf 48 = .ok (.ireturn, 1) := by decide +kernel
def B_Mo_measureOf_6 (k6 : Int32 → Int64 → Int32 → Int32 → Sto → Option (Int32 × Sto)) (v1 : Int32) (v2 : Int64) (v4 : Int32) (v5 : Int32) (σ : Sto) : Option (Int32 × Sto) :=
  (if (gI σ 48 0) ≤ v5 then some (v4, σ)
 else ((f_Mo_has v2 v5 σ).bind fun q1 => (if (b2i q1.1) = 0 then k6 v1 v2 (v4 + (0 : Int32)) (v5 + (1 : Int32)) q1.2
  else ((f_Mo_worth v1 v5 q1.2).bind fun q2 => k6 v1 v2 (v4 + q2.1) (v5 + (1 : Int32)) q2.2))))
set_option maxHeartbeats 4000000 in
set_option maxRecDepth 100000 in
theorem vB_Mo_measureOf_6 {X : Xt} {E : En} (g : GG X E 4 b_Mo_measureOf R_Mo 6) {k6 : Int32 → Int64 → Int32 → Int32 → Sto → Option (Int32 × Sto)} (hk6 : ∀ (v1 : Int32) (v2 : Int64) (v4 : Int32) (v5 : Int32) (σ : Sto), VV X E b_Mo_measureOf 6 eI 6 [(0, .ref (E.2.1 48)), (1, .int v1), (2, .long v2), (4, .int v4), (5, .int v5)] [] σ (k6 v1 v2 v4 v5 σ)) (v1 : Int32) (v2 : Int64) (v4 : Int32) (v5 : Int32) (σ : Sto) : VV X E b_Mo_measureOf 6 eI 6 [(0, .ref (E.2.1 48)), (1, .int v1), (2, .long v2), (4, .int v4), (5, .int v5)] [] σ (B_Mo_measureOf_6 k6 v1 v2 v4 v5 σ) := by
  unfold B_Mo_measureOf_6
  refine v_iload 4 g d_Mo_measureOf_6 rfl ?_
  refine v_aload_n 0 g d_Mo_measureOf_8 rfl ?_
  refine v_getI g ff_Mo_80 rfl rfl d_Mo_measureOf_9 ?_
  refine v_icmp_ge 46 g d_Mo_measureOf_12 (by decide) (fun _ => ?_) (fun _ => ?_)
  · refine v_iload 3 g d_Mo_measureOf_46 rfl ?_
    exact v_ret d_Mo_measureOf_48 rfl
  · refine v_iload 3 g d_Mo_measureOf_15 rfl ?_
    refine v_lload_n 2 g d_Mo_measureOf_17 rfl ?_
    refine v_iload 4 g d_Mo_measureOf_18 rfl ?_
    refine v_callB (r_S (rest := [.int v4]) [.long v2, .int v5] g (m1 1206 (by decide +kernel) (by decide +kernel)) ys_Mo_has (fun r σ1 h => sp_Mo_has g.2.2.1  h) rfl rfl (by decide) (Nat.le_of_ble_eq_true rfl) d_Mo_measureOf_20) (fun q1 => ?_)
    refine v_if_eq 36 g d_Mo_measureOf_23 (by decide) (fun _ => ?_) (fun _ => ?_)
    · refine v_iconst (v := (0 : Int32)) g d_Mo_measureOf_36 (by decide +kernel) ?_
      refine v_iadd g d_Mo_measureOf_37 ?_
      refine v_istore [(4, .int (v4 + (0 : Int32))), (0, .ref (E.2.1 48)), (1, .int v1), (2, .long v2), (5, .int v5)] g d_Mo_measureOf_38 (by decide) rfl ?_
      refine v_iinc 4 [(5, .int (v5 + (1 : Int32))), (4, .int (v4 + (0 : Int32))), (0, .ref (E.2.1 48)), (1, .int v1), (2, .long v2)] g d_Mo_measureOf_40 rfl (v := (1 : Int32)) (by decide +kernel) (by decide) rfl ?_
      refine v_goto 6 g d_Mo_measureOf_43 (by decide) ?_
      exact v_sub [2,3,4,1,0] rfl (hk6 v1 v2 (v4 + (0 : Int32)) (v5 + (1 : Int32)) q1.2)
    · refine v_aload_n 0 g d_Mo_measureOf_26 rfl ?_
      refine v_iload_n 1 g d_Mo_measureOf_27 rfl ?_
      refine v_iload 4 g d_Mo_measureOf_28 rfl ?_
      refine v_callI (r_V (rest := [.int v4]) [.int v1, .int v5] g (m1 1246 (by decide +kernel) (by decide +kernel)) yv_Mo_worth rfl (fun r σ1 h => sp_Mo_worth g.2.2.1  h) rfl rfl (by decide) (Nat.le_of_ble_eq_true rfl) d_Mo_measureOf_30) (fun q2 => ?_)
      refine v_goto 37 g d_Mo_measureOf_33 (by decide) ?_
      refine v_iadd g d_Mo_measureOf_37 ?_
      refine v_istore [(4, .int (v4 + q2.1)), (0, .ref (E.2.1 48)), (1, .int v1), (2, .long v2), (5, .int v5)] g d_Mo_measureOf_38 (by decide) rfl ?_
      refine v_iinc 4 [(5, .int (v5 + (1 : Int32))), (4, .int (v4 + q2.1)), (0, .ref (E.2.1 48)), (1, .int v1), (2, .long v2)] g d_Mo_measureOf_40 rfl (v := (1 : Int32)) (by decide +kernel) (by decide) rfl ?_
      refine v_goto 6 g d_Mo_measureOf_43 (by decide) ?_
      exact v_sub [2,3,4,1,0] rfl (hk6 v1 v2 (v4 + q2.1) (v5 + (1 : Int32)) q2.2)
def L_Mo_measureOf_6 : Nat → Int32 → Int64 → Int32 → Int32 → Sto → Option (Int32 × Sto)
  | 0, _, _, _, _, _ => none
  | fu + 1, v1, v2, v4, v5, σ => B_Mo_measureOf_6 (L_Mo_measureOf_6 fu) v1 v2 v4 v5 σ
theorem vL_Mo_measureOf_6 {X : Xt} {E : En} (g : GG X E 4 b_Mo_measureOf R_Mo 6) (fu : Nat) : ∀ (v1 : Int32) (v2 : Int64) (v4 : Int32) (v5 : Int32) (σ : Sto), VV X E b_Mo_measureOf 6 eI 6 [(0, .ref (E.2.1 48)), (1, .int v1), (2, .long v2), (4, .int v4), (5, .int v5)] [] σ (L_Mo_measureOf_6 fu v1 v2 v4 v5 σ) := by
  induction fu with
  | zero => intros; exact v_none
  | succ fu ih =>
    intro v1 v2 v4 v5 σ
    exact vB_Mo_measureOf_6 g ih v1 v2 v4 v5 σ
def B_Mo_measureOf_0 (a1 : Int32) (a2 : Int64) (σ : Sto) : Option (Int32 × Sto) :=
  L_Mo_measureOf_6 LF a1 a2 (0 : Int32) (0 : Int32) σ
set_option maxHeartbeats 4000000 in
set_option maxRecDepth 100000 in
theorem vB_Mo_measureOf_0 {X : Xt} {E : En} (g : GG X E 4 b_Mo_measureOf R_Mo 6) (a1 : Int32) (a2 : Int64) (σ : Sto) : VV X E b_Mo_measureOf 6 eI 0 [(0, .ref (E.2.1 48)), (1, .int a1), (2, .long a2)] [] σ (B_Mo_measureOf_0 a1 a2 σ) := by
  unfold B_Mo_measureOf_0
  refine v_iconst (v := (0 : Int32)) g d_Mo_measureOf_0 (by decide +kernel) ?_
  refine v_istore [(4, .int (0 : Int32)), (0, .ref (E.2.1 48)), (1, .int a1), (2, .long a2)] g d_Mo_measureOf_1 (by decide) rfl ?_
  refine v_iconst (v := (0 : Int32)) g d_Mo_measureOf_3 (by decide +kernel) ?_
  refine v_istore [(5, .int (0 : Int32)), (4, .int (0 : Int32)), (0, .ref (E.2.1 48)), (1, .int a1), (2, .long a2)] g d_Mo_measureOf_4 (by decide) rfl ?_
  exact v_sub [2,3,4,1,0] rfl (vL_Mo_measureOf_6 g LF a1 a2 (0 : Int32) (0 : Int32) σ)
def f_Mo_measureOf (a1 : Int32) (a2 : Int64) (σ : Sto) : Option (Int32 × Sto) := B_Mo_measureOf_0 a1 a2 σ
theorem sp_Mo_measureOf {l : Launch} {E : En} (hE : Dj E) {a1 : Int32} {a2 : Int64} {σ : Sto} {r : Int32} {σ' : Sto} (h : f_Mo_measureOf a1 a2 σ = some (r, σ')) : Ct l E y_Mo_measureOf (wsM y_Mo_measureOf b_Mo_measureOf 6 (some .int)) 4 [.ref (E.2.1 48), .int a1, .long a2] σ (eI r) σ' :=
  ct_of hE (by decide +kernel) (Nat.le_of_ble_eq_true rfl) (fun x => Or.inl ⟨rfl, x, rfl⟩) (fun X _ g => vB_Mo_measureOf_0 g a1 a2 σ) r σ' h
/-! method FittingRingsModel.measure(IJ)I -/
theorem yv_Mo_measure : YV y_Mo_measure b_Mo_measure 4 (some .int) 2 10 := ⟨m1 1239 (by decide +kernel) (by decide +kernel), m1 1240 (by decide +kernel) (by decide +kernel), ini_Mo, m1 1241 (by decide +kernel) (by decide +kernel), ⟨by decide +kernel, by decide +kernel, by decide +kernel⟩, by decide, by decide, T_Mo, 39, rfl⟩
theorem d_Mo_measure_0 : decode b_Mo_measure 0 = .ok (.iload_n 1, 1) := by decide +kernel
theorem d_Mo_measure_1 : decode b_Mo_measure 1 = .ok (.invokestatic 116, 3) := by decide +kernel
theorem d_Mo_measure_4 : decode b_Mo_measure 4 = .ok (.ifCond .eq 20, 3) := by decide +kernel
theorem d_Mo_measure_7 : decode b_Mo_measure 7 = .ok (.aload_n 0, 1) := by decide +kernel
theorem d_Mo_measure_8 : decode b_Mo_measure 8 = .ok (.lload_n 2, 1) := by decide +kernel
theorem d_Mo_measure_9 : decode b_Mo_measure 9 = .ok (.invokevirtual 127, 3) := by decide +kernel
theorem d_Mo_measure_12 : decode b_Mo_measure 12 = .ok (.ifCond .eq 12, 3) := by decide +kernel
theorem d_Mo_measure_15 : decode b_Mo_measure 15 = .ok (.aload_n 0, 1) := by decide +kernel
theorem d_Mo_measure_16 : decode b_Mo_measure 16 = .ok (.iload_n 1, 1) := by decide +kernel
theorem d_Mo_measure_17 : decode b_Mo_measure 17 = .ok (.lload_n 2, 1) := by decide +kernel
theorem d_Mo_measure_18 : decode b_Mo_measure 18 = .ok (.invokevirtual 144, 3) := by decide +kernel
theorem d_Mo_measure_21 : decode b_Mo_measure 21 = .ok (.goto 5, 3) := by decide +kernel
theorem d_Mo_measure_24 : decode b_Mo_measure 24 = .ok (.bipush (-2), 2) := by decide +kernel
theorem d_Mo_measure_26 : decode b_Mo_measure 26 = .ok (.ireturn, 1) := by decide +kernel
def B_Mo_measure_0 (a1 : Int32) (a2 : Int64) (σ : Sto) : Option (Int32 × Sto) :=
  ((f_Mo_isOne a1 σ).bind fun q1 => (if (b2i q1.1) = 0 then some ((-2 : Int32), q1.2)
 else ((f_Mo_isSet a2 q1.2).bind fun q2 => (if (b2i q2.1) = 0 then some ((-2 : Int32), q2.2)
  else ((f_Mo_measureOf a1 a2 q2.2).bind fun q3 => some (q3.1, q3.2))))))
set_option maxHeartbeats 4000000 in
set_option maxRecDepth 100000 in
theorem vB_Mo_measure_0 {X : Xt} {E : En} (g : GG X E 5 b_Mo_measure R_Mo 4) (a1 : Int32) (a2 : Int64) (σ : Sto) : VV X E b_Mo_measure 4 eI 0 [(0, .ref (E.2.1 48)), (1, .int a1), (2, .long a2)] [] σ (B_Mo_measure_0 a1 a2 σ) := by
  unfold B_Mo_measure_0
  refine v_iload_n 1 g d_Mo_measure_0 rfl ?_
  refine v_callB (r_S (rest := []) [.int a1] g (m1 1203 (by decide +kernel) (by decide +kernel)) ys_Mo_isOne (fun r σ1 h => sp_Mo_isOne g.2.2.1  h) rfl rfl (by decide) (Nat.le_of_ble_eq_true rfl) d_Mo_measure_1) (fun q1 => ?_)
  refine v_if_eq 24 g d_Mo_measure_4 (by decide) (fun _ => ?_) (fun _ => ?_)
  · refine v_bipush (v := (-2 : Int32)) g d_Mo_measure_24 (by decide +kernel) ?_
    exact v_ret d_Mo_measure_26 rfl
  · refine v_aload_n 0 g d_Mo_measure_7 rfl ?_
    refine v_lload_n 2 g d_Mo_measure_8 rfl ?_
    refine v_callB (r_V (rest := []) [.long a2] g (m1 1221 (by decide +kernel) (by decide +kernel)) yv_Mo_isSet rfl (fun r σ1 h => sp_Mo_isSet g.2.2.1  h) rfl rfl (by decide) (Nat.le_of_ble_eq_true rfl) d_Mo_measure_9) (fun q2 => ?_)
    refine v_if_eq 24 g d_Mo_measure_12 (by decide) (fun _ => ?_) (fun _ => ?_)
    · refine v_bipush (v := (-2 : Int32)) g d_Mo_measure_24 (by decide +kernel) ?_
      exact v_ret d_Mo_measure_26 rfl
    · refine v_aload_n 0 g d_Mo_measure_15 rfl ?_
      refine v_iload_n 1 g d_Mo_measure_16 rfl ?_
      refine v_lload_n 2 g d_Mo_measure_17 rfl ?_
      refine v_callI (r_V (rest := []) [.int a1, .long a2] g (m1 1242 (by decide +kernel) (by decide +kernel)) yv_Mo_measureOf rfl (fun r σ1 h => sp_Mo_measureOf g.2.2.1  h) rfl rfl (by decide) (Nat.le_of_ble_eq_true rfl) d_Mo_measure_18) (fun q3 => ?_)
      refine v_goto 26 g d_Mo_measure_21 (by decide) ?_
      exact v_ret d_Mo_measure_26 rfl
def f_Mo_measure (a1 : Int32) (a2 : Int64) (σ : Sto) : Option (Int32 × Sto) := B_Mo_measure_0 a1 a2 σ
theorem sp_Mo_measure {l : Launch} {E : En} (hE : Dj E) {a1 : Int32} {a2 : Int64} {σ : Sto} {r : Int32} {σ' : Sto} (h : f_Mo_measure a1 a2 σ = some (r, σ')) : Ct l E y_Mo_measure (wsM y_Mo_measure b_Mo_measure 4 (some .int)) 5 [.ref (E.2.1 48), .int a1, .long a2] σ (eI r) σ' :=
  ct_of hE (by decide +kernel) (Nat.le_of_ble_eq_true rfl) (fun x => Or.inl ⟨rfl, x, rfl⟩) (fun X _ g => vB_Mo_measure_0 g a1 a2 σ) r σ' h
/-! method FittingRingsModel.fitsAll(IIJ)Z -/
theorem yv_Mo_fitsAll : YV y_Mo_fitsAll b_Mo_fitsAll 5 (some .boolean) 3 10 := ⟨m1 1260 (by decide +kernel) (by decide +kernel), m1 35 (by decide +kernel) (by decide +kernel), ini_Mo, m1 1261 (by decide +kernel) (by decide +kernel), ⟨by decide +kernel, by decide +kernel, by decide +kernel⟩, by decide, by decide, T_Mo, 39, rfl⟩
theorem d_Mo_fitsAll_0 : decode b_Mo_fitsAll 0 = .ok (.aload_n 0, 1) := by decide +kernel
theorem d_Mo_fitsAll_1 : decode b_Mo_fitsAll 1 = .ok (.iload_n 1, 1) := by decide +kernel
theorem d_Mo_fitsAll_2 : decode b_Mo_fitsAll 2 = .ok (.iload_n 2, 1) := by decide +kernel
theorem d_Mo_fitsAll_3 : decode b_Mo_fitsAll 3 = .ok (.lload_n 3, 1) := by decide +kernel
theorem d_Mo_fitsAll_4 : decode b_Mo_fitsAll 4 = .ok (.invokevirtual 135, 3) := by decide +kernel
theorem d_Mo_fitsAll_7 : decode b_Mo_fitsAll 7 = .ok (.lload_n 3, 1) := by decide +kernel
theorem d_Mo_fitsAll_8 : decode b_Mo_fitsAll 8 = .ok (.lcmp, 1) := by decide +kernel
theorem d_Mo_fitsAll_9 : decode b_Mo_fitsAll 9 = .ok (.ifCond .ne 7, 3) := by decide +kernel
theorem d_Mo_fitsAll_12 : decode b_Mo_fitsAll 12 = .ok (.iconst 1, 1) := by decide +kernel
theorem d_Mo_fitsAll_13 : decode b_Mo_fitsAll 13 = .ok (.goto 4, 3) := by decide +kernel
theorem d_Mo_fitsAll_16 : decode b_Mo_fitsAll 16 = .ok (.iconst 0, 1) := by decide +kernel
theorem d_Mo_fitsAll_17 : decode b_Mo_fitsAll 17 = .ok (.ireturn, 1) := by decide +kernel
def B_Mo_fitsAll_0 (a1 : Int32) (a2 : Int32) (a3 : Int64) (σ : Sto) : Option (Bool × Sto) :=
  ((f_Mo_fits a1 a2 a3 σ).bind fun q1 => (if q1.1 = a3 then some (true, q1.2)
 else some (false, q1.2)))
set_option maxHeartbeats 4000000 in
set_option maxRecDepth 100000 in
theorem vB_Mo_fitsAll_0 {X : Xt} {E : En} (g : GG X E 3 b_Mo_fitsAll R_Mo 5) (a1 : Int32) (a2 : Int32) (a3 : Int64) (σ : Sto) : VV X E b_Mo_fitsAll 5 eB 0 [(0, .ref (E.2.1 48)), (1, .int a1), (2, .int a2), (3, .long a3)] [] σ (B_Mo_fitsAll_0 a1 a2 a3 σ) := by
  unfold B_Mo_fitsAll_0
  refine v_aload_n 0 g d_Mo_fitsAll_0 rfl ?_
  refine v_iload_n 1 g d_Mo_fitsAll_1 rfl ?_
  refine v_iload_n 2 g d_Mo_fitsAll_2 rfl ?_
  refine v_lload_n 3 g d_Mo_fitsAll_3 rfl ?_
  refine v_callL (r_V (rest := []) [.int a1, .int a2, .long a3] g (m1 1233 (by decide +kernel) (by decide +kernel)) yv_Mo_fits rfl (fun r σ1 h => sp_Mo_fits g.2.2.1  h) rfl rfl (by decide) (Nat.le_of_ble_eq_true rfl) d_Mo_fitsAll_4) (fun q1 => ?_)
  refine v_lload_n 3 g d_Mo_fitsAll_7 rfl ?_
  refine v_lcmp_ne 16 g d_Mo_fitsAll_8 d_Mo_fitsAll_9 (by decide) (fun _ => ?_) (fun _ => ?_)
  · refine v_iconst (v := (0 : Int32)) g d_Mo_fitsAll_16 (by decide +kernel) ?_
    exact v_ret d_Mo_fitsAll_17 rfl
  · refine v_iconst (v := (1 : Int32)) g d_Mo_fitsAll_12 (by decide +kernel) ?_
    refine v_goto 17 g d_Mo_fitsAll_13 (by decide) ?_
    exact v_ret d_Mo_fitsAll_17 rfl
def f_Mo_fitsAll (a1 : Int32) (a2 : Int32) (a3 : Int64) (σ : Sto) : Option (Bool × Sto) := B_Mo_fitsAll_0 a1 a2 a3 σ
theorem sp_Mo_fitsAll {l : Launch} {E : En} (hE : Dj E) {a1 : Int32} {a2 : Int32} {a3 : Int64} {σ : Sto} {r : Bool} {σ' : Sto} (h : f_Mo_fitsAll a1 a2 a3 σ = some (r, σ')) : Ct l E y_Mo_fitsAll (wsM y_Mo_fitsAll b_Mo_fitsAll 5 (some .boolean)) 3 [.ref (E.2.1 48), .int a1, .int a2, .long a3] σ (eB r) σ' :=
  ct_of hE (by decide +kernel) (Nat.le_of_ble_eq_true rfl) (fun b => Or.inr (Or.inl ⟨rfl, b, rfl⟩)) (fun X _ g => vB_Mo_fitsAll_0 g a1 a2 a3 σ) r σ' h
/-! method FittingRingsModel.areRing(IJ)Z -/
theorem yv_Mo_areRing : YV y_Mo_areRing b_Mo_areRing 5 (some .boolean) 2 10 := ⟨m1 1256 (by decide +kernel) (by decide +kernel), m1 34 (by decide +kernel) (by decide +kernel), ini_Mo, m1 1257 (by decide +kernel) (by decide +kernel), ⟨by decide +kernel, by decide +kernel, by decide +kernel⟩, by decide, by decide, T_Mo, 39, rfl⟩
theorem d_Mo_areRing_0 : decode b_Mo_areRing 0 = .ok (.iconst 0, 1) := by decide +kernel
theorem d_Mo_areRing_1 : decode b_Mo_areRing 1 = .ok (.istore 4, 2) := by decide +kernel
theorem d_Mo_areRing_3 : decode b_Mo_areRing 3 = .ok (.iload 4, 2) := by decide +kernel
theorem d_Mo_areRing_5 : decode b_Mo_areRing 5 = .ok (.aload_n 0, 1) := by decide +kernel
theorem d_Mo_areRing_6 : decode b_Mo_areRing 6 = .ok (.getfield 80, 3) := by decide +kernel
theorem d_Mo_areRing_9 : decode b_Mo_areRing 9 = .ok (.if_icmp .ge 41, 3) := by decide +kernel
theorem d_Mo_areRing_12 : decode b_Mo_areRing 12 = .ok (.lload_n 2, 1) := by decide +kernel
theorem d_Mo_areRing_13 : decode b_Mo_areRing 13 = .ok (.iload 4, 2) := by decide +kernel
theorem d_Mo_areRing_15 : decode b_Mo_areRing 15 = .ok (.invokestatic 119, 3) := by decide +kernel
theorem d_Mo_areRing_18 : decode b_Mo_areRing 18 = .ok (.ifCond .eq 26, 3) := by decide +kernel
theorem d_Mo_areRing_21 : decode b_Mo_areRing 21 = .ok (.aload_n 0, 1) := by decide +kernel
theorem d_Mo_areRing_22 : decode b_Mo_areRing 22 = .ok (.iload_n 1, 1) := by decide +kernel
theorem d_Mo_areRing_23 : decode b_Mo_areRing 23 = .ok (.iload 4, 2) := by decide +kernel
theorem d_Mo_areRing_25 : decode b_Mo_areRing 25 = .ok (.lload_n 2, 1) := by decide +kernel
theorem d_Mo_areRing_26 : decode b_Mo_areRing 26 = .ok (.iload 4, 2) := by decide +kernel
theorem d_Mo_areRing_28 : decode b_Mo_areRing 28 = .ok (.invokestatic 110, 3) := by decide +kernel
theorem d_Mo_areRing_31 : decode b_Mo_areRing 31 = .ok (.ldc2_w 114, 3) := by decide +kernel
theorem d_Mo_areRing_34 : decode b_Mo_areRing 34 = .ok (.lxor, 1) := by decide +kernel
theorem d_Mo_areRing_35 : decode b_Mo_areRing 35 = .ok (.land, 1) := by decide +kernel
theorem d_Mo_areRing_36 : decode b_Mo_areRing 36 = .ok (.invokevirtual 148, 3) := by decide +kernel
theorem d_Mo_areRing_39 : decode b_Mo_areRing 39 = .ok (.ifCond .ne 5, 3) := by decide +kernel
theorem d_Mo_areRing_42 : decode b_Mo_areRing 42 = .ok (.iconst 0, 1) := by decide +kernel
theorem d_Mo_areRing_43 : decode b_Mo_areRing 43 = .ok (.ireturn, 1) := by decide +kernel
theorem d_Mo_areRing_44 : decode b_Mo_areRing 44 = .ok (.iinc 4 1, 3) := by decide +kernel
theorem d_Mo_areRing_47 : decode b_Mo_areRing 47 = .ok (.goto (-44), 3) := by decide +kernel
theorem d_Mo_areRing_50 : decode b_Mo_areRing 50 = .ok (.iconst 1, 1) := by decide +kernel
theorem d_Mo_areRing_51 : decode b_Mo_areRing 51 = .ok (.ireturn, 1) := by decide +kernel
def B_Mo_areRing_3 (k3 : Int32 → Int64 → Int32 → Sto → Option (Bool × Sto)) (v1 : Int32) (v2 : Int64) (v4 : Int32) (σ : Sto) : Option (Bool × Sto) :=
  (if (gI σ 48 0) ≤ v4 then some (true, σ)
 else ((f_Mo_has v2 v4 σ).bind fun q1 => (if (b2i q1.1) = 0 then k3 v1 v2 (v4 + (1 : Int32)) q1.2
  else ((f_Mo_bit v4 q1.2).bind fun q2 => ((f_Mo_fitsAll v1 v4 (v2 &&& (q2.1 ^^^ (-1 : Int64))) q2.2).bind fun q3 => (if (b2i q3.1) = 0 then some (false, q3.2)
   else k3 v1 v2 (v4 + (1 : Int32)) q3.2))))))
set_option maxHeartbeats 4000000 in
set_option maxRecDepth 100000 in
theorem vB_Mo_areRing_3 {X : Xt} {E : En} (g : GG X E 4 b_Mo_areRing R_Mo 5) {k3 : Int32 → Int64 → Int32 → Sto → Option (Bool × Sto)} (hk3 : ∀ (v1 : Int32) (v2 : Int64) (v4 : Int32) (σ : Sto), VV X E b_Mo_areRing 5 eB 3 [(0, .ref (E.2.1 48)), (1, .int v1), (2, .long v2), (4, .int v4)] [] σ (k3 v1 v2 v4 σ)) (v1 : Int32) (v2 : Int64) (v4 : Int32) (σ : Sto) : VV X E b_Mo_areRing 5 eB 3 [(0, .ref (E.2.1 48)), (1, .int v1), (2, .long v2), (4, .int v4)] [] σ (B_Mo_areRing_3 k3 v1 v2 v4 σ) := by
  unfold B_Mo_areRing_3
  refine v_iload 3 g d_Mo_areRing_3 rfl ?_
  refine v_aload_n 0 g d_Mo_areRing_5 rfl ?_
  refine v_getI g ff_Mo_80 rfl rfl d_Mo_areRing_6 ?_
  refine v_icmp_ge 50 g d_Mo_areRing_9 (by decide) (fun _ => ?_) (fun _ => ?_)
  · refine v_iconst (v := (1 : Int32)) g d_Mo_areRing_50 (by decide +kernel) ?_
    exact v_ret d_Mo_areRing_51 rfl
  · refine v_lload_n 2 g d_Mo_areRing_12 rfl ?_
    refine v_iload 3 g d_Mo_areRing_13 rfl ?_
    refine v_callB (r_S (rest := []) [.long v2, .int v4] g (m1 1206 (by decide +kernel) (by decide +kernel)) ys_Mo_has (fun r σ1 h => sp_Mo_has g.2.2.1  h) rfl rfl (by decide) (Nat.le_of_ble_eq_true rfl) d_Mo_areRing_15) (fun q1 => ?_)
    refine v_if_eq 44 g d_Mo_areRing_18 (by decide) (fun _ => ?_) (fun _ => ?_)
    · refine v_iinc 3 [(4, .int (v4 + (1 : Int32))), (0, .ref (E.2.1 48)), (1, .int v1), (2, .long v2)] g d_Mo_areRing_44 rfl (v := (1 : Int32)) (by decide +kernel) (by decide) rfl ?_
      refine v_goto 3 g d_Mo_areRing_47 (by decide) ?_
      exact v_sub [1,2,3,0] rfl (hk3 v1 v2 (v4 + (1 : Int32)) q1.2)
    · refine v_aload_n 0 g d_Mo_areRing_21 rfl ?_
      refine v_iload_n 1 g d_Mo_areRing_22 rfl ?_
      refine v_iload 3 g d_Mo_areRing_23 rfl ?_
      refine v_lload_n 2 g d_Mo_areRing_25 rfl ?_
      refine v_iload 3 g d_Mo_areRing_26 rfl ?_
      refine v_callL (r_S (rest := [.long v2, .int v4, .int v1, .ref (E.2.1 48)]) [.int v4] g (m1 1213 (by decide +kernel) (by decide +kernel)) ys_Mo_bit (fun r σ1 h => sp_Mo_bit g.2.2.1  h) rfl rfl (by decide) (Nat.le_of_ble_eq_true rfl) d_Mo_areRing_28) (fun q2 => ?_)
      refine v_ldc2 (v := (-1 : Int64)) g (m1 1216 (by decide +kernel) (by decide +kernel)) d_Mo_areRing_31 ?_
      refine v_lxor g d_Mo_areRing_34 ?_
      refine v_land g d_Mo_areRing_35 ?_
      refine v_callB (r_V (rest := []) [.int v1, .int v4, .long (v2 &&& (q2.1 ^^^ (-1 : Int64)))] g (m1 1258 (by decide +kernel) (by decide +kernel)) yv_Mo_fitsAll rfl (fun r σ1 h => sp_Mo_fitsAll g.2.2.1  h) rfl rfl (by decide) (Nat.le_of_ble_eq_true rfl) d_Mo_areRing_36) (fun q3 => ?_)
      refine v_if_ne 44 g d_Mo_areRing_39 (by decide) (fun _ => ?_) (fun _ => ?_)
      · refine v_iinc 3 [(4, .int (v4 + (1 : Int32))), (0, .ref (E.2.1 48)), (1, .int v1), (2, .long v2)] g d_Mo_areRing_44 rfl (v := (1 : Int32)) (by decide +kernel) (by decide) rfl ?_
        refine v_goto 3 g d_Mo_areRing_47 (by decide) ?_
        exact v_sub [1,2,3,0] rfl (hk3 v1 v2 (v4 + (1 : Int32)) q3.2)
      · refine v_iconst (v := (0 : Int32)) g d_Mo_areRing_42 (by decide +kernel) ?_
        exact v_ret d_Mo_areRing_43 rfl
def L_Mo_areRing_3 : Nat → Int32 → Int64 → Int32 → Sto → Option (Bool × Sto)
  | 0, _, _, _, _ => none
  | fu + 1, v1, v2, v4, σ => B_Mo_areRing_3 (L_Mo_areRing_3 fu) v1 v2 v4 σ
theorem vL_Mo_areRing_3 {X : Xt} {E : En} (g : GG X E 4 b_Mo_areRing R_Mo 5) (fu : Nat) : ∀ (v1 : Int32) (v2 : Int64) (v4 : Int32) (σ : Sto), VV X E b_Mo_areRing 5 eB 3 [(0, .ref (E.2.1 48)), (1, .int v1), (2, .long v2), (4, .int v4)] [] σ (L_Mo_areRing_3 fu v1 v2 v4 σ) := by
  induction fu with
  | zero => intros; exact v_none
  | succ fu ih =>
    intro v1 v2 v4 σ
    exact vB_Mo_areRing_3 g ih v1 v2 v4 σ
def B_Mo_areRing_0 (a1 : Int32) (a2 : Int64) (σ : Sto) : Option (Bool × Sto) :=
  L_Mo_areRing_3 LF a1 a2 (0 : Int32) σ
set_option maxHeartbeats 4000000 in
set_option maxRecDepth 100000 in
theorem vB_Mo_areRing_0 {X : Xt} {E : En} (g : GG X E 4 b_Mo_areRing R_Mo 5) (a1 : Int32) (a2 : Int64) (σ : Sto) : VV X E b_Mo_areRing 5 eB 0 [(0, .ref (E.2.1 48)), (1, .int a1), (2, .long a2)] [] σ (B_Mo_areRing_0 a1 a2 σ) := by
  unfold B_Mo_areRing_0
  refine v_iconst (v := (0 : Int32)) g d_Mo_areRing_0 (by decide +kernel) ?_
  refine v_istore [(4, .int (0 : Int32)), (0, .ref (E.2.1 48)), (1, .int a1), (2, .long a2)] g d_Mo_areRing_1 (by decide) rfl ?_
  exact v_sub [1,2,3,0] rfl (vL_Mo_areRing_3 g LF a1 a2 (0 : Int32) σ)
def f_Mo_areRing (a1 : Int32) (a2 : Int64) (σ : Sto) : Option (Bool × Sto) := B_Mo_areRing_0 a1 a2 σ
theorem sp_Mo_areRing {l : Launch} {E : En} (hE : Dj E) {a1 : Int32} {a2 : Int64} {σ : Sto} {r : Bool} {σ' : Sto} (h : f_Mo_areRing a1 a2 σ = some (r, σ')) : Ct l E y_Mo_areRing (wsM y_Mo_areRing b_Mo_areRing 5 (some .boolean)) 4 [.ref (E.2.1 48), .int a1, .long a2] σ (eB r) σ' :=
  ct_of hE (by decide +kernel) (Nat.le_of_ble_eq_true rfl) (fun b => Or.inr (Or.inl ⟨rfl, b, rfl⟩)) (fun X _ g => vB_Mo_areRing_0 g a1 a2 σ) r σ' h
/-! method FittingRingsModel.isRing(IJ)I -/
theorem yv_Mo_isRing : YV y_Mo_isRing b_Mo_isRing 4 (some .int) 2 10 := ⟨m1 1251 (by decide +kernel) (by decide +kernel), m1 1252 (by decide +kernel) (by decide +kernel), ini_Mo, m1 1253 (by decide +kernel) (by decide +kernel), ⟨by decide +kernel, by decide +kernel, by decide +kernel⟩, by decide, by decide, T_Mo, 39, rfl⟩
theorem d_Mo_isRing_0 : decode b_Mo_isRing 0 = .ok (.iload_n 1, 1) := by decide +kernel
theorem d_Mo_isRing_1 : decode b_Mo_isRing 1 = .ok (.invokestatic 116, 3) := by decide +kernel
theorem d_Mo_isRing_4 : decode b_Mo_isRing 4 = .ok (.ifCond .eq 11, 3) := by decide +kernel
theorem d_Mo_isRing_7 : decode b_Mo_isRing 7 = .ok (.aload_n 0, 1) := by decide +kernel
theorem d_Mo_isRing_8 : decode b_Mo_isRing 8 = .ok (.lload_n 2, 1) := by decide +kernel
theorem d_Mo_isRing_9 : decode b_Mo_isRing 9 = .ok (.invokevirtual 127, 3) := by decide +kernel
theorem d_Mo_isRing_12 : decode b_Mo_isRing 12 = .ok (.ifCond .ne 8, 3) := by decide +kernel
theorem d_Mo_isRing_15 : decode b_Mo_isRing 15 = .ok (.bipush (-2), 2) := by decide +kernel
theorem d_Mo_isRing_17 : decode b_Mo_isRing 17 = .ok (.goto 17, 3) := by decide +kernel
theorem d_Mo_isRing_20 : decode b_Mo_isRing 20 = .ok (.aload_n 0, 1) := by decide +kernel
theorem d_Mo_isRing_21 : decode b_Mo_isRing 21 = .ok (.iload_n 1, 1) := by decide +kernel
theorem d_Mo_isRing_22 : decode b_Mo_isRing 22 = .ok (.lload_n 2, 1) := by decide +kernel
theorem d_Mo_isRing_23 : decode b_Mo_isRing 23 = .ok (.invokevirtual 152, 3) := by decide +kernel
theorem d_Mo_isRing_26 : decode b_Mo_isRing 26 = .ok (.ifCond .eq 7, 3) := by decide +kernel
theorem d_Mo_isRing_29 : decode b_Mo_isRing 29 = .ok (.iconst 1, 1) := by decide +kernel
theorem d_Mo_isRing_30 : decode b_Mo_isRing 30 = .ok (.goto 4, 3) := by decide +kernel
theorem d_Mo_isRing_33 : decode b_Mo_isRing 33 = .ok (.iconst 0, 1) := by decide +kernel
theorem d_Mo_isRing_34 : decode b_Mo_isRing 34 = .ok (.ireturn, 1) := by decide +kernel
def B_Mo_isRing_0 (a1 : Int32) (a2 : Int64) (σ : Sto) : Option (Int32 × Sto) :=
  ((f_Mo_isOne a1 σ).bind fun q1 => (if (b2i q1.1) = 0 then some ((-2 : Int32), q1.2)
 else ((f_Mo_isSet a2 q1.2).bind fun q2 => (if (b2i q2.1) = 0 then some ((-2 : Int32), q2.2)
  else ((f_Mo_areRing a1 a2 q2.2).bind fun q3 => (if (b2i q3.1) = 0 then some ((0 : Int32), q3.2)
   else some ((1 : Int32), q3.2)))))))
set_option maxHeartbeats 4000000 in
set_option maxRecDepth 100000 in
theorem vB_Mo_isRing_0 {X : Xt} {E : En} (g : GG X E 5 b_Mo_isRing R_Mo 4) (a1 : Int32) (a2 : Int64) (σ : Sto) : VV X E b_Mo_isRing 4 eI 0 [(0, .ref (E.2.1 48)), (1, .int a1), (2, .long a2)] [] σ (B_Mo_isRing_0 a1 a2 σ) := by
  unfold B_Mo_isRing_0
  refine v_iload_n 1 g d_Mo_isRing_0 rfl ?_
  refine v_callB (r_S (rest := []) [.int a1] g (m1 1203 (by decide +kernel) (by decide +kernel)) ys_Mo_isOne (fun r σ1 h => sp_Mo_isOne g.2.2.1  h) rfl rfl (by decide) (Nat.le_of_ble_eq_true rfl) d_Mo_isRing_1) (fun q1 => ?_)
  refine v_if_eq 15 g d_Mo_isRing_4 (by decide) (fun _ => ?_) (fun _ => ?_)
  · refine v_bipush (v := (-2 : Int32)) g d_Mo_isRing_15 (by decide +kernel) ?_
    refine v_goto 34 g d_Mo_isRing_17 (by decide) ?_
    exact v_ret d_Mo_isRing_34 rfl
  · refine v_aload_n 0 g d_Mo_isRing_7 rfl ?_
    refine v_lload_n 2 g d_Mo_isRing_8 rfl ?_
    refine v_callB (r_V (rest := []) [.long a2] g (m1 1221 (by decide +kernel) (by decide +kernel)) yv_Mo_isSet rfl (fun r σ1 h => sp_Mo_isSet g.2.2.1  h) rfl rfl (by decide) (Nat.le_of_ble_eq_true rfl) d_Mo_isRing_9) (fun q2 => ?_)
    refine v_if_ne 20 g d_Mo_isRing_12 (by decide) (fun _ => ?_) (fun _ => ?_)
    · refine v_aload_n 0 g d_Mo_isRing_20 rfl ?_
      refine v_iload_n 1 g d_Mo_isRing_21 rfl ?_
      refine v_lload_n 2 g d_Mo_isRing_22 rfl ?_
      refine v_callB (r_V (rest := []) [.int a1, .long a2] g (m1 1254 (by decide +kernel) (by decide +kernel)) yv_Mo_areRing rfl (fun r σ1 h => sp_Mo_areRing g.2.2.1  h) rfl rfl (by decide) (Nat.le_of_ble_eq_true rfl) d_Mo_isRing_23) (fun q3 => ?_)
      refine v_if_eq 33 g d_Mo_isRing_26 (by decide) (fun _ => ?_) (fun _ => ?_)
      · refine v_iconst (v := (0 : Int32)) g d_Mo_isRing_33 (by decide +kernel) ?_
        exact v_ret d_Mo_isRing_34 rfl
      · refine v_iconst (v := (1 : Int32)) g d_Mo_isRing_29 (by decide +kernel) ?_
        refine v_goto 34 g d_Mo_isRing_30 (by decide) ?_
        exact v_ret d_Mo_isRing_34 rfl
    · refine v_bipush (v := (-2 : Int32)) g d_Mo_isRing_15 (by decide +kernel) ?_
      refine v_goto 34 g d_Mo_isRing_17 (by decide) ?_
      exact v_ret d_Mo_isRing_34 rfl
def f_Mo_isRing (a1 : Int32) (a2 : Int64) (σ : Sto) : Option (Int32 × Sto) := B_Mo_isRing_0 a1 a2 σ
theorem sp_Mo_isRing {l : Launch} {E : En} (hE : Dj E) {a1 : Int32} {a2 : Int64} {σ : Sto} {r : Int32} {σ' : Sto} (h : f_Mo_isRing a1 a2 σ = some (r, σ')) : Ct l E y_Mo_isRing (wsM y_Mo_isRing b_Mo_isRing 4 (some .int)) 5 [.ref (E.2.1 48), .int a1, .long a2] σ (eI r) σ' :=
  ct_of hE (by decide +kernel) (Nat.le_of_ble_eq_true rfl) (fun x => Or.inl ⟨rfl, x, rfl⟩) (fun X _ g => vB_Mo_isRing_0 g a1 a2 σ) r σ' h
/-! method FittingRingsModel.lines(IJ)V -/
theorem yv_Mo_lines : YV y_Mo_lines b_Mo_lines 10 (none) 2 10 := ⟨m1 1268 (by decide +kernel) (by decide +kernel), m1 36 (by decide +kernel) (by decide +kernel), ini_Mo, m1 1269 (by decide +kernel) (by decide +kernel), ⟨by decide +kernel, by decide +kernel, by decide +kernel⟩, by decide, by decide, T_Mo, 39, rfl⟩
theorem d_Mo_lines_0 : decode b_Mo_lines 0 = .ok (.lload_n 2, 1) := by decide +kernel
theorem d_Mo_lines_1 : decode b_Mo_lines 1 = .ok (.lstore 4, 2) := by decide +kernel
theorem d_Mo_lines_3 : decode b_Mo_lines 3 = .ok (.aload_n 0, 1) := by decide +kernel
theorem d_Mo_lines_4 : decode b_Mo_lines 4 = .ok (.iconst 0, 1) := by decide +kernel
theorem d_Mo_lines_5 : decode b_Mo_lines 5 = .ok (.putfield 156, 3) := by decide +kernel
theorem d_Mo_lines_8 : decode b_Mo_lines 8 = .ok (.aload_n 0, 1) := by decide +kernel
theorem d_Mo_lines_9 : decode b_Mo_lines 9 = .ok (.iconst 0, 1) := by decide +kernel
theorem d_Mo_lines_10 : decode b_Mo_lines 10 = .ok (.putfield 159, 3) := by decide +kernel
theorem d_Mo_lines_13 : decode b_Mo_lines 13 = .ok (.lload 4, 2) := by decide +kernel
theorem d_Mo_lines_15 : decode b_Mo_lines 15 = .ok (.lconst 0, 1) := by decide +kernel
theorem d_Mo_lines_16 : decode b_Mo_lines 16 = .ok (.lcmp, 1) := by decide +kernel
theorem d_Mo_lines_17 : decode b_Mo_lines 17 = .ok (.ifCond .eq 140, 3) := by decide +kernel
theorem d_Mo_lines_20 : decode b_Mo_lines 20 = .ok (.iconst (-1), 1) := by decide +kernel
theorem d_Mo_lines_21 : decode b_Mo_lines 21 = .ok (.istore 6, 2) := by decide +kernel
theorem d_Mo_lines_23 : decode b_Mo_lines 23 = .ok (.bipush 99, 2) := by decide +kernel
theorem d_Mo_lines_25 : decode b_Mo_lines 25 = .ok (.istore 7, 2) := by decide +kernel
theorem d_Mo_lines_27 : decode b_Mo_lines 27 = .ok (.iconst 0, 1) := by decide +kernel
theorem d_Mo_lines_28 : decode b_Mo_lines 28 = .ok (.istore 8, 2) := by decide +kernel
theorem d_Mo_lines_30 : decode b_Mo_lines 30 = .ok (.iload 8, 2) := by decide +kernel
theorem d_Mo_lines_32 : decode b_Mo_lines 32 = .ok (.aload_n 0, 1) := by decide +kernel
theorem d_Mo_lines_33 : decode b_Mo_lines 33 = .ok (.getfield 80, 3) := by decide +kernel
theorem d_Mo_lines_36 : decode b_Mo_lines 36 = .ok (.if_icmp .ge 70, 3) := by decide +kernel
theorem d_Mo_lines_39 : decode b_Mo_lines 39 = .ok (.lload 4, 2) := by decide +kernel
theorem d_Mo_lines_41 : decode b_Mo_lines 41 = .ok (.iload 8, 2) := by decide +kernel
theorem d_Mo_lines_43 : decode b_Mo_lines 43 = .ok (.invokestatic 119, 3) := by decide +kernel
theorem d_Mo_lines_46 : decode b_Mo_lines 46 = .ok (.ifCond .eq 18, 3) := by decide +kernel
theorem d_Mo_lines_49 : decode b_Mo_lines 49 = .ok (.aload_n 0, 1) := by decide +kernel
theorem d_Mo_lines_50 : decode b_Mo_lines 50 = .ok (.iload_n 1, 1) := by decide +kernel
theorem d_Mo_lines_51 : decode b_Mo_lines 51 = .ok (.iload 8, 2) := by decide +kernel
theorem d_Mo_lines_53 : decode b_Mo_lines 53 = .ok (.lload 4, 2) := by decide +kernel
theorem d_Mo_lines_55 : decode b_Mo_lines 55 = .ok (.invokevirtual 135, 3) := by decide +kernel
theorem d_Mo_lines_58 : decode b_Mo_lines 58 = .ok (.invokestatic 96, 3) := by decide +kernel
theorem d_Mo_lines_61 : decode b_Mo_lines 61 = .ok (.goto 5, 3) := by decide +kernel
theorem d_Mo_lines_64 : decode b_Mo_lines 64 = .ok (.bipush 99, 2) := by decide +kernel
theorem d_Mo_lines_66 : decode b_Mo_lines 66 = .ok (.istore 9, 2) := by decide +kernel
theorem d_Mo_lines_68 : decode b_Mo_lines 68 = .ok (.iload 9, 2) := by decide +kernel
theorem d_Mo_lines_70 : decode b_Mo_lines 70 = .ok (.iload 7, 2) := by decide +kernel
theorem d_Mo_lines_72 : decode b_Mo_lines 72 = .ok (.if_icmp .ge 8, 3) := by decide +kernel
theorem d_Mo_lines_75 : decode b_Mo_lines 75 = .ok (.iload 8, 2) := by decide +kernel
theorem d_Mo_lines_77 : decode b_Mo_lines 77 = .ok (.goto 5, 3) := by decide +kernel
theorem d_Mo_lines_80 : decode b_Mo_lines 80 = .ok (.iload 6, 2) := by decide +kernel
theorem d_Mo_lines_82 : decode b_Mo_lines 82 = .ok (.istore 6, 2) := by decide +kernel
theorem d_Mo_lines_84 : decode b_Mo_lines 84 = .ok (.iload 9, 2) := by decide +kernel
theorem d_Mo_lines_86 : decode b_Mo_lines 86 = .ok (.iload 7, 2) := by decide +kernel
theorem d_Mo_lines_88 : decode b_Mo_lines 88 = .ok (.if_icmp .ge 8, 3) := by decide +kernel
theorem d_Mo_lines_91 : decode b_Mo_lines 91 = .ok (.iload 9, 2) := by decide +kernel
theorem d_Mo_lines_93 : decode b_Mo_lines 93 = .ok (.goto 5, 3) := by decide +kernel
theorem d_Mo_lines_96 : decode b_Mo_lines 96 = .ok (.iload 7, 2) := by decide +kernel
theorem d_Mo_lines_98 : decode b_Mo_lines 98 = .ok (.istore 7, 2) := by decide +kernel
theorem d_Mo_lines_100 : decode b_Mo_lines 100 = .ok (.iinc 8 1, 3) := by decide +kernel
theorem d_Mo_lines_103 : decode b_Mo_lines 103 = .ok (.goto (-73), 3) := by decide +kernel
theorem d_Mo_lines_106 : decode b_Mo_lines 106 = .ok (.aload_n 0, 1) := by decide +kernel
theorem d_Mo_lines_107 : decode b_Mo_lines 107 = .ok (.aload_n 0, 1) := by decide +kernel
theorem d_Mo_lines_108 : decode b_Mo_lines 108 = .ok (.getfield 159, 3) := by decide +kernel
theorem d_Mo_lines_111 : decode b_Mo_lines 111 = .ok (.iload 7, 2) := by decide +kernel
theorem d_Mo_lines_113 : decode b_Mo_lines 113 = .ok (.invokestatic 162, 3) := by decide +kernel
theorem d_Mo_lines_116 : decode b_Mo_lines 116 = .ok (.putfield 159, 3) := by decide +kernel
theorem d_Mo_lines_119 : decode b_Mo_lines 119 = .ok (.aload_n 0, 1) := by decide +kernel
theorem d_Mo_lines_120 : decode b_Mo_lines 120 = .ok (.getfield 29, 3) := by decide +kernel
theorem d_Mo_lines_123 : decode b_Mo_lines 123 = .ok (.aload_n 0, 1) := by decide +kernel
theorem d_Mo_lines_124 : decode b_Mo_lines 124 = .ok (.getfield 156, 3) := by decide +kernel
theorem d_Mo_lines_127 : decode b_Mo_lines 127 = .ok (.iload 6, 2) := by decide +kernel
theorem d_Mo_lines_129 : decode b_Mo_lines 129 = .ok (.iastore, 1) := by decide +kernel
theorem d_Mo_lines_130 : decode b_Mo_lines 130 = .ok (.aload_n 0, 1) := by decide +kernel
theorem d_Mo_lines_131 : decode b_Mo_lines 131 = .ok (.dup, 1) := by decide +kernel
theorem d_Mo_lines_132 : decode b_Mo_lines 132 = .ok (.getfield 156, 3) := by decide +kernel
theorem d_Mo_lines_135 : decode b_Mo_lines 135 = .ok (.iconst 1, 1) := by decide +kernel
theorem d_Mo_lines_136 : decode b_Mo_lines 136 = .ok (.iadd, 1) := by decide +kernel
theorem d_Mo_lines_137 : decode b_Mo_lines 137 = .ok (.putfield 156, 3) := by decide +kernel
theorem d_Mo_lines_140 : decode b_Mo_lines 140 = .ok (.lload 4, 2) := by decide +kernel
theorem d_Mo_lines_142 : decode b_Mo_lines 142 = .ok (.iload 6, 2) := by decide +kernel
theorem d_Mo_lines_144 : decode b_Mo_lines 144 = .ok (.invokestatic 110, 3) := by decide +kernel
theorem d_Mo_lines_147 : decode b_Mo_lines 147 = .ok (.ldc2_w 114, 3) := by decide +kernel
theorem d_Mo_lines_150 : decode b_Mo_lines 150 = .ok (.lxor, 1) := by decide +kernel
theorem d_Mo_lines_151 : decode b_Mo_lines 151 = .ok (.land, 1) := by decide +kernel
theorem d_Mo_lines_152 : decode b_Mo_lines 152 = .ok (.lstore 4, 2) := by decide +kernel
theorem d_Mo_lines_154 : decode b_Mo_lines 154 = .ok (.goto (-141), 3) := by decide +kernel
theorem d_Mo_lines_157 : decode b_Mo_lines 157 = .ok (.return_, 1) := by decide +kernel
def B_Mo_lines_66 (k30 : Int32 → Int64 → Int32 → Int32 → Int32 → Sto → Option (Unit × Sto)) (v1 : Int32) (v4 : Int64) (v6 : Int32) (v7 : Int32) (v8 : Int32) (s0 : Int32) (σ : Sto) : Option (Unit × Sto) :=
  (if v7 ≤ s0 then (if v7 ≤ s0 then k30 v1 v4 v6 v7 (v8 + (1 : Int32)) σ
  else k30 v1 v4 v6 s0 (v8 + (1 : Int32)) σ)
 else (if v7 ≤ s0 then k30 v1 v4 v8 v7 (v8 + (1 : Int32)) σ
  else k30 v1 v4 v8 s0 (v8 + (1 : Int32)) σ))
set_option maxHeartbeats 4000000 in
set_option maxRecDepth 100000 in
theorem vB_Mo_lines_66 {X : Xt} {E : En} (g : GG X E 3 b_Mo_lines R_Mo 10) {k30 : Int32 → Int64 → Int32 → Int32 → Int32 → Sto → Option (Unit × Sto)} (hk30 : ∀ (v1 : Int32) (v4 : Int64) (v6 : Int32) (v7 : Int32) (v8 : Int32) (σ : Sto), VV X E b_Mo_lines 10 eU 30 [(0, .ref (E.2.1 48)), (1, .int v1), (4, .long v4), (6, .int v6), (7, .int v7), (8, .int v8)] [] σ (k30 v1 v4 v6 v7 v8 σ)) (v1 : Int32) (v4 : Int64) (v6 : Int32) (v7 : Int32) (v8 : Int32) (s0 : Int32) (σ : Sto) : VV X E b_Mo_lines 10 eU 66 [(0, .ref (E.2.1 48)), (1, .int v1), (4, .long v4), (6, .int v6), (7, .int v7), (8, .int v8)] [.int s0] σ (B_Mo_lines_66 k30 v1 v4 v6 v7 v8 s0 σ) := by
  unfold B_Mo_lines_66
  refine v_istore [(9, .int s0), (0, .ref (E.2.1 48)), (1, .int v1), (4, .long v4), (6, .int v6), (7, .int v7), (8, .int v8)] g d_Mo_lines_66 (by decide) rfl ?_
  refine v_iload 0 g d_Mo_lines_68 rfl ?_
  refine v_iload 5 g d_Mo_lines_70 rfl ?_
  refine v_icmp_ge 80 g d_Mo_lines_72 (by decide) (fun _ => ?_) (fun _ => ?_)
  · refine v_iload 4 g d_Mo_lines_80 rfl ?_
    refine v_istore [(6, .int v6), (9, .int s0), (0, .ref (E.2.1 48)), (1, .int v1), (4, .long v4), (7, .int v7), (8, .int v8)] g d_Mo_lines_82 (by decide) rfl ?_
    refine v_iload 1 g d_Mo_lines_84 rfl ?_
    refine v_iload 5 g d_Mo_lines_86 rfl ?_
    refine v_icmp_ge 96 g d_Mo_lines_88 (by decide) (fun _ => ?_) (fun _ => ?_)
    · refine v_iload 5 g d_Mo_lines_96 rfl ?_
      refine v_istore [(7, .int v7), (6, .int v6), (9, .int s0), (0, .ref (E.2.1 48)), (1, .int v1), (4, .long v4), (8, .int v8)] g d_Mo_lines_98 (by decide) rfl ?_
      refine v_iinc 6 [(8, .int (v8 + (1 : Int32))), (7, .int v7), (6, .int v6), (9, .int s0), (0, .ref (E.2.1 48)), (1, .int v1), (4, .long v4)] g d_Mo_lines_100 rfl (v := (1 : Int32)) (by decide +kernel) (by decide) rfl ?_
      refine v_goto 30 g d_Mo_lines_103 (by decide) ?_
      exact v_sub [4,5,6,2,1,0] rfl (hk30 v1 v4 v6 v7 (v8 + (1 : Int32)) σ)
    · refine v_iload 1 g d_Mo_lines_91 rfl ?_
      refine v_goto 98 g d_Mo_lines_93 (by decide) ?_
      refine v_istore [(7, .int s0), (6, .int v6), (9, .int s0), (0, .ref (E.2.1 48)), (1, .int v1), (4, .long v4), (8, .int v8)] g d_Mo_lines_98 (by decide) rfl ?_
      refine v_iinc 6 [(8, .int (v8 + (1 : Int32))), (7, .int s0), (6, .int v6), (9, .int s0), (0, .ref (E.2.1 48)), (1, .int v1), (4, .long v4)] g d_Mo_lines_100 rfl (v := (1 : Int32)) (by decide +kernel) (by decide) rfl ?_
      refine v_goto 30 g d_Mo_lines_103 (by decide) ?_
      exact v_sub [4,5,6,2,1,0] rfl (hk30 v1 v4 v6 s0 (v8 + (1 : Int32)) σ)
  · refine v_iload 6 g d_Mo_lines_75 rfl ?_
    refine v_goto 82 g d_Mo_lines_77 (by decide) ?_
    refine v_istore [(6, .int v8), (9, .int s0), (0, .ref (E.2.1 48)), (1, .int v1), (4, .long v4), (7, .int v7), (8, .int v8)] g d_Mo_lines_82 (by decide) rfl ?_
    refine v_iload 1 g d_Mo_lines_84 rfl ?_
    refine v_iload 5 g d_Mo_lines_86 rfl ?_
    refine v_icmp_ge 96 g d_Mo_lines_88 (by decide) (fun _ => ?_) (fun _ => ?_)
    · refine v_iload 5 g d_Mo_lines_96 rfl ?_
      refine v_istore [(7, .int v7), (6, .int v8), (9, .int s0), (0, .ref (E.2.1 48)), (1, .int v1), (4, .long v4), (8, .int v8)] g d_Mo_lines_98 (by decide) rfl ?_
      refine v_iinc 6 [(8, .int (v8 + (1 : Int32))), (7, .int v7), (6, .int v8), (9, .int s0), (0, .ref (E.2.1 48)), (1, .int v1), (4, .long v4)] g d_Mo_lines_100 rfl (v := (1 : Int32)) (by decide +kernel) (by decide) rfl ?_
      refine v_goto 30 g d_Mo_lines_103 (by decide) ?_
      exact v_sub [4,5,6,2,1,0] rfl (hk30 v1 v4 v8 v7 (v8 + (1 : Int32)) σ)
    · refine v_iload 1 g d_Mo_lines_91 rfl ?_
      refine v_goto 98 g d_Mo_lines_93 (by decide) ?_
      refine v_istore [(7, .int s0), (6, .int v8), (9, .int s0), (0, .ref (E.2.1 48)), (1, .int v1), (4, .long v4), (8, .int v8)] g d_Mo_lines_98 (by decide) rfl ?_
      refine v_iinc 6 [(8, .int (v8 + (1 : Int32))), (7, .int s0), (6, .int v8), (9, .int s0), (0, .ref (E.2.1 48)), (1, .int v1), (4, .long v4)] g d_Mo_lines_100 rfl (v := (1 : Int32)) (by decide +kernel) (by decide) rfl ?_
      refine v_goto 30 g d_Mo_lines_103 (by decide) ?_
      exact v_sub [4,5,6,2,1,0] rfl (hk30 v1 v4 v8 s0 (v8 + (1 : Int32)) σ)
def B_Mo_lines_30 (k13 : Int32 → Int64 → Sto → Option (Unit × Sto)) (k30 : Int32 → Int64 → Int32 → Int32 → Int32 → Sto → Option (Unit × Sto)) (v1 : Int32) (v4 : Int64) (v6 : Int32) (v7 : Int32) (v8 : Int32) (σ : Sto) : Option (Unit × Sto) :=
  (if (gI σ 48 0) ≤ v8 then ((f_Mo_most (gI σ 48 11) v7 σ).bind fun q1 => (if inb (gI (sI q1.2 48 11 q1.1) 48 10) 40 = true then (lt1 (sI (sI q1.2 48 11 q1.1) 55 (Int32.toNatClampNeg (gI (sI q1.2 48 11 q1.1) 48 10)) v6) fun σ2 => ((f_Mo_bit v6 (sI σ2 48 10 ((gI σ2 48 10) + (1 : Int32)))).bind fun q3 => (lt1 (v4 &&& (q3.1 ^^^ (-1 : Int64))) fun x4 => k13 v1 x4 q3.2))) else none))
 else ((f_Mo_has v4 v8 σ).bind fun q5 => (if (b2i q5.1) = 0 then B_Mo_lines_66 k30 v1 v4 v6 v7 v8 (99 : Int32) q5.2
  else ((f_Mo_fits v1 v8 v4 q5.2).bind fun q6 => ((f_Mo_many q6.1 q6.2).bind fun q7 => B_Mo_lines_66 k30 v1 v4 v6 v7 v8 q7.1 q7.2)))))
set_option maxHeartbeats 4000000 in
set_option maxRecDepth 100000 in
theorem vB_Mo_lines_30 {X : Xt} {E : En} (g : GG X E 3 b_Mo_lines R_Mo 10) {k13 : Int32 → Int64 → Sto → Option (Unit × Sto)} {k30 : Int32 → Int64 → Int32 → Int32 → Int32 → Sto → Option (Unit × Sto)} (hk13 : ∀ (v1 : Int32) (v4 : Int64) (σ : Sto), VV X E b_Mo_lines 10 eU 13 [(0, .ref (E.2.1 48)), (1, .int v1), (4, .long v4)] [] σ (k13 v1 v4 σ)) (hk30 : ∀ (v1 : Int32) (v4 : Int64) (v6 : Int32) (v7 : Int32) (v8 : Int32) (σ : Sto), VV X E b_Mo_lines 10 eU 30 [(0, .ref (E.2.1 48)), (1, .int v1), (4, .long v4), (6, .int v6), (7, .int v7), (8, .int v8)] [] σ (k30 v1 v4 v6 v7 v8 σ)) (v1 : Int32) (v4 : Int64) (v6 : Int32) (v7 : Int32) (v8 : Int32) (σ : Sto) : VV X E b_Mo_lines 10 eU 30 [(0, .ref (E.2.1 48)), (1, .int v1), (4, .long v4), (6, .int v6), (7, .int v7), (8, .int v8)] [] σ (B_Mo_lines_30 k13 k30 v1 v4 v6 v7 v8 σ) := by
  unfold B_Mo_lines_30
  refine v_iload 5 g d_Mo_lines_30 rfl ?_
  refine v_aload_n 0 g d_Mo_lines_32 rfl ?_
  refine v_getI g ff_Mo_80 rfl rfl d_Mo_lines_33 ?_
  refine v_icmp_ge 106 g d_Mo_lines_36 (by decide) (fun _ => ?_) (fun _ => ?_)
  · refine v_aload_n 0 g d_Mo_lines_106 rfl ?_
    refine v_aload_n 0 g d_Mo_lines_107 rfl ?_
    refine v_getI g ff_Mo_159 rfl rfl d_Mo_lines_108 ?_
    refine v_iload 4 g d_Mo_lines_111 rfl ?_
    refine v_callI (r_S (rest := [.ref (E.2.1 48)]) [.int (gI σ 48 11), .int v7] g (m1 1270 (by decide +kernel) (by decide +kernel)) ys_Mo_most (fun r σ1 h => sp_Mo_most g.2.2.1  h) rfl rfl (by decide) (Nat.le_of_ble_eq_true rfl) d_Mo_lines_113) (fun q1 => ?_)
    refine v_putI g fp_Mo_159 rfl rfl d_Mo_lines_116 ?_
    refine v_aload_n 0 g d_Mo_lines_119 rfl ?_
    refine v_getR 55 g ff_Mo_29 rfl rfl rfl d_Mo_lines_120 ?_
    refine v_aload_n 0 g d_Mo_lines_123 rfl ?_
    refine v_getI g ff_Mo_156 rfl rfl d_Mo_lines_124 ?_
    refine v_iload 3 g d_Mo_lines_127 rfl ?_
    refine v_iast g rfl rfl d_Mo_lines_129 (fun _ => ?_)
    refine v_nlet (fun σ2 eσ2 => ?_)
    rw [← eσ2]
    refine v_aload_n 0 g d_Mo_lines_130 rfl ?_
    refine v_dup g d_Mo_lines_131 rfl ?_
    refine v_getI g ff_Mo_156 rfl rfl d_Mo_lines_132 ?_
    refine v_iconst (v := (1 : Int32)) g d_Mo_lines_135 (by decide +kernel) ?_
    refine v_iadd g d_Mo_lines_136 ?_
    refine v_putI g fp_Mo_156 rfl rfl d_Mo_lines_137 ?_
    refine v_lload 2 g d_Mo_lines_140 rfl ?_
    refine v_iload 3 g d_Mo_lines_142 rfl ?_
    refine v_callL (r_S (rest := [.long v4]) [.int v6] g (m1 1213 (by decide +kernel) (by decide +kernel)) ys_Mo_bit (fun r σ1 h => sp_Mo_bit g.2.2.1  h) rfl rfl (by decide) (Nat.le_of_ble_eq_true rfl) d_Mo_lines_144) (fun q3 => ?_)
    refine v_ldc2 (v := (-1 : Int64)) g (m1 1216 (by decide +kernel) (by decide +kernel)) d_Mo_lines_147 ?_
    refine v_lxor g d_Mo_lines_150 ?_
    refine v_land g d_Mo_lines_151 ?_
    refine v_nlet (fun x4 ex4 => ?_)
    rw [← ex4]
    refine v_lstore [(4, .long x4), (0, .ref (E.2.1 48)), (1, .int v1), (6, .int v6), (7, .int v7), (8, .int v8)] g d_Mo_lines_152 (by decide) rfl ?_
    refine v_goto 13 g d_Mo_lines_154 (by decide) ?_
    exact v_sub [1,2,0] rfl (hk13 v1 x4 q3.2)
  · refine v_lload 2 g d_Mo_lines_39 rfl ?_
    refine v_iload 5 g d_Mo_lines_41 rfl ?_
    refine v_callB (r_S (rest := []) [.long v4, .int v8] g (m1 1206 (by decide +kernel) (by decide +kernel)) ys_Mo_has (fun r σ1 h => sp_Mo_has g.2.2.1  h) rfl rfl (by decide) (Nat.le_of_ble_eq_true rfl) d_Mo_lines_43) (fun q5 => ?_)
    refine v_if_eq 64 g d_Mo_lines_46 (by decide) (fun _ => ?_) (fun _ => ?_)
    · refine v_bipush (v := (99 : Int32)) g d_Mo_lines_64 (by decide +kernel) ?_
      exact v_sub [0,1,2,3,4,5] rfl (vB_Mo_lines_66 g hk30 v1 v4 v6 v7 v8 (99 : Int32) q5.2)
    · refine v_aload_n 0 g d_Mo_lines_49 rfl ?_
      refine v_iload_n 1 g d_Mo_lines_50 rfl ?_
      refine v_iload 5 g d_Mo_lines_51 rfl ?_
      refine v_lload 2 g d_Mo_lines_53 rfl ?_
      refine v_callL (r_V (rest := []) [.int v1, .int v8, .long v4] g (m1 1233 (by decide +kernel) (by decide +kernel)) yv_Mo_fits rfl (fun r σ1 h => sp_Mo_fits g.2.2.1  h) rfl rfl (by decide) (Nat.le_of_ble_eq_true rfl) d_Mo_lines_55) (fun q6 => ?_)
      refine v_callI (r_S (rest := []) [.long q6.1] g (m1 1188 (by decide +kernel) (by decide +kernel)) ys_Mo_many (fun r σ1 h => sp_Mo_many g.2.2.1  h) rfl rfl (by decide) (Nat.le_of_ble_eq_true rfl) d_Mo_lines_58) (fun q7 => ?_)
      refine v_goto 66 g d_Mo_lines_61 (by decide) ?_
      exact v_sub [0,1,2,3,4,5] rfl (vB_Mo_lines_66 g hk30 v1 v4 v6 v7 v8 q7.1 q7.2)
def L_Mo_lines_30 (k13 : Int32 → Int64 → Sto → Option (Unit × Sto)) : Nat → Int32 → Int64 → Int32 → Int32 → Int32 → Sto → Option (Unit × Sto)
  | 0, _, _, _, _, _, _ => none
  | fu + 1, v1, v4, v6, v7, v8, σ => B_Mo_lines_30 k13 (L_Mo_lines_30 k13 fu) v1 v4 v6 v7 v8 σ
theorem vL_Mo_lines_30 {X : Xt} {E : En} (g : GG X E 3 b_Mo_lines R_Mo 10) {k13 : Int32 → Int64 → Sto → Option (Unit × Sto)} (hk13 : ∀ (v1 : Int32) (v4 : Int64) (σ : Sto), VV X E b_Mo_lines 10 eU 13 [(0, .ref (E.2.1 48)), (1, .int v1), (4, .long v4)] [] σ (k13 v1 v4 σ)) (fu : Nat) : ∀ (v1 : Int32) (v4 : Int64) (v6 : Int32) (v7 : Int32) (v8 : Int32) (σ : Sto), VV X E b_Mo_lines 10 eU 30 [(0, .ref (E.2.1 48)), (1, .int v1), (4, .long v4), (6, .int v6), (7, .int v7), (8, .int v8)] [] σ (L_Mo_lines_30 k13 fu v1 v4 v6 v7 v8 σ) := by
  induction fu with
  | zero => intros; exact v_none
  | succ fu ih =>
    intro v1 v4 v6 v7 v8 σ
    exact vB_Mo_lines_30 g hk13 ih v1 v4 v6 v7 v8 σ
def B_Mo_lines_13 (k13 : Int32 → Int64 → Sto → Option (Unit × Sto)) (v1 : Int32) (v4 : Int64) (σ : Sto) : Option (Unit × Sto) :=
  (if v4 = (0 : Int64) then some ((), σ)
 else L_Mo_lines_30 k13 LF v1 v4 (-1 : Int32) (99 : Int32) (0 : Int32) σ)
set_option maxHeartbeats 4000000 in
set_option maxRecDepth 100000 in
theorem vB_Mo_lines_13 {X : Xt} {E : En} (g : GG X E 3 b_Mo_lines R_Mo 10) {k13 : Int32 → Int64 → Sto → Option (Unit × Sto)} (hk13 : ∀ (v1 : Int32) (v4 : Int64) (σ : Sto), VV X E b_Mo_lines 10 eU 13 [(0, .ref (E.2.1 48)), (1, .int v1), (4, .long v4)] [] σ (k13 v1 v4 σ)) (v1 : Int32) (v4 : Int64) (σ : Sto) : VV X E b_Mo_lines 10 eU 13 [(0, .ref (E.2.1 48)), (1, .int v1), (4, .long v4)] [] σ (B_Mo_lines_13 k13 v1 v4 σ) := by
  unfold B_Mo_lines_13
  refine v_lload 2 g d_Mo_lines_13 rfl ?_
  refine v_lconst (v := (0 : Int64)) g d_Mo_lines_15 (by decide +kernel) ?_
  refine v_lcmp_eq 157 g d_Mo_lines_16 d_Mo_lines_17 (by decide) (fun _ => ?_) (fun _ => ?_)
  · exact v_ret d_Mo_lines_157 rfl
  · refine v_iconst (v := (-1 : Int32)) g d_Mo_lines_20 (by decide +kernel) ?_
    refine v_istore [(6, .int (-1 : Int32)), (0, .ref (E.2.1 48)), (1, .int v1), (4, .long v4)] g d_Mo_lines_21 (by decide) rfl ?_
    refine v_bipush (v := (99 : Int32)) g d_Mo_lines_23 (by decide +kernel) ?_
    refine v_istore [(7, .int (99 : Int32)), (6, .int (-1 : Int32)), (0, .ref (E.2.1 48)), (1, .int v1), (4, .long v4)] g d_Mo_lines_25 (by decide) rfl ?_
    refine v_iconst (v := (0 : Int32)) g d_Mo_lines_27 (by decide +kernel) ?_
    refine v_istore [(8, .int (0 : Int32)), (7, .int (99 : Int32)), (6, .int (-1 : Int32)), (0, .ref (E.2.1 48)), (1, .int v1), (4, .long v4)] g d_Mo_lines_28 (by decide) rfl ?_
    exact v_sub [3,4,5,2,1,0] rfl (vL_Mo_lines_30 g hk13 LF v1 v4 (-1 : Int32) (99 : Int32) (0 : Int32) σ)
def L_Mo_lines_13 : Nat → Int32 → Int64 → Sto → Option (Unit × Sto)
  | 0, _, _, _ => none
  | fu + 1, v1, v4, σ => B_Mo_lines_13 (L_Mo_lines_13 fu) v1 v4 σ
theorem vL_Mo_lines_13 {X : Xt} {E : En} (g : GG X E 3 b_Mo_lines R_Mo 10) (fu : Nat) : ∀ (v1 : Int32) (v4 : Int64) (σ : Sto), VV X E b_Mo_lines 10 eU 13 [(0, .ref (E.2.1 48)), (1, .int v1), (4, .long v4)] [] σ (L_Mo_lines_13 fu v1 v4 σ) := by
  induction fu with
  | zero => intros; exact v_none
  | succ fu ih =>
    intro v1 v4 σ
    exact vB_Mo_lines_13 g ih v1 v4 σ
def B_Mo_lines_0 (a1 : Int32) (a2 : Int64) (σ : Sto) : Option (Unit × Sto) :=
  L_Mo_lines_13 LF a1 a2 (sI (sI σ 48 10 (0 : Int32)) 48 11 (0 : Int32))
set_option maxHeartbeats 4000000 in
set_option maxRecDepth 100000 in
theorem vB_Mo_lines_0 {X : Xt} {E : En} (g : GG X E 3 b_Mo_lines R_Mo 10) (a1 : Int32) (a2 : Int64) (σ : Sto) : VV X E b_Mo_lines 10 eU 0 [(0, .ref (E.2.1 48)), (1, .int a1), (2, .long a2)] [] σ (B_Mo_lines_0 a1 a2 σ) := by
  unfold B_Mo_lines_0
  refine v_lload_n 2 g d_Mo_lines_0 rfl ?_
  refine v_lstore [(4, .long a2), (0, .ref (E.2.1 48)), (1, .int a1), (2, .long a2)] g d_Mo_lines_1 (by decide) rfl ?_
  refine v_aload_n 1 g d_Mo_lines_3 rfl ?_
  refine v_iconst (v := (0 : Int32)) g d_Mo_lines_4 (by decide +kernel) ?_
  refine v_putI g fp_Mo_156 rfl rfl d_Mo_lines_5 ?_
  refine v_aload_n 1 g d_Mo_lines_8 rfl ?_
  refine v_iconst (v := (0 : Int32)) g d_Mo_lines_9 (by decide +kernel) ?_
  refine v_putI g fp_Mo_159 rfl rfl d_Mo_lines_10 ?_
  exact v_sub [1,2,0] rfl (vL_Mo_lines_13 g LF a1 a2 (sI (sI σ 48 10 (0 : Int32)) 48 11 (0 : Int32)))
def f_Mo_lines (a1 : Int32) (a2 : Int64) (σ : Sto) : Option (Unit × Sto) := B_Mo_lines_0 a1 a2 σ
theorem sp_Mo_lines {l : Launch} {E : En} (hE : Dj E) {a1 : Int32} {a2 : Int64} {σ : Sto} {r : Unit} {σ' : Sto} (h : f_Mo_lines a1 a2 σ = some (r, σ')) : Ct l E y_Mo_lines (wsM y_Mo_lines b_Mo_lines 10 (none)) 3 [.ref (E.2.1 48), .int a1, .long a2] σ (eU r) σ' :=
  ct_of hE (by decide +kernel) (Nat.le_of_ble_eq_true rfl) (fun _ => Or.inr (Or.inr (Or.inr (Or.inl ⟨rfl, rfl⟩)))) (fun X _ g => vB_Mo_lines_0 g a1 a2 σ) r σ' h
/-! method FittingRingsModel.order(IJI)I -/
theorem yv_Mo_order : YV y_Mo_order b_Mo_order 5 (some .int) 3 10 := ⟨m1 1263 (by decide +kernel) (by decide +kernel), m1 1264 (by decide +kernel) (by decide +kernel), ini_Mo, m1 1265 (by decide +kernel) (by decide +kernel), ⟨by decide +kernel, by decide +kernel, by decide +kernel⟩, by decide, by decide, T_Mo, 39, rfl⟩
theorem d_Mo_order_0 : decode b_Mo_order 0 = .ok (.iload_n 1, 1) := by decide +kernel
theorem d_Mo_order_1 : decode b_Mo_order 1 = .ok (.invokestatic 116, 3) := by decide +kernel
theorem d_Mo_order_4 : decode b_Mo_order 4 = .ok (.ifCond .eq 11, 3) := by decide +kernel
theorem d_Mo_order_7 : decode b_Mo_order 7 = .ok (.aload_n 0, 1) := by decide +kernel
theorem d_Mo_order_8 : decode b_Mo_order 8 = .ok (.lload_n 2, 1) := by decide +kernel
theorem d_Mo_order_9 : decode b_Mo_order 9 = .ok (.invokevirtual 127, 3) := by decide +kernel
theorem d_Mo_order_12 : decode b_Mo_order 12 = .ok (.ifCond .ne 6, 3) := by decide +kernel
theorem d_Mo_order_15 : decode b_Mo_order 15 = .ok (.bipush (-2), 2) := by decide +kernel
theorem d_Mo_order_17 : decode b_Mo_order 17 = .ok (.ireturn, 1) := by decide +kernel
theorem d_Mo_order_18 : decode b_Mo_order 18 = .ok (.aload_n 0, 1) := by decide +kernel
theorem d_Mo_order_19 : decode b_Mo_order 19 = .ok (.iload_n 1, 1) := by decide +kernel
theorem d_Mo_order_20 : decode b_Mo_order 20 = .ok (.lload_n 2, 1) := by decide +kernel
theorem d_Mo_order_21 : decode b_Mo_order 21 = .ok (.invokevirtual 165, 3) := by decide +kernel
theorem d_Mo_order_24 : decode b_Mo_order 24 = .ok (.iload 4, 2) := by decide +kernel
theorem d_Mo_order_26 : decode b_Mo_order 26 = .ok (.iconst (-1), 1) := by decide +kernel
theorem d_Mo_order_27 : decode b_Mo_order 27 = .ok (.if_icmp .ne 10, 3) := by decide +kernel
theorem d_Mo_order_30 : decode b_Mo_order 30 = .ok (.aload_n 0, 1) := by decide +kernel
theorem d_Mo_order_31 : decode b_Mo_order 31 = .ok (.getfield 159, 3) := by decide +kernel
theorem d_Mo_order_34 : decode b_Mo_order 34 = .ok (.goto 32, 3) := by decide +kernel
theorem d_Mo_order_37 : decode b_Mo_order 37 = .ok (.iload 4, 2) := by decide +kernel
theorem d_Mo_order_39 : decode b_Mo_order 39 = .ok (.i2l, 1) := by decide +kernel
theorem d_Mo_order_40 : decode b_Mo_order 40 = .ok (.lconst 0, 1) := by decide +kernel
theorem d_Mo_order_41 : decode b_Mo_order 41 = .ok (.aload_n 0, 1) := by decide +kernel
theorem d_Mo_order_42 : decode b_Mo_order 42 = .ok (.getfield 156, 3) := by decide +kernel
theorem d_Mo_order_45 : decode b_Mo_order 45 = .ok (.iconst 1, 1) := by decide +kernel
theorem d_Mo_order_46 : decode b_Mo_order 46 = .ok (.isub, 1) := by decide +kernel
theorem d_Mo_order_47 : decode b_Mo_order 47 = .ok (.i2l, 1) := by decide +kernel
theorem d_Mo_order_48 : decode b_Mo_order 48 = .ok (.invokestatic 84, 3) := by decide +kernel
theorem d_Mo_order_51 : decode b_Mo_order 51 = .ok (.ifCond .eq 13, 3) := by decide +kernel
theorem d_Mo_order_54 : decode b_Mo_order 54 = .ok (.aload_n 0, 1) := by decide +kernel
theorem d_Mo_order_55 : decode b_Mo_order 55 = .ok (.getfield 29, 3) := by decide +kernel
theorem d_Mo_order_58 : decode b_Mo_order 58 = .ok (.iload 4, 2) := by decide +kernel
theorem d_Mo_order_60 : decode b_Mo_order 60 = .ok (.iaload, 1) := by decide +kernel
theorem d_Mo_order_61 : decode b_Mo_order 61 = .ok (.goto 5, 3) := by decide +kernel
theorem d_Mo_order_64 : decode b_Mo_order 64 = .ok (.bipush (-12), 2) := by decide +kernel
theorem d_Mo_order_66 : decode b_Mo_order 66 = .ok (.ireturn, 1) := by decide +kernel
def B_Mo_order_0 (a1 : Int32) (a2 : Int64) (a4 : Int32) (σ : Sto) : Option (Int32 × Sto) :=
  ((f_Mo_isOne a1 σ).bind fun q1 => (if (b2i q1.1) = 0 then some ((-2 : Int32), q1.2)
 else ((f_Mo_isSet a2 q1.2).bind fun q2 => (if (b2i q2.1) = 0 then some ((-2 : Int32), q2.2)
  else ((f_Mo_lines a1 a2 q2.2).bind fun q3 => (if a4 = (-1 : Int32) then some ((gI q3.2 48 11), q3.2)
   else ((f_Mo_in (Int32.toInt64 a4) (0 : Int64) (Int32.toInt64 ((gI q3.2 48 10) - (1 : Int32))) q3.2).bind fun q4 => (if (b2i q4.1) = 0 then some ((-12 : Int32), q4.2)
    else (if inb a4 40 = true then some ((gI q4.2 55 (Int32.toNatClampNeg a4)), q4.2) else none)))))))))
set_option maxHeartbeats 4000000 in
set_option maxRecDepth 100000 in
theorem vB_Mo_order_0 {X : Xt} {E : En} (g : GG X E 4 b_Mo_order R_Mo 5) (a1 : Int32) (a2 : Int64) (a4 : Int32) (σ : Sto) : VV X E b_Mo_order 5 eI 0 [(0, .ref (E.2.1 48)), (1, .int a1), (2, .long a2), (4, .int a4)] [] σ (B_Mo_order_0 a1 a2 a4 σ) := by
  unfold B_Mo_order_0
  refine v_iload_n 1 g d_Mo_order_0 rfl ?_
  refine v_callB (r_S (rest := []) [.int a1] g (m1 1203 (by decide +kernel) (by decide +kernel)) ys_Mo_isOne (fun r σ1 h => sp_Mo_isOne g.2.2.1  h) rfl rfl (by decide) (Nat.le_of_ble_eq_true rfl) d_Mo_order_1) (fun q1 => ?_)
  refine v_if_eq 15 g d_Mo_order_4 (by decide) (fun _ => ?_) (fun _ => ?_)
  · refine v_bipush (v := (-2 : Int32)) g d_Mo_order_15 (by decide +kernel) ?_
    exact v_ret d_Mo_order_17 rfl
  · refine v_aload_n 0 g d_Mo_order_7 rfl ?_
    refine v_lload_n 2 g d_Mo_order_8 rfl ?_
    refine v_callB (r_V (rest := []) [.long a2] g (m1 1221 (by decide +kernel) (by decide +kernel)) yv_Mo_isSet rfl (fun r σ1 h => sp_Mo_isSet g.2.2.1  h) rfl rfl (by decide) (Nat.le_of_ble_eq_true rfl) d_Mo_order_9) (fun q2 => ?_)
    refine v_if_ne 18 g d_Mo_order_12 (by decide) (fun _ => ?_) (fun _ => ?_)
    · refine v_aload_n 0 g d_Mo_order_18 rfl ?_
      refine v_iload_n 1 g d_Mo_order_19 rfl ?_
      refine v_lload_n 2 g d_Mo_order_20 rfl ?_
      refine v_callU (r_V (rest := []) [.int a1, .long a2] g (m1 1266 (by decide +kernel) (by decide +kernel)) yv_Mo_lines rfl (fun r σ1 h => sp_Mo_lines g.2.2.1  h) rfl rfl (by decide) (Nat.le_of_ble_eq_true rfl) d_Mo_order_21) (fun q3 => ?_)
      refine v_iload 3 g d_Mo_order_24 rfl ?_
      refine v_iconst (v := (-1 : Int32)) g d_Mo_order_26 (by decide +kernel) ?_
      refine v_icmp_ne 37 g d_Mo_order_27 (by decide) (fun _ => ?_) (fun _ => ?_)
      · refine v_iload 3 g d_Mo_order_37 rfl ?_
        refine v_i2l g d_Mo_order_39 ?_
        refine v_lconst (v := (0 : Int64)) g d_Mo_order_40 (by decide +kernel) ?_
        refine v_aload_n 0 g d_Mo_order_41 rfl ?_
        refine v_getI g ff_Mo_156 rfl rfl d_Mo_order_42 ?_
        refine v_iconst (v := (1 : Int32)) g d_Mo_order_45 (by decide +kernel) ?_
        refine v_isub g d_Mo_order_46 ?_
        refine v_i2l g d_Mo_order_47 ?_
        refine v_callB (r_S (rest := []) [.long (Int32.toInt64 a4), .long (0 : Int64), .long (Int32.toInt64 ((gI q3.2 48 10) - (1 : Int32)))] g (m1 1167 (by decide +kernel) (by decide +kernel)) ys_Mo_in (fun r σ1 h => sp_Mo_in g.2.2.1  h) rfl rfl (by decide) (Nat.le_of_ble_eq_true rfl) d_Mo_order_48) (fun q4 => ?_)
        refine v_if_eq 64 g d_Mo_order_51 (by decide) (fun _ => ?_) (fun _ => ?_)
        · refine v_bipush (v := (-12 : Int32)) g d_Mo_order_64 (by decide +kernel) ?_
          exact v_ret d_Mo_order_66 rfl
        · refine v_aload_n 0 g d_Mo_order_54 rfl ?_
          refine v_getR 55 g ff_Mo_29 rfl rfl rfl d_Mo_order_55 ?_
          refine v_iload 3 g d_Mo_order_58 rfl ?_
          refine v_iald g rfl rfl d_Mo_order_60 (fun _ => ?_)
          refine v_goto 66 g d_Mo_order_61 (by decide) ?_
          exact v_ret d_Mo_order_66 rfl
      · refine v_aload_n 0 g d_Mo_order_30 rfl ?_
        refine v_getI g ff_Mo_159 rfl rfl d_Mo_order_31 ?_
        refine v_goto 66 g d_Mo_order_34 (by decide) ?_
        exact v_ret d_Mo_order_66 rfl
    · refine v_bipush (v := (-2 : Int32)) g d_Mo_order_15 (by decide +kernel) ?_
      exact v_ret d_Mo_order_17 rfl
def f_Mo_order (a1 : Int32) (a2 : Int64) (a4 : Int32) (σ : Sto) : Option (Int32 × Sto) := B_Mo_order_0 a1 a2 a4 σ
theorem sp_Mo_order {l : Launch} {E : En} (hE : Dj E) {a1 : Int32} {a2 : Int64} {a4 : Int32} {σ : Sto} {r : Int32} {σ' : Sto} (h : f_Mo_order a1 a2 a4 σ = some (r, σ')) : Ct l E y_Mo_order (wsM y_Mo_order b_Mo_order 5 (some .int)) 4 [.ref (E.2.1 48), .int a1, .long a2, .int a4] σ (eI r) σ' :=
  ct_of hE (by decide +kernel) (Nat.le_of_ble_eq_true rfl) (fun x => Or.inl ⟨rfl, x, rfl⟩) (fun X _ g => vB_Mo_order_0 g a1 a2 a4 σ) r σ' h
/-! method FittingRingsModel.parts(IJ)V -/
theorem yv_Mo_parts : YV y_Mo_parts b_Mo_parts 6 (none) 2 10 := ⟨m1 1279 (by decide +kernel) (by decide +kernel), m1 37 (by decide +kernel) (by decide +kernel), ini_Mo, m1 1280 (by decide +kernel) (by decide +kernel), ⟨by decide +kernel, by decide +kernel, by decide +kernel⟩, by decide, by decide, T_Mo, 39, rfl⟩
theorem d_Mo_parts_0 : decode b_Mo_parts 0 = .ok (.aload_n 0, 1) := by decide +kernel
theorem d_Mo_parts_1 : decode b_Mo_parts 1 = .ok (.iload_n 1, 1) := by decide +kernel
theorem d_Mo_parts_2 : decode b_Mo_parts 2 = .ok (.lload_n 2, 1) := by decide +kernel
theorem d_Mo_parts_3 : decode b_Mo_parts 3 = .ok (.invokevirtual 165, 3) := by decide +kernel
theorem d_Mo_parts_6 : decode b_Mo_parts 6 = .ok (.aload_n 0, 1) := by decide +kernel
theorem d_Mo_parts_7 : decode b_Mo_parts 7 = .ok (.iconst 0, 1) := by decide +kernel
theorem d_Mo_parts_8 : decode b_Mo_parts 8 = .ok (.putfield 169, 3) := by decide +kernel
theorem d_Mo_parts_11 : decode b_Mo_parts 11 = .ok (.aload_n 0, 1) := by decide +kernel
theorem d_Mo_parts_12 : decode b_Mo_parts 12 = .ok (.getfield 156, 3) := by decide +kernel
theorem d_Mo_parts_15 : decode b_Mo_parts 15 = .ok (.iconst 1, 1) := by decide +kernel
theorem d_Mo_parts_16 : decode b_Mo_parts 16 = .ok (.isub, 1) := by decide +kernel
theorem d_Mo_parts_17 : decode b_Mo_parts 17 = .ok (.istore 4, 2) := by decide +kernel
theorem d_Mo_parts_19 : decode b_Mo_parts 19 = .ok (.iload 4, 2) := by decide +kernel
theorem d_Mo_parts_21 : decode b_Mo_parts 21 = .ok (.ifCond .lt 98, 3) := by decide +kernel
theorem d_Mo_parts_24 : decode b_Mo_parts 24 = .ok (.iconst 0, 1) := by decide +kernel
theorem d_Mo_parts_25 : decode b_Mo_parts 25 = .ok (.istore 5, 2) := by decide +kernel
theorem d_Mo_parts_27 : decode b_Mo_parts 27 = .ok (.iload 5, 2) := by decide +kernel
theorem d_Mo_parts_29 : decode b_Mo_parts 29 = .ok (.aload_n 0, 1) := by decide +kernel
theorem d_Mo_parts_30 : decode b_Mo_parts 30 = .ok (.getfield 169, 3) := by decide +kernel
theorem d_Mo_parts_33 : decode b_Mo_parts 33 = .ok (.if_icmp .ge 33, 3) := by decide +kernel
theorem d_Mo_parts_36 : decode b_Mo_parts 36 = .ok (.aload_n 0, 1) := by decide +kernel
theorem d_Mo_parts_37 : decode b_Mo_parts 37 = .ok (.iload_n 1, 1) := by decide +kernel
theorem d_Mo_parts_38 : decode b_Mo_parts 38 = .ok (.aload_n 0, 1) := by decide +kernel
theorem d_Mo_parts_39 : decode b_Mo_parts 39 = .ok (.getfield 29, 3) := by decide +kernel
theorem d_Mo_parts_42 : decode b_Mo_parts 42 = .ok (.iload 4, 2) := by decide +kernel
theorem d_Mo_parts_44 : decode b_Mo_parts 44 = .ok (.iaload, 1) := by decide +kernel
theorem d_Mo_parts_45 : decode b_Mo_parts 45 = .ok (.aload_n 0, 1) := by decide +kernel
theorem d_Mo_parts_46 : decode b_Mo_parts 46 = .ok (.getfield 32, 3) := by decide +kernel
theorem d_Mo_parts_49 : decode b_Mo_parts 49 = .ok (.iload 5, 2) := by decide +kernel
theorem d_Mo_parts_51 : decode b_Mo_parts 51 = .ok (.laload, 1) := by decide +kernel
theorem d_Mo_parts_52 : decode b_Mo_parts 52 = .ok (.invokevirtual 135, 3) := by decide +kernel
theorem d_Mo_parts_55 : decode b_Mo_parts 55 = .ok (.lconst 0, 1) := by decide +kernel
theorem d_Mo_parts_56 : decode b_Mo_parts 56 = .ok (.lcmp, 1) := by decide +kernel
theorem d_Mo_parts_57 : decode b_Mo_parts 57 = .ok (.ifCond .eq 9, 3) := by decide +kernel
theorem d_Mo_parts_60 : decode b_Mo_parts 60 = .ok (.iinc 5 1, 3) := by decide +kernel
theorem d_Mo_parts_63 : decode b_Mo_parts 63 = .ok (.goto (-36), 3) := by decide +kernel
theorem d_Mo_parts_66 : decode b_Mo_parts 66 = .ok (.iload 5, 2) := by decide +kernel
theorem d_Mo_parts_68 : decode b_Mo_parts 68 = .ok (.aload_n 0, 1) := by decide +kernel
theorem d_Mo_parts_69 : decode b_Mo_parts 69 = .ok (.getfield 169, 3) := by decide +kernel
theorem d_Mo_parts_72 : decode b_Mo_parts 72 = .ok (.if_icmp .ne 21, 3) := by decide +kernel
theorem d_Mo_parts_75 : decode b_Mo_parts 75 = .ok (.aload_n 0, 1) := by decide +kernel
theorem d_Mo_parts_76 : decode b_Mo_parts 76 = .ok (.getfield 32, 3) := by decide +kernel
theorem d_Mo_parts_79 : decode b_Mo_parts 79 = .ok (.iload 5, 2) := by decide +kernel
theorem d_Mo_parts_81 : decode b_Mo_parts 81 = .ok (.lconst 0, 1) := by decide +kernel
theorem d_Mo_parts_82 : decode b_Mo_parts 82 = .ok (.lastore, 1) := by decide +kernel
theorem d_Mo_parts_83 : decode b_Mo_parts 83 = .ok (.aload_n 0, 1) := by decide +kernel
theorem d_Mo_parts_84 : decode b_Mo_parts 84 = .ok (.dup, 1) := by decide +kernel
theorem d_Mo_parts_85 : decode b_Mo_parts 85 = .ok (.getfield 169, 3) := by decide +kernel
theorem d_Mo_parts_88 : decode b_Mo_parts 88 = .ok (.iconst 1, 1) := by decide +kernel
theorem d_Mo_parts_89 : decode b_Mo_parts 89 = .ok (.iadd, 1) := by decide +kernel
theorem d_Mo_parts_90 : decode b_Mo_parts 90 = .ok (.putfield 169, 3) := by decide +kernel
theorem d_Mo_parts_93 : decode b_Mo_parts 93 = .ok (.aload_n 0, 1) := by decide +kernel
theorem d_Mo_parts_94 : decode b_Mo_parts 94 = .ok (.getfield 32, 3) := by decide +kernel
theorem d_Mo_parts_97 : decode b_Mo_parts 97 = .ok (.iload 5, 2) := by decide +kernel
theorem d_Mo_parts_99 : decode b_Mo_parts 99 = .ok (.dup2, 1) := by decide +kernel
theorem d_Mo_parts_100 : decode b_Mo_parts 100 = .ok (.laload, 1) := by decide +kernel
theorem d_Mo_parts_101 : decode b_Mo_parts 101 = .ok (.aload_n 0, 1) := by decide +kernel
theorem d_Mo_parts_102 : decode b_Mo_parts 102 = .ok (.getfield 29, 3) := by decide +kernel
theorem d_Mo_parts_105 : decode b_Mo_parts 105 = .ok (.iload 4, 2) := by decide +kernel
theorem d_Mo_parts_107 : decode b_Mo_parts 107 = .ok (.iaload, 1) := by decide +kernel
theorem d_Mo_parts_108 : decode b_Mo_parts 108 = .ok (.invokestatic 110, 3) := by decide +kernel
theorem d_Mo_parts_111 : decode b_Mo_parts 111 = .ok (.lor, 1) := by decide +kernel
theorem d_Mo_parts_112 : decode b_Mo_parts 112 = .ok (.lastore, 1) := by decide +kernel
theorem d_Mo_parts_113 : decode b_Mo_parts 113 = .ok (.iinc 4 (-1), 3) := by decide +kernel
theorem d_Mo_parts_116 : decode b_Mo_parts 116 = .ok (.goto (-97), 3) := by decide +kernel
theorem d_Mo_parts_119 : decode b_Mo_parts 119 = .ok (.return_, 1) := by decide +kernel
def B_Mo_parts_66 (k19 : Int32 → Int32 → Sto → Option (Unit × Sto)) (v1 : Int32) (v4 : Int32) (v5 : Int32) (σ : Sto) : Option (Unit × Sto) :=
  (if v5 = (gI σ 48 13) then (if inb v5 40 = true then (lt1 (sI (sL σ 56 (Int32.toNatClampNeg v5) (0 : Int64)) 48 13 ((gI (sL σ 56 (Int32.toNatClampNeg v5) (0 : Int64)) 48 13) + (1 : Int32))) fun σ6 => (if inb v5 40 = true then (if inb v4 40 = true then ((f_Mo_bit (gI σ6 55 (Int32.toNatClampNeg v4)) σ6).bind fun q7 => (if inb v5 40 = true then (lt1 (sL q7.2 56 (Int32.toNatClampNeg v5) ((gL σ6 56 (Int32.toNatClampNeg v5)) ||| q7.1)) fun σ8 => k19 v1 (v4 + (-1 : Int32)) σ8) else none)) else none) else none)) else none)
 else (if inb v5 40 = true then (if inb v4 40 = true then ((f_Mo_bit (gI σ 55 (Int32.toNatClampNeg v4)) σ).bind fun q4 => (if inb v5 40 = true then (lt1 (sL q4.2 56 (Int32.toNatClampNeg v5) ((gL σ 56 (Int32.toNatClampNeg v5)) ||| q4.1)) fun σ5 => k19 v1 (v4 + (-1 : Int32)) σ5) else none)) else none) else none))
set_option maxHeartbeats 4000000 in
set_option maxRecDepth 100000 in
theorem vB_Mo_parts_66 {X : Xt} {E : En} (g : GG X E 4 b_Mo_parts R_Mo 6) {k19 : Int32 → Int32 → Sto → Option (Unit × Sto)} (hk19 : ∀ (v1 : Int32) (v4 : Int32) (σ : Sto), VV X E b_Mo_parts 6 eU 19 [(0, .ref (E.2.1 48)), (1, .int v1), (4, .int v4)] [] σ (k19 v1 v4 σ)) (v1 : Int32) (v4 : Int32) (v5 : Int32) (σ : Sto) : VV X E b_Mo_parts 6 eU 66 [(0, .ref (E.2.1 48)), (1, .int v1), (4, .int v4), (5, .int v5)] [] σ (B_Mo_parts_66 k19 v1 v4 v5 σ) := by
  unfold B_Mo_parts_66
  refine v_iload 3 g d_Mo_parts_66 rfl ?_
  refine v_aload_n 0 g d_Mo_parts_68 rfl ?_
  refine v_getI g ff_Mo_169 rfl rfl d_Mo_parts_69 ?_
  refine v_icmp_ne 93 g d_Mo_parts_72 (by decide) (fun _ => ?_) (fun _ => ?_)
  · refine v_aload_n 0 g d_Mo_parts_93 rfl ?_
    refine v_getR 56 g ff_Mo_32 rfl rfl rfl d_Mo_parts_94 ?_
    refine v_iload 3 g d_Mo_parts_97 rfl ?_
    refine v_dup2_11 g d_Mo_parts_99 rfl rfl ?_
    refine v_lald g rfl rfl d_Mo_parts_100 (fun _ => ?_)
    refine v_aload_n 0 g d_Mo_parts_101 rfl ?_
    refine v_getR 55 g ff_Mo_29 rfl rfl rfl d_Mo_parts_102 ?_
    refine v_iload 2 g d_Mo_parts_105 rfl ?_
    refine v_iald g rfl rfl d_Mo_parts_107 (fun _ => ?_)
    refine v_callL (r_S (rest := [.long (gL σ 56 (Int32.toNatClampNeg v5)), .int v5, .ref (E.2.1 56)]) [.int (gI σ 55 (Int32.toNatClampNeg v4))] g (m1 1213 (by decide +kernel) (by decide +kernel)) ys_Mo_bit (fun r σ1 h => sp_Mo_bit g.2.2.1  h) rfl rfl (by decide) (Nat.le_of_ble_eq_true rfl) d_Mo_parts_108) (fun q4 => ?_)
    refine v_lor g d_Mo_parts_111 ?_
    refine v_last g rfl rfl d_Mo_parts_112 (fun _ => ?_)
    refine v_nlet (fun σ5 eσ5 => ?_)
    rw [← eσ5]
    refine v_iinc 2 [(4, .int (v4 + (-1 : Int32))), (0, .ref (E.2.1 48)), (1, .int v1), (5, .int v5)] g d_Mo_parts_113 rfl (v := (-1 : Int32)) (by decide +kernel) (by decide) rfl ?_
    refine v_goto 19 g d_Mo_parts_116 (by decide) ?_
    exact v_sub [1,2,0] rfl (hk19 v1 (v4 + (-1 : Int32)) σ5)
  · refine v_aload_n 0 g d_Mo_parts_75 rfl ?_
    refine v_getR 56 g ff_Mo_32 rfl rfl rfl d_Mo_parts_76 ?_
    refine v_iload 3 g d_Mo_parts_79 rfl ?_
    refine v_lconst (v := (0 : Int64)) g d_Mo_parts_81 (by decide +kernel) ?_
    refine v_last g rfl rfl d_Mo_parts_82 (fun _ => ?_)
    refine v_aload_n 0 g d_Mo_parts_83 rfl ?_
    refine v_dup g d_Mo_parts_84 rfl ?_
    refine v_getI g ff_Mo_169 rfl rfl d_Mo_parts_85 ?_
    refine v_iconst (v := (1 : Int32)) g d_Mo_parts_88 (by decide +kernel) ?_
    refine v_iadd g d_Mo_parts_89 ?_
    refine v_putI g fp_Mo_169 rfl rfl d_Mo_parts_90 ?_
    refine v_nlet (fun σ6 eσ6 => ?_)
    rw [← eσ6]
    refine v_aload_n 0 g d_Mo_parts_93 rfl ?_
    refine v_getR 56 g ff_Mo_32 rfl rfl rfl d_Mo_parts_94 ?_
    refine v_iload 3 g d_Mo_parts_97 rfl ?_
    refine v_dup2_11 g d_Mo_parts_99 rfl rfl ?_
    refine v_lald g rfl rfl d_Mo_parts_100 (fun _ => ?_)
    refine v_aload_n 0 g d_Mo_parts_101 rfl ?_
    refine v_getR 55 g ff_Mo_29 rfl rfl rfl d_Mo_parts_102 ?_
    refine v_iload 2 g d_Mo_parts_105 rfl ?_
    refine v_iald g rfl rfl d_Mo_parts_107 (fun _ => ?_)
    refine v_callL (r_S (rest := [.long (gL σ6 56 (Int32.toNatClampNeg v5)), .int v5, .ref (E.2.1 56)]) [.int (gI σ6 55 (Int32.toNatClampNeg v4))] g (m1 1213 (by decide +kernel) (by decide +kernel)) ys_Mo_bit (fun r σ1 h => sp_Mo_bit g.2.2.1  h) rfl rfl (by decide) (Nat.le_of_ble_eq_true rfl) d_Mo_parts_108) (fun q7 => ?_)
    refine v_lor g d_Mo_parts_111 ?_
    refine v_last g rfl rfl d_Mo_parts_112 (fun _ => ?_)
    refine v_nlet (fun σ8 eσ8 => ?_)
    rw [← eσ8]
    refine v_iinc 2 [(4, .int (v4 + (-1 : Int32))), (0, .ref (E.2.1 48)), (1, .int v1), (5, .int v5)] g d_Mo_parts_113 rfl (v := (-1 : Int32)) (by decide +kernel) (by decide) rfl ?_
    refine v_goto 19 g d_Mo_parts_116 (by decide) ?_
    exact v_sub [1,2,0] rfl (hk19 v1 (v4 + (-1 : Int32)) σ8)
def B_Mo_parts_27 (k19 : Int32 → Int32 → Sto → Option (Unit × Sto)) (k27 : Int32 → Int32 → Int32 → Sto → Option (Unit × Sto)) (v1 : Int32) (v4 : Int32) (v5 : Int32) (σ : Sto) : Option (Unit × Sto) :=
  (if (gI σ 48 13) ≤ v5 then B_Mo_parts_66 k19 v1 v4 v5 σ
 else (if inb v4 40 = true then (if inb v5 40 = true then ((f_Mo_fits v1 (gI σ 55 (Int32.toNatClampNeg v4)) (gL σ 56 (Int32.toNatClampNeg v5)) σ).bind fun q3 => (if q3.1 = (0 : Int64) then B_Mo_parts_66 k19 v1 v4 v5 q3.2
  else k27 v1 v4 (v5 + (1 : Int32)) q3.2)) else none) else none))
set_option maxHeartbeats 4000000 in
set_option maxRecDepth 100000 in
theorem vB_Mo_parts_27 {X : Xt} {E : En} (g : GG X E 4 b_Mo_parts R_Mo 6) {k19 : Int32 → Int32 → Sto → Option (Unit × Sto)} {k27 : Int32 → Int32 → Int32 → Sto → Option (Unit × Sto)} (hk19 : ∀ (v1 : Int32) (v4 : Int32) (σ : Sto), VV X E b_Mo_parts 6 eU 19 [(0, .ref (E.2.1 48)), (1, .int v1), (4, .int v4)] [] σ (k19 v1 v4 σ)) (hk27 : ∀ (v1 : Int32) (v4 : Int32) (v5 : Int32) (σ : Sto), VV X E b_Mo_parts 6 eU 27 [(0, .ref (E.2.1 48)), (1, .int v1), (4, .int v4), (5, .int v5)] [] σ (k27 v1 v4 v5 σ)) (v1 : Int32) (v4 : Int32) (v5 : Int32) (σ : Sto) : VV X E b_Mo_parts 6 eU 27 [(0, .ref (E.2.1 48)), (1, .int v1), (4, .int v4), (5, .int v5)] [] σ (B_Mo_parts_27 k19 k27 v1 v4 v5 σ) := by
  unfold B_Mo_parts_27
  refine v_iload 3 g d_Mo_parts_27 rfl ?_
  refine v_aload_n 0 g d_Mo_parts_29 rfl ?_
  refine v_getI g ff_Mo_169 rfl rfl d_Mo_parts_30 ?_
  refine v_icmp_ge 66 g d_Mo_parts_33 (by decide) (fun _ => ?_) (fun _ => ?_)
  · exact v_sub [0,1,2,3] rfl (vB_Mo_parts_66 g hk19 v1 v4 v5 σ)
  · refine v_aload_n 0 g d_Mo_parts_36 rfl ?_
    refine v_iload_n 1 g d_Mo_parts_37 rfl ?_
    refine v_aload_n 0 g d_Mo_parts_38 rfl ?_
    refine v_getR 55 g ff_Mo_29 rfl rfl rfl d_Mo_parts_39 ?_
    refine v_iload 2 g d_Mo_parts_42 rfl ?_
    refine v_iald g rfl rfl d_Mo_parts_44 (fun _ => ?_)
    refine v_aload_n 0 g d_Mo_parts_45 rfl ?_
    refine v_getR 56 g ff_Mo_32 rfl rfl rfl d_Mo_parts_46 ?_
    refine v_iload 3 g d_Mo_parts_49 rfl ?_
    refine v_lald g rfl rfl d_Mo_parts_51 (fun _ => ?_)
    refine v_callL (r_V (rest := []) [.int v1, .int (gI σ 55 (Int32.toNatClampNeg v4)), .long (gL σ 56 (Int32.toNatClampNeg v5))] g (m1 1233 (by decide +kernel) (by decide +kernel)) yv_Mo_fits rfl (fun r σ1 h => sp_Mo_fits g.2.2.1  h) rfl rfl (by decide) (Nat.le_of_ble_eq_true rfl) d_Mo_parts_52) (fun q3 => ?_)
    refine v_lconst (v := (0 : Int64)) g d_Mo_parts_55 (by decide +kernel) ?_
    refine v_lcmp_eq 66 g d_Mo_parts_56 d_Mo_parts_57 (by decide) (fun _ => ?_) (fun _ => ?_)
    · exact v_sub [0,1,2,3] rfl (vB_Mo_parts_66 g hk19 v1 v4 v5 q3.2)
    · refine v_iinc 3 [(5, .int (v5 + (1 : Int32))), (0, .ref (E.2.1 48)), (1, .int v1), (4, .int v4)] g d_Mo_parts_60 rfl (v := (1 : Int32)) (by decide +kernel) (by decide) rfl ?_
      refine v_goto 27 g d_Mo_parts_63 (by decide) ?_
      exact v_sub [1,2,3,0] rfl (hk27 v1 v4 (v5 + (1 : Int32)) q3.2)
def L_Mo_parts_27 (k19 : Int32 → Int32 → Sto → Option (Unit × Sto)) : Nat → Int32 → Int32 → Int32 → Sto → Option (Unit × Sto)
  | 0, _, _, _, _ => none
  | fu + 1, v1, v4, v5, σ => B_Mo_parts_27 k19 (L_Mo_parts_27 k19 fu) v1 v4 v5 σ
theorem vL_Mo_parts_27 {X : Xt} {E : En} (g : GG X E 4 b_Mo_parts R_Mo 6) {k19 : Int32 → Int32 → Sto → Option (Unit × Sto)} (hk19 : ∀ (v1 : Int32) (v4 : Int32) (σ : Sto), VV X E b_Mo_parts 6 eU 19 [(0, .ref (E.2.1 48)), (1, .int v1), (4, .int v4)] [] σ (k19 v1 v4 σ)) (fu : Nat) : ∀ (v1 : Int32) (v4 : Int32) (v5 : Int32) (σ : Sto), VV X E b_Mo_parts 6 eU 27 [(0, .ref (E.2.1 48)), (1, .int v1), (4, .int v4), (5, .int v5)] [] σ (L_Mo_parts_27 k19 fu v1 v4 v5 σ) := by
  induction fu with
  | zero => intros; exact v_none
  | succ fu ih =>
    intro v1 v4 v5 σ
    exact vB_Mo_parts_27 g hk19 ih v1 v4 v5 σ
def B_Mo_parts_19 (k19 : Int32 → Int32 → Sto → Option (Unit × Sto)) (v1 : Int32) (v4 : Int32) (σ : Sto) : Option (Unit × Sto) :=
  (if v4 < 0 then some ((), σ)
 else L_Mo_parts_27 k19 LF v1 v4 (0 : Int32) σ)
set_option maxHeartbeats 4000000 in
set_option maxRecDepth 100000 in
theorem vB_Mo_parts_19 {X : Xt} {E : En} (g : GG X E 4 b_Mo_parts R_Mo 6) {k19 : Int32 → Int32 → Sto → Option (Unit × Sto)} (hk19 : ∀ (v1 : Int32) (v4 : Int32) (σ : Sto), VV X E b_Mo_parts 6 eU 19 [(0, .ref (E.2.1 48)), (1, .int v1), (4, .int v4)] [] σ (k19 v1 v4 σ)) (v1 : Int32) (v4 : Int32) (σ : Sto) : VV X E b_Mo_parts 6 eU 19 [(0, .ref (E.2.1 48)), (1, .int v1), (4, .int v4)] [] σ (B_Mo_parts_19 k19 v1 v4 σ) := by
  unfold B_Mo_parts_19
  refine v_iload 2 g d_Mo_parts_19 rfl ?_
  refine v_if_lt 119 g d_Mo_parts_21 (by decide) (fun _ => ?_) (fun _ => ?_)
  · exact v_ret d_Mo_parts_119 rfl
  · refine v_iconst (v := (0 : Int32)) g d_Mo_parts_24 (by decide +kernel) ?_
    refine v_istore [(5, .int (0 : Int32)), (0, .ref (E.2.1 48)), (1, .int v1), (4, .int v4)] g d_Mo_parts_25 (by decide) rfl ?_
    exact v_sub [1,2,3,0] rfl (vL_Mo_parts_27 g hk19 LF v1 v4 (0 : Int32) σ)
def L_Mo_parts_19 : Nat → Int32 → Int32 → Sto → Option (Unit × Sto)
  | 0, _, _, _ => none
  | fu + 1, v1, v4, σ => B_Mo_parts_19 (L_Mo_parts_19 fu) v1 v4 σ
theorem vL_Mo_parts_19 {X : Xt} {E : En} (g : GG X E 4 b_Mo_parts R_Mo 6) (fu : Nat) : ∀ (v1 : Int32) (v4 : Int32) (σ : Sto), VV X E b_Mo_parts 6 eU 19 [(0, .ref (E.2.1 48)), (1, .int v1), (4, .int v4)] [] σ (L_Mo_parts_19 fu v1 v4 σ) := by
  induction fu with
  | zero => intros; exact v_none
  | succ fu ih =>
    intro v1 v4 σ
    exact vB_Mo_parts_19 g ih v1 v4 σ
def B_Mo_parts_0 (a1 : Int32) (a2 : Int64) (σ : Sto) : Option (Unit × Sto) :=
  ((f_Mo_lines a1 a2 σ).bind fun q1 => (lt1 ((gI (sI q1.2 48 13 (0 : Int32)) 48 10) - (1 : Int32)) fun x2 => L_Mo_parts_19 LF a1 x2 (sI q1.2 48 13 (0 : Int32))))
set_option maxHeartbeats 4000000 in
set_option maxRecDepth 100000 in
theorem vB_Mo_parts_0 {X : Xt} {E : En} (g : GG X E 4 b_Mo_parts R_Mo 6) (a1 : Int32) (a2 : Int64) (σ : Sto) : VV X E b_Mo_parts 6 eU 0 [(0, .ref (E.2.1 48)), (1, .int a1), (2, .long a2)] [] σ (B_Mo_parts_0 a1 a2 σ) := by
  unfold B_Mo_parts_0
  refine v_aload_n 0 g d_Mo_parts_0 rfl ?_
  refine v_iload_n 1 g d_Mo_parts_1 rfl ?_
  refine v_lload_n 2 g d_Mo_parts_2 rfl ?_
  refine v_callU (r_V (rest := []) [.int a1, .long a2] g (m1 1266 (by decide +kernel) (by decide +kernel)) yv_Mo_lines rfl (fun r σ1 h => sp_Mo_lines g.2.2.1  h) rfl rfl (by decide) (Nat.le_of_ble_eq_true rfl) d_Mo_parts_3) (fun q1 => ?_)
  refine v_aload_n 0 g d_Mo_parts_6 rfl ?_
  refine v_iconst (v := (0 : Int32)) g d_Mo_parts_7 (by decide +kernel) ?_
  refine v_putI g fp_Mo_169 rfl rfl d_Mo_parts_8 ?_
  refine v_aload_n 0 g d_Mo_parts_11 rfl ?_
  refine v_getI g ff_Mo_156 rfl rfl d_Mo_parts_12 ?_
  refine v_iconst (v := (1 : Int32)) g d_Mo_parts_15 (by decide +kernel) ?_
  refine v_isub g d_Mo_parts_16 ?_
  refine v_nlet (fun x2 ex2 => ?_)
  rw [← ex2]
  refine v_istore [(4, .int x2), (0, .ref (E.2.1 48)), (1, .int a1), (2, .long a2)] g d_Mo_parts_17 (by decide) rfl ?_
  exact v_sub [1,2,0] rfl (vL_Mo_parts_19 g LF a1 x2 (sI q1.2 48 13 (0 : Int32)))
def f_Mo_parts (a1 : Int32) (a2 : Int64) (σ : Sto) : Option (Unit × Sto) := B_Mo_parts_0 a1 a2 σ
theorem sp_Mo_parts {l : Launch} {E : En} (hE : Dj E) {a1 : Int32} {a2 : Int64} {σ : Sto} {r : Unit} {σ' : Sto} (h : f_Mo_parts a1 a2 σ = some (r, σ')) : Ct l E y_Mo_parts (wsM y_Mo_parts b_Mo_parts 6 (none)) 4 [.ref (E.2.1 48), .int a1, .long a2] σ (eU r) σ' :=
  ct_of hE (by decide +kernel) (Nat.le_of_ble_eq_true rfl) (fun _ => Or.inr (Or.inr (Or.inr (Or.inl ⟨rfl, rfl⟩)))) (fun X _ g => vB_Mo_parts_0 g a1 a2 σ) r σ' h
