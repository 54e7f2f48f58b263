theorem ff_Hand_9 : FF R_Hand 9 1 0 := ⟨R_Hand, T_Hand, 4, rfl, in_Hand, by decide, rfl, by decide, m1 313 (by decide +kernel) (by decide +kernel)⟩
theorem ff_Lot_7 : FF R_Lot 7 3 0 := ⟨R_Lot, T_Lot, 1, rfl, in_Lot, by decide, rfl, by decide, m1 280 (by decide +kernel) (by decide +kernel)⟩
theorem ff_Prover_19 : FF R_Prover 19 5 4 := ⟨R_Prover, T_Prover, 8, rfl, in_Prover, by decide, rfl, by decide, m1 190 (by decide +kernel) (by decide +kernel)⟩
theorem ff_Prover_22 : FF R_Prover 22 5 5 := ⟨R_Prover, T_Prover, 8, rfl, in_Prover, by decide, rfl, by decide, m1 191 (by decide +kernel) (by decide +kernel)⟩
theorem ff_Prover_26 : FF R_Prover 26 5 6 := ⟨R_Prover, T_Prover, 8, rfl, in_Prover, by decide, rfl, by decide, m1 192 (by decide +kernel) (by decide +kernel)⟩
theorem ff_Prover_29 : FF R_Prover 29 5 7 := ⟨R_Prover, T_Prover, 8, rfl, in_Prover, by decide, rfl, by decide, m1 193 (by decide +kernel) (by decide +kernel)⟩
theorem ff_Prover_32 : FF R_Prover 32 5 2 := ⟨R_Prover, T_Prover, 8, rfl, in_Prover, by decide, rfl, by decide, m1 188 (by decide +kernel) (by decide +kernel)⟩
theorem ff_Prover_36 : FF R_Prover 36 5 3 := ⟨R_Prover, T_Prover, 8, rfl, in_Prover, by decide, rfl, by decide, m1 189 (by decide +kernel) (by decide +kernel)⟩
theorem ff_Prover_70 : FF R_Prover 70 7 1 := ⟨R_Sheet, T_Sheet, 3, rfl, in_Sheet, by decide, rfl, by decide, m1 297 (by decide +kernel) (by decide +kernel)⟩
theorem ff_Prover_9 : FF R_Prover 9 5 0 := ⟨R_Prover, T_Prover, 8, rfl, in_Prover, by decide, rfl, by decide, m1 184 (by decide +kernel) (by decide +kernel)⟩
theorem ff_Sheet_15 : FF R_Sheet 15 7 1 := ⟨R_Sheet, T_Sheet, 3, rfl, in_Sheet, by decide, rfl, by decide, m1 296 (by decide +kernel) (by decide +kernel)⟩
theorem ff_Sheet_18 : FF R_Sheet 18 7 2 := ⟨R_Sheet, T_Sheet, 3, rfl, in_Sheet, by decide, rfl, by decide, m1 299 (by decide +kernel) (by decide +kernel)⟩
theorem ff_Sheet_9 : FF R_Sheet 9 7 0 := ⟨R_Sheet, T_Sheet, 3, rfl, in_Sheet, by decide, rfl, by decide, m1 294 (by decide +kernel) (by decide +kernel)⟩
theorem fp_Lot_7 : FP R_Lot 7 3 0 (.int) := ⟨R_Lot, T_Lot, 1, rfl, in_Lot, by decide, rfl, by decide, m1 280 (by decide +kernel) (by decide +kernel), ⟨ty_Lot, tyok_Lot⟩, nm_Lot, rfl, by decide +kernel⟩
theorem fp_Prover_15 : FP R_Prover 15 5 1 (.int) := ⟨R_Prover, T_Prover, 8, rfl, in_Prover, by decide, rfl, by decide, m1 186 (by decide +kernel) (by decide +kernel), ⟨ty_Prover, tyok_Prover⟩, nm_Prover, rfl, by decide +kernel⟩
theorem fp_Prover_29 : FP R_Prover 29 5 7 (.int) := ⟨R_Prover, T_Prover, 8, rfl, in_Prover, by decide, rfl, by decide, m1 193 (by decide +kernel) (by decide +kernel), ⟨ty_Prover, tyok_Prover⟩, nm_Prover, rfl, by decide +kernel⟩
theorem fp_Sheet_15 : FP R_Sheet 15 7 1 (.int) := ⟨R_Sheet, T_Sheet, 3, rfl, in_Sheet, by decide, rfl, by decide, m1 296 (by decide +kernel) (by decide +kernel), ⟨ty_Sheet, tyok_Sheet⟩, nm_Sheet, rfl, by decide +kernel⟩
theorem fp_Sheet_9 : FP R_Sheet 9 7 0 (.int) := ⟨R_Sheet, T_Sheet, 3, rfl, in_Sheet, by decide, rfl, by decide, m1 294 (by decide +kernel) (by decide +kernel), ⟨ty_Sheet, tyok_Sheet⟩, nm_Sheet, rfl, by decide +kernel⟩
/-! method FittingRings$Prover.await(JI)V -/
theorem yv_Prover_await : YV y_Prover_await b_Prover_await 4 (none) 2 5 := ⟨m1 719 (by decide +kernel) (by decide +kernel), m1 13 (by decide +kernel) (by decide +kernel), ini_Prover, m1 720 (by decide +kernel) (by decide +kernel), ⟨by decide +kernel, by decide +kernel, by decide +kernel⟩, by decide, by decide, T_Prover, 8, rfl⟩
theorem d_Prover_await_0 : decode b_Prover_await 0 = .ok (.aload_n 0, 1) := by decide +kernel
theorem d_Prover_await_1 : decode b_Prover_await 1 = .ok (.getfield 29, 3) := by decide +kernel
theorem d_Prover_await_4 : decode b_Prover_await 4 = .ok (.bipush 48, 2) := by decide +kernel
theorem d_Prover_await_6 : decode b_Prover_await 6 = .ok (.if_icmp .ge 33, 3) := by decide +kernel
theorem d_Prover_await_9 : decode b_Prover_await 9 = .ok (.aload_n 0, 1) := by decide +kernel
theorem d_Prover_await_10 : decode b_Prover_await 10 = .ok (.getfield 22, 3) := by decide +kernel
theorem d_Prover_await_13 : decode b_Prover_await 13 = .ok (.aload_n 0, 1) := by decide +kernel
theorem d_Prover_await_14 : decode b_Prover_await 14 = .ok (.getfield 29, 3) := by decide +kernel
theorem d_Prover_await_17 : decode b_Prover_await 17 = .ok (.lload_n 1, 1) := by decide +kernel
theorem d_Prover_await_18 : decode b_Prover_await 18 = .ok (.lastore, 1) := by decide +kernel
theorem d_Prover_await_19 : decode b_Prover_await 19 = .ok (.aload_n 0, 1) := by decide +kernel
theorem d_Prover_await_20 : decode b_Prover_await 20 = .ok (.getfield 26, 3) := by decide +kernel
theorem d_Prover_await_23 : decode b_Prover_await 23 = .ok (.aload_n 0, 1) := by decide +kernel
theorem d_Prover_await_24 : decode b_Prover_await 24 = .ok (.getfield 29, 3) := by decide +kernel
theorem d_Prover_await_27 : decode b_Prover_await 27 = .ok (.iload_n 3, 1) := by decide +kernel
theorem d_Prover_await_28 : decode b_Prover_await 28 = .ok (.iastore, 1) := by decide +kernel
theorem d_Prover_await_29 : decode b_Prover_await 29 = .ok (.aload_n 0, 1) := by decide +kernel
theorem d_Prover_await_30 : decode b_Prover_await 30 = .ok (.dup, 1) := by decide +kernel
theorem d_Prover_await_31 : decode b_Prover_await 31 = .ok (.getfield 29, 3) := by decide +kernel
theorem d_Prover_await_34 : decode b_Prover_await 34 = .ok (.iconst 1, 1) := by decide +kernel
theorem d_Prover_await_35 : decode b_Prover_await 35 = .ok (.iadd, 1) := by decide +kernel
theorem d_Prover_await_36 : decode b_Prover_await 36 = .ok (.putfield 29, 3) := by decide +kernel
theorem d_Prover_await_39 : decode b_Prover_await 39 = .ok (.return_, 1) := by decide +kernel
def B_Prover_await_0 (a1 : Int64) (a3 : Int32) (σ : Sto) : Option (Unit × Sto) :=
  (if (48 : Int32) ≤ (gI σ 21 7) then some ((), σ)
 else (if inb (gI σ 21 7) 48 = true then (if inb (gI (sL σ 24 (Int32.toNatClampNeg (gI σ 21 7)) a1) 21 7) 48 = true then (lt1 (sI (sL σ 24 (Int32.toNatClampNeg (gI σ 21 7)) a1) 25 (Int32.toNatClampNeg (gI (sL σ 24 (Int32.toNatClampNeg (gI σ 21 7)) a1) 21 7)) a3) fun σ1 => some ((), (sI σ1 21 7 ((gI σ1 21 7) + (1 : Int32))))) else none) else none))
set_option maxHeartbeats 4000000 in
set_option maxRecDepth 100000 in
theorem vB_Prover_await_0 {X : Xt} {E : En} (g : GG X E 1 b_Prover_await R_Prover 4) (a1 : Int64) (a3 : Int32) (σ : Sto) : VV X E b_Prover_await 4 eU 0 [(0, .ref (E.2.1 21)), (1, .long a1), (3, .int a3)] [] σ (B_Prover_await_0 a1 a3 σ) := by
  unfold B_Prover_await_0
  refine v_aload_n 0 g d_Prover_await_0 rfl ?_
  refine v_getI g ff_Prover_29 rfl rfl d_Prover_await_1 ?_
  refine v_bipush (v := (48 : Int32)) g d_Prover_await_4 (by decide +kernel) ?_
  refine v_icmp_ge 39 g d_Prover_await_6 (by decide) (fun _ => ?_) (fun _ => ?_)
  · exact v_ret d_Prover_await_39 rfl
  · refine v_aload_n 0 g d_Prover_await_9 rfl ?_
    refine v_getR 24 g ff_Prover_22 rfl rfl rfl d_Prover_await_10 ?_
    refine v_aload_n 0 g d_Prover_await_13 rfl ?_
    refine v_getI g ff_Prover_29 rfl rfl d_Prover_await_14 ?_
    refine v_lload_n 1 g d_Prover_await_17 rfl ?_
    refine v_last g rfl rfl d_Prover_await_18 (fun _ => ?_)
    refine v_aload_n 0 g d_Prover_await_19 rfl ?_
    refine v_getR 25 g ff_Prover_26 rfl rfl rfl d_Prover_await_20 ?_
    refine v_aload_n 0 g d_Prover_await_23 rfl ?_
    refine v_getI g ff_Prover_29 rfl rfl d_Prover_await_24 ?_
    refine v_iload_n 2 g d_Prover_await_27 rfl ?_
    refine v_iast g rfl rfl d_Prover_await_28 (fun _ => ?_)
    refine v_nlet (fun σ1 eσ1 => ?_)
    rw [← eσ1]
    refine v_aload_n 0 g d_Prover_await_29 rfl ?_
    refine v_dup g d_Prover_await_30 rfl ?_
    refine v_getI g ff_Prover_29 rfl rfl d_Prover_await_31 ?_
    refine v_iconst (v := (1 : Int32)) g d_Prover_await_34 (by decide +kernel) ?_
    refine v_iadd g d_Prover_await_35 ?_
    refine v_putI g fp_Prover_29 rfl rfl d_Prover_await_36 ?_
    exact v_ret d_Prover_await_39 rfl
def f_Prover_await (a1 : Int64) (a3 : Int32) (σ : Sto) : Option (Unit × Sto) := B_Prover_await_0 a1 a3 σ
theorem sp_Prover_await {l : Launch} {E : En} (hE : Dj E) {a1 : Int64} {a3 : Int32} {σ : Sto} {r : Unit} {σ' : Sto} (h : f_Prover_await a1 a3 σ = some (r, σ')) : Ct l E y_Prover_await (wsM y_Prover_await b_Prover_await 4 (none)) 1 [.ref (E.2.1 21), .long a1, .int a3] σ (eU r) σ' :=
  ct_of hE (by decide +kernel) (Nat.le_of_ble_eq_true rfl) (fun _ => Or.inr (Or.inr (Or.inr (Or.inl ⟨rfl, rfl⟩)))) (fun X _ g => vB_Prover_await_0 g a1 a3 σ) r σ' h
/-! method FittingRings$Prover.branch(IIJII)V -/
theorem yv_Prover_branch : YV y_Prover_branch b_Prover_branch 7 (none) 5 5 := ⟨m1 729 (by decide +kernel) (by decide +kernel), m1 14 (by decide +kernel) (by decide +kernel), ini_Prover, m1 730 (by decide +kernel) (by decide +kernel), ⟨by decide +kernel, by decide +kernel, by decide +kernel⟩, by decide, by decide, T_Prover, 8, rfl⟩
theorem d_Prover_branch_0 : decode b_Prover_branch 0 = .ok (.aload_n 0, 1) := by decide +kernel
theorem d_Prover_branch_1 : decode b_Prover_branch 1 = .ok (.lload_n 3, 1) := by decide +kernel
theorem d_Prover_branch_2 : decode b_Prover_branch 2 = .ok (.lconst 1, 1) := by decide +kernel
theorem d_Prover_branch_3 : decode b_Prover_branch 3 = .ok (.iload 6, 2) := by decide +kernel
theorem d_Prover_branch_5 : decode b_Prover_branch 5 = .ok (.lshl, 1) := by decide +kernel
theorem d_Prover_branch_6 : decode b_Prover_branch 6 = .ok (.ldc2_w 87, 3) := by decide +kernel
theorem d_Prover_branch_9 : decode b_Prover_branch 9 = .ok (.lxor, 1) := by decide +kernel
theorem d_Prover_branch_10 : decode b_Prover_branch 10 = .ok (.land, 1) := by decide +kernel
theorem d_Prover_branch_11 : decode b_Prover_branch 11 = .ok (.iload 5, 2) := by decide +kernel
theorem d_Prover_branch_13 : decode b_Prover_branch 13 = .ok (.invokevirtual 40, 3) := by decide +kernel
theorem d_Prover_branch_16 : decode b_Prover_branch 16 = .ok (.aload_n 0, 1) := by decide +kernel
theorem d_Prover_branch_17 : decode b_Prover_branch 17 = .ok (.aload_n 0, 1) := by decide +kernel
theorem d_Prover_branch_18 : decode b_Prover_branch 18 = .ok (.getfield 32, 3) := by decide +kernel
theorem d_Prover_branch_21 : decode b_Prover_branch 21 = .ok (.iload_n 1, 1) := by decide +kernel
theorem d_Prover_branch_22 : decode b_Prover_branch 22 = .ok (.iload 6, 2) := by decide +kernel
theorem d_Prover_branch_24 : decode b_Prover_branch 24 = .ok (.lload_n 3, 1) := by decide +kernel
theorem d_Prover_branch_25 : decode b_Prover_branch 25 = .ok (.invokevirtual 89, 3) := by decide +kernel
theorem d_Prover_branch_28 : decode b_Prover_branch 28 = .ok (.iload 5, 2) := by decide +kernel
theorem d_Prover_branch_30 : decode b_Prover_branch 30 = .ok (.aload_n 0, 1) := by decide +kernel
theorem d_Prover_branch_31 : decode b_Prover_branch 31 = .ok (.getfield 32, 3) := by decide +kernel
theorem d_Prover_branch_34 : decode b_Prover_branch 34 = .ok (.iload_n 2, 1) := by decide +kernel
theorem d_Prover_branch_35 : decode b_Prover_branch 35 = .ok (.iload 6, 2) := by decide +kernel
theorem d_Prover_branch_37 : decode b_Prover_branch 37 = .ok (.invokevirtual 93, 3) := by decide +kernel
theorem d_Prover_branch_40 : decode b_Prover_branch 40 = .ok (.iadd, 1) := by decide +kernel
theorem d_Prover_branch_41 : decode b_Prover_branch 41 = .ok (.invokevirtual 40, 3) := by decide +kernel
theorem d_Prover_branch_44 : decode b_Prover_branch 44 = .ok (.return_, 1) := by decide +kernel
def B_Prover_branch_0 (a1 : Int32) (a2 : Int32) (a3 : Int64) (a5 : Int32) (a6 : Int32) (σ : Sto) : Option (Unit × Sto) :=
  ((f_Prover_await (a3 &&& ((lsh (1 : Int64) a6) ^^^ (-1 : Int64))) a5 σ).bind fun q1 => ((f_Net_fitting 1 a1 a6 a3 q1.2).bind fun q2 => ((f_Net_worthOf 1 a2 a6 q2.2).bind fun q3 => ((f_Prover_await q2.1 (a5 + q3.1) q3.2).bind fun q4 => some ((), q4.2)))))
set_option maxHeartbeats 4000000 in
set_option maxRecDepth 100000 in
theorem vB_Prover_branch_0 {X : Xt} {E : En} (g : GG X E 3 b_Prover_branch R_Prover 7) (a1 : Int32) (a2 : Int32) (a3 : Int64) (a5 : Int32) (a6 : Int32) (σ : Sto) : VV X E b_Prover_branch 7 eU 0 [(0, .ref (E.2.1 21)), (1, .int a1), (2, .int a2), (3, .long a3), (5, .int a5), (6, .int a6)] [] σ (B_Prover_branch_0 a1 a2 a3 a5 a6 σ) := by
  unfold B_Prover_branch_0
  refine v_aload_n 0 g d_Prover_branch_0 rfl ?_
  refine v_lload_n 3 g d_Prover_branch_1 rfl ?_
  refine v_lconst (v := (1 : Int64)) g d_Prover_branch_2 (by decide +kernel) ?_
  refine v_iload 5 g d_Prover_branch_3 rfl ?_
  refine v_lshl g d_Prover_branch_5 ?_
  refine v_ldc2 (v := (-1 : Int64)) g (m1 731 (by decide +kernel) (by decide +kernel)) d_Prover_branch_6 ?_
  refine v_lxor g d_Prover_branch_9 ?_
  refine v_land g d_Prover_branch_10 ?_
  refine v_iload 4 g d_Prover_branch_11 rfl ?_
  refine v_callU (r_V (rest := []) [.long (a3 &&& ((lsh (1 : Int64) a6) ^^^ (-1 : Int64))), .int a5] g (m1 717 (by decide +kernel) (by decide +kernel)) yv_Prover_await rfl (fun r σ1 h => sp_Prover_await g.2.2.1  h) rfl rfl (by decide) (Nat.le_of_ble_eq_true rfl) d_Prover_branch_13) (fun q1 => ?_)
  refine v_aload_n 0 g d_Prover_branch_16 rfl ?_
  refine v_aload_n 0 g d_Prover_branch_17 rfl ?_
  refine v_getR 1 g ff_Prover_32 rfl rfl rfl d_Prover_branch_18 ?_
  refine v_iload_n 1 g d_Prover_branch_21 rfl ?_
  refine v_iload 5 g d_Prover_branch_22 rfl ?_
  refine v_lload_n 3 g d_Prover_branch_24 rfl ?_
  refine v_callL (r_V (rest := [.ref (E.2.1 21)]) [.int a1, .int a6, .long a3] g (m1 732 (by decide +kernel) (by decide +kernel)) yv_Net_fitting rfl (fun r σ1 h => sp_Net_fitting g.2.2.1 rfl h) rfl rfl (by decide) (Nat.le_of_ble_eq_true rfl) d_Prover_branch_25) (fun q2 => ?_)
  refine v_iload 4 g d_Prover_branch_28 rfl ?_
  refine v_aload_n 0 g d_Prover_branch_30 rfl ?_
  refine v_getR 1 g ff_Prover_32 rfl rfl rfl d_Prover_branch_31 ?_
  refine v_iload_n 2 g d_Prover_branch_34 rfl ?_
  refine v_iload 5 g d_Prover_branch_35 rfl ?_
  refine v_callI (r_V (rest := [.int a5, .long q2.1, .ref (E.2.1 21)]) [.int a2, .int a6] g (m1 733 (by decide +kernel) (by decide +kernel)) yv_Net_worthOf rfl (fun r σ1 h => sp_Net_worthOf g.2.2.1 rfl h) rfl rfl (by decide) (Nat.le_of_ble_eq_true rfl) d_Prover_branch_37) (fun q3 => ?_)
  refine v_iadd g d_Prover_branch_40 ?_
  refine v_callU (r_V (rest := []) [.long q2.1, .int (a5 + q3.1)] g (m1 717 (by decide +kernel) (by decide +kernel)) yv_Prover_await rfl (fun r σ1 h => sp_Prover_await g.2.2.1  h) rfl rfl (by decide) (Nat.le_of_ble_eq_true rfl) d_Prover_branch_41) (fun q4 => ?_)
  exact v_ret d_Prover_branch_44 rfl
def f_Prover_branch (a1 : Int32) (a2 : Int32) (a3 : Int64) (a5 : Int32) (a6 : Int32) (σ : Sto) : Option (Unit × Sto) := B_Prover_branch_0 a1 a2 a3 a5 a6 σ
theorem sp_Prover_branch {l : Launch} {E : En} (hE : Dj E) {a1 : Int32} {a2 : Int32} {a3 : Int64} {a5 : Int32} {a6 : Int32} {σ : Sto} {r : Unit} {σ' : Sto} (h : f_Prover_branch a1 a2 a3 a5 a6 σ = some (r, σ')) : Ct l E y_Prover_branch (wsM y_Prover_branch b_Prover_branch 7 (none)) 3 [.ref (E.2.1 21), .int a1, .int a2, .long a3, .int a5, .int a6] σ (eU r) σ' :=
  ct_of hE (by decide +kernel) (Nat.le_of_ble_eq_true rfl) (fun _ => Or.inr (Or.inr (Or.inr (Or.inl ⟨rfl, rfl⟩)))) (fun X _ g => vB_Prover_branch_0 g a1 a2 a3 a5 a6 σ) r σ' h
/-! method FittingRings$Prover.build(IIIIJ)I -/
theorem yv_Prover_build : YV y_Prover_build b_Prover_build 11 (some .int) 5 5 := ⟨m1 714 (by decide +kernel) (by decide +kernel), m1 715 (by decide +kernel) (by decide +kernel), ini_Prover, m1 716 (by decide +kernel) (by decide +kernel), ⟨by decide +kernel, by decide +kernel, by decide +kernel⟩, by decide, by decide, T_Prover, 8, rfl⟩
theorem d_Prover_build_0 : decode b_Prover_build 0 = .ok (.aload_n 0, 1) := by decide +kernel
theorem d_Prover_build_1 : decode b_Prover_build 1 = .ok (.iconst 0, 1) := by decide +kernel
theorem d_Prover_build_2 : decode b_Prover_build 2 = .ok (.putfield 29, 3) := by decide +kernel
theorem d_Prover_build_5 : decode b_Prover_build 5 = .ok (.aload_n 0, 1) := by decide +kernel
theorem d_Prover_build_6 : decode b_Prover_build 6 = .ok (.lload 5, 2) := by decide +kernel
theorem d_Prover_build_8 : decode b_Prover_build 8 = .ok (.iconst 0, 1) := by decide +kernel
theorem d_Prover_build_9 : decode b_Prover_build 9 = .ok (.invokevirtual 40, 3) := by decide +kernel
theorem d_Prover_build_12 : decode b_Prover_build 12 = .ok (.iconst 0, 1) := by decide +kernel
theorem d_Prover_build_13 : decode b_Prover_build 13 = .ok (.istore 7, 2) := by decide +kernel
theorem d_Prover_build_15 : decode b_Prover_build 15 = .ok (.aload_n 0, 1) := by decide +kernel
theorem d_Prover_build_16 : decode b_Prover_build 16 = .ok (.getfield 29, 3) := by decide +kernel
theorem d_Prover_build_19 : decode b_Prover_build 19 = .ok (.ifCond .le 126, 3) := by decide +kernel
theorem d_Prover_build_22 : decode b_Prover_build 22 = .ok (.iload 7, 2) := by decide +kernel
theorem d_Prover_build_24 : decode b_Prover_build 24 = .ok (.sipush 200, 3) := by decide +kernel
theorem d_Prover_build_27 : decode b_Prover_build 27 = .ok (.if_icmp .ge 118, 3) := by decide +kernel
theorem d_Prover_build_30 : decode b_Prover_build 30 = .ok (.aload_n 0, 1) := by decide +kernel
theorem d_Prover_build_31 : decode b_Prover_build 31 = .ok (.dup, 1) := by decide +kernel
theorem d_Prover_build_32 : decode b_Prover_build 32 = .ok (.getfield 29, 3) := by decide +kernel
theorem d_Prover_build_35 : decode b_Prover_build 35 = .ok (.iconst 1, 1) := by decide +kernel
theorem d_Prover_build_36 : decode b_Prover_build 36 = .ok (.isub, 1) := by decide +kernel
theorem d_Prover_build_37 : decode b_Prover_build 37 = .ok (.putfield 29, 3) := by decide +kernel
theorem d_Prover_build_40 : decode b_Prover_build 40 = .ok (.aload_n 0, 1) := by decide +kernel
theorem d_Prover_build_41 : decode b_Prover_build 41 = .ok (.getfield 22, 3) := by decide +kernel
theorem d_Prover_build_44 : decode b_Prover_build 44 = .ok (.aload_n 0, 1) := by decide +kernel
theorem d_Prover_build_45 : decode b_Prover_build 45 = .ok (.getfield 29, 3) := by decide +kernel
theorem d_Prover_build_48 : decode b_Prover_build 48 = .ok (.laload, 1) := by decide +kernel
theorem d_Prover_build_49 : decode b_Prover_build 49 = .ok (.lstore 8, 2) := by decide +kernel
theorem d_Prover_build_51 : decode b_Prover_build 51 = .ok (.aload_n 0, 1) := by decide +kernel
theorem d_Prover_build_52 : decode b_Prover_build 52 = .ok (.getfield 26, 3) := by decide +kernel
theorem d_Prover_build_55 : decode b_Prover_build 55 = .ok (.aload_n 0, 1) := by decide +kernel
theorem d_Prover_build_56 : decode b_Prover_build 56 = .ok (.getfield 29, 3) := by decide +kernel
theorem d_Prover_build_59 : decode b_Prover_build 59 = .ok (.iaload, 1) := by decide +kernel
theorem d_Prover_build_60 : decode b_Prover_build 60 = .ok (.istore 10, 2) := by decide +kernel
theorem d_Prover_build_62 : decode b_Prover_build 62 = .ok (.iload 10, 2) := by decide +kernel
theorem d_Prover_build_64 : decode b_Prover_build 64 = .ok (.aload_n 0, 1) := by decide +kernel
theorem d_Prover_build_65 : decode b_Prover_build 65 = .ok (.getfield 36, 3) := by decide +kernel
theorem d_Prover_build_68 : decode b_Prover_build 68 = .ok (.iload_n 1, 1) := by decide +kernel
theorem d_Prover_build_69 : decode b_Prover_build 69 = .ok (.iload_n 2, 1) := by decide +kernel
theorem d_Prover_build_70 : decode b_Prover_build 70 = .ok (.iload_n 3, 1) := by decide +kernel
theorem d_Prover_build_71 : decode b_Prover_build 71 = .ok (.lload 8, 2) := by decide +kernel
theorem d_Prover_build_73 : decode b_Prover_build 73 = .ok (.invokevirtual 44, 3) := by decide +kernel
theorem d_Prover_build_76 : decode b_Prover_build 76 = .ok (.iadd, 1) := by decide +kernel
theorem d_Prover_build_77 : decode b_Prover_build 77 = .ok (.iload 4, 2) := by decide +kernel
theorem d_Prover_build_79 : decode b_Prover_build 79 = .ok (.if_icmp .gt 14, 3) := by decide +kernel
theorem d_Prover_build_82 : decode b_Prover_build 82 = .ok (.aload_n 0, 1) := by decide +kernel
theorem d_Prover_build_83 : decode b_Prover_build 83 = .ok (.getfield 19, 3) := by decide +kernel
theorem d_Prover_build_86 : decode b_Prover_build 86 = .ok (.iload 7, 2) := by decide +kernel
theorem d_Prover_build_88 : decode b_Prover_build 88 = .ok (.iconst (-1), 1) := by decide +kernel
theorem d_Prover_build_89 : decode b_Prover_build 89 = .ok (.iastore, 1) := by decide +kernel
theorem d_Prover_build_90 : decode b_Prover_build 90 = .ok (.goto 49, 3) := by decide +kernel
theorem d_Prover_build_93 : decode b_Prover_build 93 = .ok (.lload 8, 2) := by decide +kernel
theorem d_Prover_build_95 : decode b_Prover_build 95 = .ok (.lconst 0, 1) := by decide +kernel
theorem d_Prover_build_96 : decode b_Prover_build 96 = .ok (.lcmp, 1) := by decide +kernel
theorem d_Prover_build_97 : decode b_Prover_build 97 = .ok (.ifCond .ne 5, 3) := by decide +kernel
theorem d_Prover_build_100 : decode b_Prover_build 100 = .ok (.iconst (-1), 1) := by decide +kernel
theorem d_Prover_build_101 : decode b_Prover_build 101 = .ok (.ireturn, 1) := by decide +kernel
theorem d_Prover_build_102 : decode b_Prover_build 102 = .ok (.aload_n 0, 1) := by decide +kernel
theorem d_Prover_build_103 : decode b_Prover_build 103 = .ok (.getfield 19, 3) := by decide +kernel
theorem d_Prover_build_106 : decode b_Prover_build 106 = .ok (.iload 7, 2) := by decide +kernel
theorem d_Prover_build_108 : decode b_Prover_build 108 = .ok (.aload_n 0, 1) := by decide +kernel
theorem d_Prover_build_109 : decode b_Prover_build 109 = .ok (.getfield 36, 3) := by decide +kernel
theorem d_Prover_build_112 : decode b_Prover_build 112 = .ok (.iload_n 2, 1) := by decide +kernel
theorem d_Prover_build_113 : decode b_Prover_build 113 = .ok (.lload 8, 2) := by decide +kernel
theorem d_Prover_build_115 : decode b_Prover_build 115 = .ok (.invokevirtual 50, 3) := by decide +kernel
theorem d_Prover_build_118 : decode b_Prover_build 118 = .ok (.invokevirtual 54, 3) := by decide +kernel
theorem d_Prover_build_121 : decode b_Prover_build 121 = .ok (.iastore, 1) := by decide +kernel
theorem d_Prover_build_122 : decode b_Prover_build 122 = .ok (.aload_n 0, 1) := by decide +kernel
theorem d_Prover_build_123 : decode b_Prover_build 123 = .ok (.iload_n 2, 1) := by decide +kernel
theorem d_Prover_build_124 : decode b_Prover_build 124 = .ok (.iload_n 3, 1) := by decide +kernel
theorem d_Prover_build_125 : decode b_Prover_build 125 = .ok (.lload 8, 2) := by decide +kernel
theorem d_Prover_build_127 : decode b_Prover_build 127 = .ok (.iload 10, 2) := by decide +kernel
theorem d_Prover_build_129 : decode b_Prover_build 129 = .ok (.aload_n 0, 1) := by decide +kernel
theorem d_Prover_build_130 : decode b_Prover_build 130 = .ok (.getfield 19, 3) := by decide +kernel
theorem d_Prover_build_133 : decode b_Prover_build 133 = .ok (.iload 7, 2) := by decide +kernel
theorem d_Prover_build_135 : decode b_Prover_build 135 = .ok (.iaload, 1) := by decide +kernel
theorem d_Prover_build_136 : decode b_Prover_build 136 = .ok (.invokevirtual 60, 3) := by decide +kernel
theorem d_Prover_build_139 : decode b_Prover_build 139 = .ok (.iinc 7 1, 3) := by decide +kernel
theorem d_Prover_build_142 : decode b_Prover_build 142 = .ok (.goto (-127), 3) := by decide +kernel
theorem d_Prover_build_145 : decode b_Prover_build 145 = .ok (.aload_n 0, 1) := by decide +kernel
theorem d_Prover_build_146 : decode b_Prover_build 146 = .ok (.getfield 29, 3) := by decide +kernel
theorem d_Prover_build_149 : decode b_Prover_build 149 = .ok (.ifCond .le 6, 3) := by decide +kernel
theorem d_Prover_build_152 : decode b_Prover_build 152 = .ok (.bipush (-5), 2) := by decide +kernel
theorem d_Prover_build_154 : decode b_Prover_build 154 = .ok (.ireturn, 1) := by decide +kernel
theorem d_Prover_build_155 : decode b_Prover_build 155 = .ok (.aload_n 0, 1) := by decide +kernel
theorem d_Prover_build_156 : decode b_Prover_build 156 = .ok (.getfield 19, 3) := by decide +kernel
theorem d_Prover_build_159 : decode b_Prover_build 159 = .ok (.iconst 0, 1) := by decide +kernel
theorem d_Prover_build_160 : decode b_Prover_build 160 = .ok (.aload_n 0, 1) := by decide +kernel
theorem d_Prover_build_161 : decode b_Prover_build 161 = .ok (.getfield 9, 3) := by decide +kernel
theorem d_Prover_build_164 : decode b_Prover_build 164 = .ok (.iconst 0, 1) := by decide +kernel
theorem d_Prover_build_165 : decode b_Prover_build 165 = .ok (.iload 7, 2) := by decide +kernel
theorem d_Prover_build_167 : decode b_Prover_build 167 = .ok (.invokestatic 64, 3) := by decide +kernel
theorem d_Prover_build_170 : decode b_Prover_build 170 = .ok (.aload_n 0, 1) := by decide +kernel
theorem d_Prover_build_171 : decode b_Prover_build 171 = .ok (.iload 7, 2) := by decide +kernel
theorem d_Prover_build_173 : decode b_Prover_build 173 = .ok (.putfield 15, 3) := by decide +kernel
theorem d_Prover_build_176 : decode b_Prover_build 176 = .ok (.iload 7, 2) := by decide +kernel
theorem d_Prover_build_178 : decode b_Prover_build 178 = .ok (.ireturn, 1) := by decide +kernel
def B_Prover_build_15 (k15 : Int32 → Int32 → Int32 → Int32 → Int32 → Sto → Option (Int32 × Sto)) (v1 : Int32) (v2 : Int32) (v3 : Int32) (v4 : Int32) (v7 : Int32) (σ : Sto) : Option (Int32 × Sto) :=
  (if (gI σ 21 7) ≤ 0 then (if (gI σ 21 7) ≤ 0 then (if cpk (0 : Int32) 200 (0 : Int32) 200 v7 = true then (lt1 (cpI σ 23 (Int32.toNatClampNeg (0 : Int32)) 22 (Int32.toNatClampNeg (0 : Int32)) (Int32.toNatClampNeg v7)) fun σ2 => some (v7, (sI σ2 21 1 v7))) else none)
  else some ((-5 : Int32), σ))
 else (if (200 : Int32) ≤ v7 then (if (gI σ 21 7) ≤ 0 then (if cpk (0 : Int32) 200 (0 : Int32) 200 v7 = true then (lt1 (cpI σ 23 (Int32.toNatClampNeg (0 : Int32)) 22 (Int32.toNatClampNeg (0 : Int32)) (Int32.toNatClampNeg v7)) fun σ3 => some (v7, (sI σ3 21 1 v7))) else none)
   else some ((-5 : Int32), σ))
  else (if inb (gI (sI σ 21 7 ((gI σ 21 7) - (1 : Int32))) 21 7) 48 = true then (lt1 (gL (sI σ 21 7 ((gI σ 21 7) - (1 : Int32))) 24 (Int32.toNatClampNeg (gI (sI σ 21 7 ((gI σ 21 7) - (1 : Int32))) 21 7))) fun x4 => (if inb (gI (sI σ 21 7 ((gI σ 21 7) - (1 : Int32))) 21 7) 48 = true then (lt1 (gI (sI σ 21 7 ((gI σ 21 7) - (1 : Int32))) 25 (Int32.toNatClampNeg (gI (sI σ 21 7 ((gI σ 21 7) - (1 : Int32))) 21 7))) fun x5 => ((f_Judge_most v1 v2 v3 x4 (sI σ 21 7 ((gI σ 21 7) - (1 : Int32)))).bind fun q6 => (if v4 < (x5 + q6.1) then (if x4 = (0 : Int64) then some ((-1 : Int32), q6.2)
    else ((f_Judge_ranked v2 x4 q6.2).bind fun q7 => ((f_Ranking_last  q7.2).bind fun q8 => (if inb v7 200 = true then (if inb v7 200 = true then ((f_Prover_branch v2 v3 x4 x5 (gI (sI q8.2 23 (Int32.toNatClampNeg v7) q8.1) 23 (Int32.toNatClampNeg v7)) (sI q8.2 23 (Int32.toNatClampNeg v7) q8.1)).bind fun q9 => k15 v1 v2 v3 v4 (v7 + (1 : Int32)) q9.2) else none) else none))))
   else (if inb v7 200 = true then k15 v1 v2 v3 v4 (v7 + (1 : Int32)) (sI q6.2 23 (Int32.toNatClampNeg v7) (-1 : Int32)) else none)))) else none)) else none)))
set_option maxHeartbeats 4000000 in
set_option maxRecDepth 100000 in
theorem vB_Prover_build_15 {X : Xt} {E : En} (g : GG X E 6 b_Prover_build R_Prover 11) {k15 : Int32 → Int32 → Int32 → Int32 → Int32 → Sto → Option (Int32 × Sto)} (hk15 : ∀ (v1 : Int32) (v2 : Int32) (v3 : Int32) (v4 : Int32) (v7 : Int32) (σ : Sto), VV X E b_Prover_build 11 eI 15 [(0, .ref (E.2.1 21)), (1, .int v1), (2, .int v2), (3, .int v3), (4, .int v4), (7, .int v7)] [] σ (k15 v1 v2 v3 v4 v7 σ)) (v1 : Int32) (v2 : Int32) (v3 : Int32) (v4 : Int32) (v7 : Int32) (σ : Sto) : VV X E b_Prover_build 11 eI 15 [(0, .ref (E.2.1 21)), (1, .int v1), (2, .int v2), (3, .int v3), (4, .int v4), (7, .int v7)] [] σ (B_Prover_build_15 k15 v1 v2 v3 v4 v7 σ) := by
  unfold B_Prover_build_15
  refine v_aload_n 0 g d_Prover_build_15 rfl ?_
  refine v_getI g ff_Prover_29 rfl rfl d_Prover_build_16 ?_
  refine v_if_le 145 g d_Prover_build_19 (by decide) (fun _ => ?_) (fun _ => ?_)
  · refine v_aload_n 0 g d_Prover_build_145 rfl ?_
    refine v_getI g ff_Prover_29 rfl rfl d_Prover_build_146 ?_
    refine v_if_le 155 g d_Prover_build_149 (by decide) (fun _ => ?_) (fun _ => ?_)
    · refine v_aload_n 0 g d_Prover_build_155 rfl ?_
      refine v_getR 23 g ff_Prover_19 rfl rfl rfl d_Prover_build_156 ?_
      refine v_iconst (v := (0 : Int32)) g d_Prover_build_159 (by decide +kernel) ?_
      refine v_aload_n 0 g d_Prover_build_160 rfl ?_
      refine v_getR 22 g ff_Prover_9 rfl rfl rfl d_Prover_build_161 ?_
      refine v_iconst (v := (0 : Int32)) g d_Prover_build_164 (by decide +kernel) ?_
      refine v_iload 5 g d_Prover_build_165 rfl ?_
      refine v_copyI g (m1 734 (by decide +kernel) (by decide +kernel)) rfl rfl rfl rfl (by decide) d_Prover_build_167 (fun _ => ?_)
      refine v_nlet (fun σ2 eσ2 => ?_)
      rw [← eσ2]
      refine v_aload_n 0 g d_Prover_build_170 rfl ?_
      refine v_iload 5 g d_Prover_build_171 rfl ?_
      refine v_putI g fp_Prover_15 rfl rfl d_Prover_build_173 ?_
      refine v_iload 5 g d_Prover_build_176 rfl ?_
      exact v_ret d_Prover_build_178 rfl
    · refine v_bipush (v := (-5 : Int32)) g d_Prover_build_152 (by decide +kernel) ?_
      exact v_ret d_Prover_build_154 rfl
  · refine v_iload 5 g d_Prover_build_22 rfl ?_
    refine v_sipush (v := (200 : Int32)) g d_Prover_build_24 (by decide +kernel) ?_
    refine v_icmp_ge 145 g d_Prover_build_27 (by decide) (fun _ => ?_) (fun _ => ?_)
    · refine v_aload_n 0 g d_Prover_build_145 rfl ?_
      refine v_getI g ff_Prover_29 rfl rfl d_Prover_build_146 ?_
      refine v_if_le 155 g d_Prover_build_149 (by decide) (fun _ => ?_) (fun _ => ?_)
      · refine v_aload_n 0 g d_Prover_build_155 rfl ?_
        refine v_getR 23 g ff_Prover_19 rfl rfl rfl d_Prover_build_156 ?_
        refine v_iconst (v := (0 : Int32)) g d_Prover_build_159 (by decide +kernel) ?_
        refine v_aload_n 0 g d_Prover_build_160 rfl ?_
        refine v_getR 22 g ff_Prover_9 rfl rfl rfl d_Prover_build_161 ?_
        refine v_iconst (v := (0 : Int32)) g d_Prover_build_164 (by decide +kernel) ?_
        refine v_iload 5 g d_Prover_build_165 rfl ?_
        refine v_copyI g (m1 734 (by decide +kernel) (by decide +kernel)) rfl rfl rfl rfl (by decide) d_Prover_build_167 (fun _ => ?_)
        refine v_nlet (fun σ3 eσ3 => ?_)
        rw [← eσ3]
        refine v_aload_n 0 g d_Prover_build_170 rfl ?_
        refine v_iload 5 g d_Prover_build_171 rfl ?_
        refine v_putI g fp_Prover_15 rfl rfl d_Prover_build_173 ?_
        refine v_iload 5 g d_Prover_build_176 rfl ?_
        exact v_ret d_Prover_build_178 rfl
      · refine v_bipush (v := (-5 : Int32)) g d_Prover_build_152 (by decide +kernel) ?_
        exact v_ret d_Prover_build_154 rfl
    · refine v_aload_n 0 g d_Prover_build_30 rfl ?_
      refine v_dup g d_Prover_build_31 rfl ?_
      refine v_getI g ff_Prover_29 rfl rfl d_Prover_build_32 ?_
      refine v_iconst (v := (1 : Int32)) g d_Prover_build_35 (by decide +kernel) ?_
      refine v_isub g d_Prover_build_36 ?_
      refine v_putI g fp_Prover_29 rfl rfl d_Prover_build_37 ?_
      refine v_aload_n 0 g d_Prover_build_40 rfl ?_
      refine v_getR 24 g ff_Prover_22 rfl rfl rfl d_Prover_build_41 ?_
      refine v_aload_n 0 g d_Prover_build_44 rfl ?_
      refine v_getI g ff_Prover_29 rfl rfl d_Prover_build_45 ?_
      refine v_lald g rfl rfl d_Prover_build_48 (fun _ => ?_)
      refine v_nlet (fun x4 ex4 => ?_)
      rw [← ex4]
      refine v_lstore [(8, .long x4), (0, .ref (E.2.1 21)), (1, .int v1), (2, .int v2), (3, .int v3), (4, .int v4), (7, .int v7)] g d_Prover_build_49 (by decide) rfl ?_
      refine v_aload_n 1 g d_Prover_build_51 rfl ?_
      refine v_getR 25 g ff_Prover_26 rfl rfl rfl d_Prover_build_52 ?_
      refine v_aload_n 1 g d_Prover_build_55 rfl ?_
      refine v_getI g ff_Prover_29 rfl rfl d_Prover_build_56 ?_
      refine v_iald g rfl rfl d_Prover_build_59 (fun _ => ?_)
      refine v_nlet (fun x5 ex5 => ?_)
      rw [← ex5]
      refine v_istore [(10, .int x5), (8, .long x4), (0, .ref (E.2.1 21)), (1, .int v1), (2, .int v2), (3, .int v3), (4, .int v4), (7, .int v7)] g d_Prover_build_60 (by decide) rfl ?_
      refine v_iload 0 g d_Prover_build_62 rfl ?_
      refine v_aload_n 2 g d_Prover_build_64 rfl ?_
      refine v_getR 16 g ff_Prover_36 rfl rfl rfl d_Prover_build_65 ?_
      refine v_iload_n 3 g d_Prover_build_68 rfl ?_
      refine v_iload_n 4 g d_Prover_build_69 rfl ?_
      refine v_iload_n 5 g d_Prover_build_70 rfl ?_
      refine v_lload 1 g d_Prover_build_71 rfl ?_
      refine v_callI (r_V (rest := [.int x5]) [.int v1, .int v2, .int v3, .long x4] g (m1 721 (by decide +kernel) (by decide +kernel)) yv_Judge_most rfl (fun r σ1 h => sp_Judge_most g.2.2.1  h) rfl rfl (by decide) (Nat.le_of_ble_eq_true rfl) d_Prover_build_73) (fun q6 => ?_)
      refine v_iadd g d_Prover_build_76 ?_
      refine v_iload 6 g d_Prover_build_77 rfl ?_
      refine v_icmp_gt 93 g d_Prover_build_79 (by decide) (fun _ => ?_) (fun _ => ?_)
      · refine v_lload 1 g d_Prover_build_93 rfl ?_
        refine v_lconst (v := (0 : Int64)) g d_Prover_build_95 (by decide +kernel) ?_
        refine v_lcmp_ne 102 g d_Prover_build_96 d_Prover_build_97 (by decide) (fun _ => ?_) (fun _ => ?_)
        · refine v_aload_n 2 g d_Prover_build_102 rfl ?_
          refine v_getR 23 g ff_Prover_19 rfl rfl rfl d_Prover_build_103 ?_
          refine v_iload 7 g d_Prover_build_106 rfl ?_
          refine v_aload_n 2 g d_Prover_build_108 rfl ?_
          refine v_getR 16 g ff_Prover_36 rfl rfl rfl d_Prover_build_109 ?_
          refine v_iload_n 4 g d_Prover_build_112 rfl ?_
          refine v_lload 1 g d_Prover_build_113 rfl ?_
          refine v_callC (r_V (rest := [.int v7, .ref (E.2.1 23)]) [.int v2, .long x4] g (m1 722 (by decide +kernel) (by decide +kernel)) yv_Judge_ranked rfl (fun r σ1 h => sp_Judge_ranked g.2.2.1  h) rfl rfl (by decide) (Nat.le_of_ble_eq_true rfl) d_Prover_build_115) (fun q7 => ?_)
          refine v_callI (r_V (rest := [.int v7, .ref (E.2.1 23)]) [] g (m1 723 (by decide +kernel) (by decide +kernel)) yv_Ranking_last rfl (fun r σ1 h => sp_Ranking_last g.2.2.1  h) rfl rfl (by decide) (Nat.le_of_ble_eq_true rfl) d_Prover_build_118) (fun q8 => ?_)
          refine v_iast g rfl rfl d_Prover_build_121 (fun _ => ?_)
          refine v_aload_n 2 g d_Prover_build_122 rfl ?_
          refine v_iload_n 4 g d_Prover_build_123 rfl ?_
          refine v_iload_n 5 g d_Prover_build_124 rfl ?_
          refine v_lload 1 g d_Prover_build_125 rfl ?_
          refine v_iload 0 g d_Prover_build_127 rfl ?_
          refine v_aload_n 2 g d_Prover_build_129 rfl ?_
          refine v_getR 23 g ff_Prover_19 rfl rfl rfl d_Prover_build_130 ?_
          refine v_iload 7 g d_Prover_build_133 rfl ?_
          refine v_iald g rfl rfl d_Prover_build_135 (fun _ => ?_)
          refine v_callU (r_V (rest := []) [.int v2, .int v3, .long x4, .int x5, .int (gI (sI q8.2 23 (Int32.toNatClampNeg v7) q8.1) 23 (Int32.toNatClampNeg v7))] g (m1 727 (by decide +kernel) (by decide +kernel)) yv_Prover_branch rfl (fun r σ1 h => sp_Prover_branch g.2.2.1  h) rfl rfl (by decide) (Nat.le_of_ble_eq_true rfl) d_Prover_build_136) (fun q9 => ?_)
          refine v_iinc 7 [(7, .int (v7 + (1 : Int32))), (10, .int x5), (8, .long x4), (0, .ref (E.2.1 21)), (1, .int v1), (2, .int v2), (3, .int v3), (4, .int v4)] g d_Prover_build_139 rfl (v := (1 : Int32)) (by decide +kernel) (by decide) rfl ?_
          refine v_goto 15 g d_Prover_build_142 (by decide) ?_
          exact v_sub [3,4,5,6,7,0] rfl (hk15 v1 v2 v3 v4 (v7 + (1 : Int32)) q9.2)
        · refine v_iconst (v := (-1 : Int32)) g d_Prover_build_100 (by decide +kernel) ?_
          exact v_ret d_Prover_build_101 rfl
      · refine v_aload_n 2 g d_Prover_build_82 rfl ?_
        refine v_getR 23 g ff_Prover_19 rfl rfl rfl d_Prover_build_83 ?_
        refine v_iload 7 g d_Prover_build_86 rfl ?_
        refine v_iconst (v := (-1 : Int32)) g d_Prover_build_88 (by decide +kernel) ?_
        refine v_iast g rfl rfl d_Prover_build_89 (fun _ => ?_)
        refine v_goto 139 g d_Prover_build_90 (by decide) ?_
        refine v_iinc 7 [(7, .int (v7 + (1 : Int32))), (10, .int x5), (8, .long x4), (0, .ref (E.2.1 21)), (1, .int v1), (2, .int v2), (3, .int v3), (4, .int v4)] g d_Prover_build_139 rfl (v := (1 : Int32)) (by decide +kernel) (by decide) rfl ?_
        refine v_goto 15 g d_Prover_build_142 (by decide) ?_
        exact v_sub [3,4,5,6,7,0] rfl (hk15 v1 v2 v3 v4 (v7 + (1 : Int32)) (sI q6.2 23 (Int32.toNatClampNeg v7) (-1 : Int32)))
def L_Prover_build_15 : Nat → Int32 → Int32 → Int32 → Int32 → Int32 → Sto → Option (Int32 × Sto)
  | 0, _, _, _, _, _, _ => none
  | fu + 1, v1, v2, v3, v4, v7, σ => B_Prover_build_15 (L_Prover_build_15 fu) v1 v2 v3 v4 v7 σ
theorem vL_Prover_build_15 {X : Xt} {E : En} (g : GG X E 6 b_Prover_build R_Prover 11) (fu : Nat) : ∀ (v1 : Int32) (v2 : Int32) (v3 : Int32) (v4 : Int32) (v7 : Int32) (σ : Sto), VV X E b_Prover_build 11 eI 15 [(0, .ref (E.2.1 21)), (1, .int v1), (2, .int v2), (3, .int v3), (4, .int v4), (7, .int v7)] [] σ (L_Prover_build_15 fu v1 v2 v3 v4 v7 σ) := by
  induction fu with
  | zero => intros; exact v_none
  | succ fu ih =>
    intro v1 v2 v3 v4 v7 σ
    exact vB_Prover_build_15 g ih v1 v2 v3 v4 v7 σ
def B_Prover_build_0 (a1 : Int32) (a2 : Int32) (a3 : Int32) (a4 : Int32) (a5 : Int64) (σ : Sto) : Option (Int32 × Sto) :=
  ((f_Prover_await a5 (0 : Int32) (sI σ 21 7 (0 : Int32))).bind fun q1 => L_Prover_build_15 LF a1 a2 a3 a4 (0 : Int32) q1.2)
set_option maxHeartbeats 4000000 in
set_option maxRecDepth 100000 in
theorem vB_Prover_build_0 {X : Xt} {E : En} (g : GG X E 6 b_Prover_build R_Prover 11) (a1 : Int32) (a2 : Int32) (a3 : Int32) (a4 : Int32) (a5 : Int64) (σ : Sto) : VV X E b_Prover_build 11 eI 0 [(0, .ref (E.2.1 21)), (1, .int a1), (2, .int a2), (3, .int a3), (4, .int a4), (5, .long a5)] [] σ (B_Prover_build_0 a1 a2 a3 a4 a5 σ) := by
  unfold B_Prover_build_0
  refine v_aload_n 0 g d_Prover_build_0 rfl ?_
  refine v_iconst (v := (0 : Int32)) g d_Prover_build_1 (by decide +kernel) ?_
  refine v_putI g fp_Prover_29 rfl rfl d_Prover_build_2 ?_
  refine v_aload_n 0 g d_Prover_build_5 rfl ?_
  refine v_lload 5 g d_Prover_build_6 rfl ?_
  refine v_iconst (v := (0 : Int32)) g d_Prover_build_8 (by decide +kernel) ?_
  refine v_callU (r_V (rest := []) [.long a5, .int (0 : Int32)] g (m1 717 (by decide +kernel) (by decide +kernel)) yv_Prover_await rfl (fun r σ1 h => sp_Prover_await g.2.2.1  h) rfl rfl (by decide) (Nat.le_of_ble_eq_true rfl) d_Prover_build_9) (fun q1 => ?_)
  refine v_iconst (v := (0 : Int32)) g d_Prover_build_12 (by decide +kernel) ?_
  refine v_istore [(7, .int (0 : Int32)), (0, .ref (E.2.1 21)), (1, .int a1), (2, .int a2), (3, .int a3), (4, .int a4), (5, .long a5)] g d_Prover_build_13 (by decide) rfl ?_
  exact v_sub [1,2,3,4,5,0] rfl (vL_Prover_build_15 g LF a1 a2 a3 a4 (0 : Int32) q1.2)
def f_Prover_build (a1 : Int32) (a2 : Int32) (a3 : Int32) (a4 : Int32) (a5 : Int64) (σ : Sto) : Option (Int32 × Sto) := B_Prover_build_0 a1 a2 a3 a4 a5 σ
theorem sp_Prover_build {l : Launch} {E : En} (hE : Dj E) {a1 : Int32} {a2 : Int32} {a3 : Int32} {a4 : Int32} {a5 : Int64} {σ : Sto} {r : Int32} {σ' : Sto} (h : f_Prover_build a1 a2 a3 a4 a5 σ = some (r, σ')) : Ct l E y_Prover_build (wsM y_Prover_build b_Prover_build 11 (some .int)) 6 [.ref (E.2.1 21), .int a1, .int a2, .int a3, .int a4, .long a5] σ (eI r) σ' :=
  ct_of hE (by decide +kernel) (Nat.le_of_ble_eq_true rfl) (fun x => Or.inl ⟨rfl, x, rfl⟩) (fun X _ g => vB_Prover_build_0 g a1 a2 a3 a4 a5 σ) r σ' h
/-! method FittingRings$Sheet.isMissing()Z -/
theorem yv_Sheet_isMissing : YV y_Sheet_isMissing b_Sheet_isMissing 1 (some .boolean) 0 7 := ⟨m1 749 (by decide +kernel) (by decide +kernel), m1 750 (by decide +kernel) (by decide +kernel), ini_Sheet, m1 751 (by decide +kernel) (by decide +kernel), ⟨by decide +kernel, by decide +kernel, by decide +kernel⟩, by decide, by decide, T_Sheet, 3, rfl⟩
theorem d_Sheet_isMissing_0 : decode b_Sheet_isMissing 0 = .ok (.aload_n 0, 1) := by decide +kernel
theorem d_Sheet_isMissing_1 : decode b_Sheet_isMissing 1 = .ok (.getfield 9, 3) := by decide +kernel
theorem d_Sheet_isMissing_4 : decode b_Sheet_isMissing 4 = .ok (.iconst (-1), 1) := by decide +kernel
theorem d_Sheet_isMissing_5 : decode b_Sheet_isMissing 5 = .ok (.if_icmp .ne 7, 3) := by decide +kernel
theorem d_Sheet_isMissing_8 : decode b_Sheet_isMissing 8 = .ok (.iconst 1, 1) := by decide +kernel
theorem d_Sheet_isMissing_9 : decode b_Sheet_isMissing 9 = .ok (.goto 4, 3) := by decide +kernel
theorem d_Sheet_isMissing_12 : decode b_Sheet_isMissing 12 = .ok (.iconst 0, 1) := by decide +kernel
theorem d_Sheet_isMissing_13 : decode b_Sheet_isMissing 13 = .ok (.ireturn, 1) := by decide +kernel
def B_Sheet_isMissing_0 (n0 : Nat) (σ : Sto) : Option (Bool × Sto) :=
  (if (gI σ n0 0) = (-1 : Int32) then some (true, σ)
 else some (false, σ))
set_option maxHeartbeats 4000000 in
set_option maxRecDepth 100000 in
theorem vB_Sheet_isMissing_0 {X : Xt} {E : En} (g : GG X E 1 b_Sheet_isMissing R_Sheet 1) (n0 : Nat) (hn0 : cls n0 = 7) (σ : Sto) : VV X E b_Sheet_isMissing 1 eB 0 [(0, .ref (E.2.1 n0))] [] σ (B_Sheet_isMissing_0 n0 σ) := by
  unfold B_Sheet_isMissing_0
  refine v_aload_n 0 g d_Sheet_isMissing_0 rfl ?_
  refine v_getI g ff_Sheet_9 hn0 rfl d_Sheet_isMissing_1 ?_
  refine v_iconst (v := (-1 : Int32)) g d_Sheet_isMissing_4 (by decide +kernel) ?_
  refine v_icmp_ne 12 g d_Sheet_isMissing_5 (by decide) (fun _ => ?_) (fun _ => ?_)
  · refine v_iconst (v := (0 : Int32)) g d_Sheet_isMissing_12 (by decide +kernel) ?_
    exact v_ret d_Sheet_isMissing_13 rfl
  · refine v_iconst (v := (1 : Int32)) g d_Sheet_isMissing_8 (by decide +kernel) ?_
    refine v_goto 13 g d_Sheet_isMissing_9 (by decide) ?_
    exact v_ret d_Sheet_isMissing_13 rfl
def f_Sheet_isMissing (n0 : Nat) (σ : Sto) : Option (Bool × Sto) := B_Sheet_isMissing_0 n0 σ
theorem sp_Sheet_isMissing {l : Launch} {E : En} (hE : Dj E) {n0 : Nat} (hn0 : cls n0 = 7) {σ : Sto} {r : Bool} {σ' : Sto} (h : f_Sheet_isMissing n0 σ = some (r, σ')) : Ct l E y_Sheet_isMissing (wsM y_Sheet_isMissing b_Sheet_isMissing 1 (some .boolean)) 1 [.ref (E.2.1 n0)] σ (eB r) σ' :=
  ct_of hE (by decide +kernel) (Nat.le_of_ble_eq_true rfl) (fun b => Or.inr (Or.inl ⟨rfl, b, rfl⟩)) (fun X _ g => vB_Sheet_isMissing_0 g n0 hn0 σ) r σ' h
/-! method FittingRings$Sheet.hasRoom(II)Z -/
theorem yv_Sheet_hasRoom : YV y_Sheet_hasRoom b_Sheet_hasRoom 3 (some .boolean) 2 7 := ⟨m1 761 (by decide +kernel) (by decide +kernel), m1 762 (by decide +kernel) (by decide +kernel), ini_Sheet, m1 763 (by decide +kernel) (by decide +kernel), ⟨by decide +kernel, by decide +kernel, by decide +kernel⟩, by decide, by decide, T_Sheet, 3, rfl⟩
theorem d_Sheet_hasRoom_0 : decode b_Sheet_hasRoom 0 = .ok (.iload_n 1, 1) := by decide +kernel
theorem d_Sheet_hasRoom_1 : decode b_Sheet_hasRoom 1 = .ok (.ifCond .lt 29, 3) := by decide +kernel
theorem d_Sheet_hasRoom_4 : decode b_Sheet_hasRoom 4 = .ok (.iload_n 2, 1) := by decide +kernel
theorem d_Sheet_hasRoom_5 : decode b_Sheet_hasRoom 5 = .ok (.ifCond .lt 25, 3) := by decide +kernel
theorem d_Sheet_hasRoom_8 : decode b_Sheet_hasRoom 8 = .ok (.iload_n 1, 1) := by decide +kernel
theorem d_Sheet_hasRoom_9 : decode b_Sheet_hasRoom 9 = .ok (.aload_n 0, 1) := by decide +kernel
theorem d_Sheet_hasRoom_10 : decode b_Sheet_hasRoom 10 = .ok (.getfield 15, 3) := by decide +kernel
theorem d_Sheet_hasRoom_13 : decode b_Sheet_hasRoom 13 = .ok (.if_icmp .gt 17, 3) := by decide +kernel
theorem d_Sheet_hasRoom_16 : decode b_Sheet_hasRoom 16 = .ok (.iload_n 2, 1) := by decide +kernel
theorem d_Sheet_hasRoom_17 : decode b_Sheet_hasRoom 17 = .ok (.aload_n 0, 1) := by decide +kernel
theorem d_Sheet_hasRoom_18 : decode b_Sheet_hasRoom 18 = .ok (.getfield 15, 3) := by decide +kernel
theorem d_Sheet_hasRoom_21 : decode b_Sheet_hasRoom 21 = .ok (.iload_n 1, 1) := by decide +kernel
theorem d_Sheet_hasRoom_22 : decode b_Sheet_hasRoom 22 = .ok (.isub, 1) := by decide +kernel
theorem d_Sheet_hasRoom_23 : decode b_Sheet_hasRoom 23 = .ok (.if_icmp .gt 7, 3) := by decide +kernel
theorem d_Sheet_hasRoom_26 : decode b_Sheet_hasRoom 26 = .ok (.iconst 1, 1) := by decide +kernel
theorem d_Sheet_hasRoom_27 : decode b_Sheet_hasRoom 27 = .ok (.goto 4, 3) := by decide +kernel
theorem d_Sheet_hasRoom_30 : decode b_Sheet_hasRoom 30 = .ok (.iconst 0, 1) := by decide +kernel
theorem d_Sheet_hasRoom_31 : decode b_Sheet_hasRoom 31 = .ok (.ireturn, 1) := by decide +kernel
def B_Sheet_hasRoom_0 (n0 : Nat) (a1 : Int32) (a2 : Int32) (σ : Sto) : Option (Bool × Sto) :=
  (if a1 < 0 then some (false, σ)
 else (if a2 < 0 then some (false, σ)
  else (if (gI σ n0 1) < a1 then some (false, σ)
   else (if ((gI σ n0 1) - a1) < a2 then some (false, σ)
    else some (true, σ)))))
set_option maxHeartbeats 4000000 in
set_option maxRecDepth 100000 in
theorem vB_Sheet_hasRoom_0 {X : Xt} {E : En} (g : GG X E 1 b_Sheet_hasRoom R_Sheet 3) (n0 : Nat) (a1 : Int32) (a2 : Int32) (hn0 : cls n0 = 7) (σ : Sto) : VV X E b_Sheet_hasRoom 3 eB 0 [(0, .ref (E.2.1 n0)), (1, .int a1), (2, .int a2)] [] σ (B_Sheet_hasRoom_0 n0 a1 a2 σ) := by
  unfold B_Sheet_hasRoom_0
  refine v_iload_n 1 g d_Sheet_hasRoom_0 rfl ?_
  refine v_if_lt 30 g d_Sheet_hasRoom_1 (by decide) (fun _ => ?_) (fun _ => ?_)
  · refine v_iconst (v := (0 : Int32)) g d_Sheet_hasRoom_30 (by decide +kernel) ?_
    exact v_ret d_Sheet_hasRoom_31 rfl
  · refine v_iload_n 2 g d_Sheet_hasRoom_4 rfl ?_
    refine v_if_lt 30 g d_Sheet_hasRoom_5 (by decide) (fun _ => ?_) (fun _ => ?_)
    · refine v_iconst (v := (0 : Int32)) g d_Sheet_hasRoom_30 (by decide +kernel) ?_
      exact v_ret d_Sheet_hasRoom_31 rfl
    · refine v_iload_n 1 g d_Sheet_hasRoom_8 rfl ?_
      refine v_aload_n 0 g d_Sheet_hasRoom_9 rfl ?_
      refine v_getI g ff_Sheet_15 hn0 rfl d_Sheet_hasRoom_10 ?_
      refine v_icmp_gt 30 g d_Sheet_hasRoom_13 (by decide) (fun _ => ?_) (fun _ => ?_)
      · refine v_iconst (v := (0 : Int32)) g d_Sheet_hasRoom_30 (by decide +kernel) ?_
        exact v_ret d_Sheet_hasRoom_31 rfl
      · refine v_iload_n 2 g d_Sheet_hasRoom_16 rfl ?_
        refine v_aload_n 0 g d_Sheet_hasRoom_17 rfl ?_
        refine v_getI g ff_Sheet_15 hn0 rfl d_Sheet_hasRoom_18 ?_
        refine v_iload_n 1 g d_Sheet_hasRoom_21 rfl ?_
        refine v_isub g d_Sheet_hasRoom_22 ?_
        refine v_icmp_gt 30 g d_Sheet_hasRoom_23 (by decide) (fun _ => ?_) (fun _ => ?_)
        · refine v_iconst (v := (0 : Int32)) g d_Sheet_hasRoom_30 (by decide +kernel) ?_
          exact v_ret d_Sheet_hasRoom_31 rfl
        · refine v_iconst (v := (1 : Int32)) g d_Sheet_hasRoom_26 (by decide +kernel) ?_
          refine v_goto 31 g d_Sheet_hasRoom_27 (by decide) ?_
          exact v_ret d_Sheet_hasRoom_31 rfl
def f_Sheet_hasRoom (n0 : Nat) (a1 : Int32) (a2 : Int32) (σ : Sto) : Option (Bool × Sto) := B_Sheet_hasRoom_0 n0 a1 a2 σ
theorem sp_Sheet_hasRoom {l : Launch} {E : En} (hE : Dj E) {n0 : Nat} {a1 : Int32} {a2 : Int32} (hn0 : cls n0 = 7) {σ : Sto} {r : Bool} {σ' : Sto} (h : f_Sheet_hasRoom n0 a1 a2 σ = some (r, σ')) : Ct l E y_Sheet_hasRoom (wsM y_Sheet_hasRoom b_Sheet_hasRoom 3 (some .boolean)) 1 [.ref (E.2.1 n0), .int a1, .int a2] σ (eB r) σ' :=
  ct_of hE (by decide +kernel) (Nat.le_of_ble_eq_true rfl) (fun b => Or.inr (Or.inl ⟨rfl, b, rfl⟩)) (fun X _ g => vB_Sheet_hasRoom_0 g n0 a1 a2 hn0 σ) r σ' h
/-! method FittingRings$Sheet.at(I)I -/
theorem yv_Sheet_at : YV y_Sheet_at b_Sheet_at 2 (some .int) 1 7 := ⟨m1 757 (by decide +kernel) (by decide +kernel), m1 758 (by decide +kernel) (by decide +kernel), ini_Sheet, m1 759 (by decide +kernel) (by decide +kernel), ⟨by decide +kernel, by decide +kernel, by decide +kernel⟩, by decide, by decide, T_Sheet, 3, rfl⟩
theorem d_Sheet_at_0 : decode b_Sheet_at 0 = .ok (.aload_n 0, 1) := by decide +kernel
theorem d_Sheet_at_1 : decode b_Sheet_at 1 = .ok (.iload_n 1, 1) := by decide +kernel
theorem d_Sheet_at_2 : decode b_Sheet_at 2 = .ok (.iconst 1, 1) := by decide +kernel
theorem d_Sheet_at_3 : decode b_Sheet_at 3 = .ok (.invokevirtual 37, 3) := by decide +kernel
theorem d_Sheet_at_6 : decode b_Sheet_at 6 = .ok (.ifCond .eq 12, 3) := by decide +kernel
theorem d_Sheet_at_9 : decode b_Sheet_at 9 = .ok (.aload_n 0, 1) := by decide +kernel
theorem d_Sheet_at_10 : decode b_Sheet_at 10 = .ok (.getfield 18, 3) := by decide +kernel
theorem d_Sheet_at_13 : decode b_Sheet_at 13 = .ok (.iload_n 1, 1) := by decide +kernel
theorem d_Sheet_at_14 : decode b_Sheet_at 14 = .ok (.iaload, 1) := by decide +kernel
theorem d_Sheet_at_15 : decode b_Sheet_at 15 = .ok (.goto 4, 3) := by decide +kernel
theorem d_Sheet_at_18 : decode b_Sheet_at 18 = .ok (.iconst (-1), 1) := by decide +kernel
theorem d_Sheet_at_19 : decode b_Sheet_at 19 = .ok (.ireturn, 1) := by decide +kernel
def B_Sheet_at_0 (n0 : Nat) (a1 : Int32) (σ : Sto) : Option (Int32 × Sto) :=
  ((f_Sheet_hasRoom n0 a1 (1 : Int32) σ).bind fun q1 => (if (b2i q1.1) = 0 then some ((-1 : Int32), q1.2)
 else (if inb a1 60 = true then some ((gI q1.2 (n0 + 1) (Int32.toNatClampNeg a1)), q1.2) else none)))
set_option maxHeartbeats 4000000 in
set_option maxRecDepth 100000 in
theorem vB_Sheet_at_0 {X : Xt} {E : En} (g : GG X E 2 b_Sheet_at R_Sheet 2) (n0 : Nat) (a1 : Int32) (hn0 : cls n0 = 7) (σ : Sto) : VV X E b_Sheet_at 2 eI 0 [(0, .ref (E.2.1 n0)), (1, .int a1)] [] σ (B_Sheet_at_0 n0 a1 σ) := by
  unfold B_Sheet_at_0
  refine v_aload_n 0 g d_Sheet_at_0 rfl ?_
  refine v_iload_n 1 g d_Sheet_at_1 rfl ?_
  refine v_iconst (v := (1 : Int32)) g d_Sheet_at_2 (by decide +kernel) ?_
  refine v_callB (r_V (rest := []) [.int a1, .int (1 : Int32)] g (m1 760 (by decide +kernel) (by decide +kernel)) yv_Sheet_hasRoom hn0 (fun r σ1 h => sp_Sheet_hasRoom g.2.2.1 hn0 h) rfl rfl (by decide) (Nat.le_of_ble_eq_true rfl) d_Sheet_at_3) (fun q1 => ?_)
  refine v_if_eq 18 g d_Sheet_at_6 (by decide) (fun _ => ?_) (fun _ => ?_)
  · refine v_iconst (v := (-1 : Int32)) g d_Sheet_at_18 (by decide +kernel) ?_
    exact v_ret d_Sheet_at_19 rfl
  · refine v_aload_n 0 g d_Sheet_at_9 rfl ?_
    refine v_getR (n0 + 1) g ff_Sheet_18 hn0 rfl (rf_Sheet_2 hn0) d_Sheet_at_10 ?_
    refine v_iload_n 1 g d_Sheet_at_13 rfl ?_
    refine v_iald g (ar_Sheet_2 hn0).1 (ar_Sheet_2 hn0).2 d_Sheet_at_14 (fun _ => ?_)
    refine v_goto 19 g d_Sheet_at_15 (by decide) ?_
    exact v_ret d_Sheet_at_19 rfl
def f_Sheet_at (n0 : Nat) (a1 : Int32) (σ : Sto) : Option (Int32 × Sto) := B_Sheet_at_0 n0 a1 σ
theorem sp_Sheet_at {l : Launch} {E : En} (hE : Dj E) {n0 : Nat} {a1 : Int32} (hn0 : cls n0 = 7) {σ : Sto} {r : Int32} {σ' : Sto} (h : f_Sheet_at n0 a1 σ = some (r, σ')) : Ct l E y_Sheet_at (wsM y_Sheet_at b_Sheet_at 2 (some .int)) 2 [.ref (E.2.1 n0), .int a1] σ (eI r) σ' :=
  ct_of hE (by decide +kernel) (Nat.le_of_ble_eq_true rfl) (fun x => Or.inl ⟨rfl, x, rfl⟩) (fun X _ g => vB_Sheet_at_0 g n0 a1 hn0 σ) r σ' h
/-! method FittingRings$Prover.firstFault(LFittingRings$Sheet;IIIIJ)I -/
theorem yv_Prover_firstFault : YV y_Prover_firstFault b_Prover_firstFault 13 (some .int) 6 5 := ⟨m1 753 (by decide +kernel) (by decide +kernel), m1 754 (by decide +kernel) (by decide +kernel), ini_Prover, m1 755 (by decide +kernel) (by decide +kernel), ⟨by decide +kernel, by decide +kernel, by decide +kernel⟩, by decide, by decide, T_Prover, 8, rfl⟩
theorem d_Prover_firstFault_0 : decode b_Prover_firstFault 0 = .ok (.aload_n 0, 1) := by decide +kernel
theorem d_Prover_firstFault_1 : decode b_Prover_firstFault 1 = .ok (.iconst 0, 1) := by decide +kernel
theorem d_Prover_firstFault_2 : decode b_Prover_firstFault 2 = .ok (.putfield 29, 3) := by decide +kernel
theorem d_Prover_firstFault_5 : decode b_Prover_firstFault 5 = .ok (.aload_n 0, 1) := by decide +kernel
theorem d_Prover_firstFault_6 : decode b_Prover_firstFault 6 = .ok (.lload 6, 2) := by decide +kernel
theorem d_Prover_firstFault_8 : decode b_Prover_firstFault 8 = .ok (.iconst 0, 1) := by decide +kernel
theorem d_Prover_firstFault_9 : decode b_Prover_firstFault 9 = .ok (.invokevirtual 40, 3) := by decide +kernel
theorem d_Prover_firstFault_12 : decode b_Prover_firstFault 12 = .ok (.iconst 0, 1) := by decide +kernel
theorem d_Prover_firstFault_13 : decode b_Prover_firstFault 13 = .ok (.istore 8, 2) := by decide +kernel
theorem d_Prover_firstFault_15 : decode b_Prover_firstFault 15 = .ok (.iload 8, 2) := by decide +kernel
theorem d_Prover_firstFault_17 : decode b_Prover_firstFault 17 = .ok (.aload_n 1, 1) := by decide +kernel
theorem d_Prover_firstFault_18 : decode b_Prover_firstFault 18 = .ok (.getfield 70, 3) := by decide +kernel
theorem d_Prover_firstFault_21 : decode b_Prover_firstFault 21 = .ok (.if_icmp .ge 128, 3) := by decide +kernel
theorem d_Prover_firstFault_24 : decode b_Prover_firstFault 24 = .ok (.aload_n 0, 1) := by decide +kernel
theorem d_Prover_firstFault_25 : decode b_Prover_firstFault 25 = .ok (.getfield 29, 3) := by decide +kernel
theorem d_Prover_firstFault_28 : decode b_Prover_firstFault 28 = .ok (.ifCond .ne 6, 3) := by decide +kernel
theorem d_Prover_firstFault_31 : decode b_Prover_firstFault 31 = .ok (.iload 8, 2) := by decide +kernel
theorem d_Prover_firstFault_33 : decode b_Prover_firstFault 33 = .ok (.ireturn, 1) := by decide +kernel
theorem d_Prover_firstFault_34 : decode b_Prover_firstFault 34 = .ok (.aload_n 0, 1) := by decide +kernel
theorem d_Prover_firstFault_35 : decode b_Prover_firstFault 35 = .ok (.dup, 1) := by decide +kernel
theorem d_Prover_firstFault_36 : decode b_Prover_firstFault 36 = .ok (.getfield 29, 3) := by decide +kernel
theorem d_Prover_firstFault_39 : decode b_Prover_firstFault 39 = .ok (.iconst 1, 1) := by decide +kernel
theorem d_Prover_firstFault_40 : decode b_Prover_firstFault 40 = .ok (.isub, 1) := by decide +kernel
theorem d_Prover_firstFault_41 : decode b_Prover_firstFault 41 = .ok (.putfield 29, 3) := by decide +kernel
theorem d_Prover_firstFault_44 : decode b_Prover_firstFault 44 = .ok (.aload_n 0, 1) := by decide +kernel
theorem d_Prover_firstFault_45 : decode b_Prover_firstFault 45 = .ok (.getfield 22, 3) := by decide +kernel
theorem d_Prover_firstFault_48 : decode b_Prover_firstFault 48 = .ok (.aload_n 0, 1) := by decide +kernel
theorem d_Prover_firstFault_49 : decode b_Prover_firstFault 49 = .ok (.getfield 29, 3) := by decide +kernel
theorem d_Prover_firstFault_52 : decode b_Prover_firstFault 52 = .ok (.laload, 1) := by decide +kernel
theorem d_Prover_firstFault_53 : decode b_Prover_firstFault 53 = .ok (.lstore 9, 2) := by decide +kernel
theorem d_Prover_firstFault_55 : decode b_Prover_firstFault 55 = .ok (.aload_n 0, 1) := by decide +kernel
theorem d_Prover_firstFault_56 : decode b_Prover_firstFault 56 = .ok (.getfield 26, 3) := by decide +kernel
theorem d_Prover_firstFault_59 : decode b_Prover_firstFault 59 = .ok (.aload_n 0, 1) := by decide +kernel
theorem d_Prover_firstFault_60 : decode b_Prover_firstFault 60 = .ok (.getfield 29, 3) := by decide +kernel
theorem d_Prover_firstFault_63 : decode b_Prover_firstFault 63 = .ok (.iaload, 1) := by decide +kernel
theorem d_Prover_firstFault_64 : decode b_Prover_firstFault 64 = .ok (.istore 11, 2) := by decide +kernel
theorem d_Prover_firstFault_66 : decode b_Prover_firstFault 66 = .ok (.aload_n 1, 1) := by decide +kernel
theorem d_Prover_firstFault_67 : decode b_Prover_firstFault 67 = .ok (.iload 8, 2) := by decide +kernel
theorem d_Prover_firstFault_69 : decode b_Prover_firstFault 69 = .ok (.invokevirtual 73, 3) := by decide +kernel
theorem d_Prover_firstFault_72 : decode b_Prover_firstFault 72 = .ok (.istore 12, 2) := by decide +kernel
theorem d_Prover_firstFault_74 : decode b_Prover_firstFault 74 = .ok (.aload_n 0, 1) := by decide +kernel
theorem d_Prover_firstFault_75 : decode b_Prover_firstFault 75 = .ok (.getfield 32, 3) := by decide +kernel
theorem d_Prover_firstFault_78 : decode b_Prover_firstFault 78 = .ok (.iload 12, 2) := by decide +kernel
theorem d_Prover_firstFault_80 : decode b_Prover_firstFault 80 = .ok (.i2l, 1) := by decide +kernel
theorem d_Prover_firstFault_81 : decode b_Prover_firstFault 81 = .ok (.invokevirtual 77, 3) := by decide +kernel
theorem d_Prover_firstFault_84 : decode b_Prover_firstFault 84 = .ok (.ifCond .eq 29, 3) := by decide +kernel
theorem d_Prover_firstFault_87 : decode b_Prover_firstFault 87 = .ok (.lload 9, 2) := by decide +kernel
theorem d_Prover_firstFault_89 : decode b_Prover_firstFault 89 = .ok (.iload 12, 2) := by decide +kernel
theorem d_Prover_firstFault_91 : decode b_Prover_firstFault 91 = .ok (.invokestatic 83, 3) := by decide +kernel
theorem d_Prover_firstFault_94 : decode b_Prover_firstFault 94 = .ok (.ifCond .eq 19, 3) := by decide +kernel
theorem d_Prover_firstFault_97 : decode b_Prover_firstFault 97 = .ok (.aload_n 0, 1) := by decide +kernel
theorem d_Prover_firstFault_98 : decode b_Prover_firstFault 98 = .ok (.iload_n 3, 1) := by decide +kernel
theorem d_Prover_firstFault_99 : decode b_Prover_firstFault 99 = .ok (.iload 4, 2) := by decide +kernel
theorem d_Prover_firstFault_101 : decode b_Prover_firstFault 101 = .ok (.lload 9, 2) := by decide +kernel
theorem d_Prover_firstFault_103 : decode b_Prover_firstFault 103 = .ok (.iload 11, 2) := by decide +kernel
theorem d_Prover_firstFault_105 : decode b_Prover_firstFault 105 = .ok (.iload 12, 2) := by decide +kernel
theorem d_Prover_firstFault_107 : decode b_Prover_firstFault 107 = .ok (.invokevirtual 60, 3) := by decide +kernel
theorem d_Prover_firstFault_110 : decode b_Prover_firstFault 110 = .ok (.goto 33, 3) := by decide +kernel
theorem d_Prover_firstFault_113 : decode b_Prover_firstFault 113 = .ok (.iload 12, 2) := by decide +kernel
theorem d_Prover_firstFault_115 : decode b_Prover_firstFault 115 = .ok (.iconst (-1), 1) := by decide +kernel
theorem d_Prover_firstFault_116 : decode b_Prover_firstFault 116 = .ok (.if_icmp .ne 24, 3) := by decide +kernel
theorem d_Prover_firstFault_119 : decode b_Prover_firstFault 119 = .ok (.iload 11, 2) := by decide +kernel
theorem d_Prover_firstFault_121 : decode b_Prover_firstFault 121 = .ok (.aload_n 0, 1) := by decide +kernel
theorem d_Prover_firstFault_122 : decode b_Prover_firstFault 122 = .ok (.getfield 36, 3) := by decide +kernel
theorem d_Prover_firstFault_125 : decode b_Prover_firstFault 125 = .ok (.iload_n 2, 1) := by decide +kernel
theorem d_Prover_firstFault_126 : decode b_Prover_firstFault 126 = .ok (.iload_n 3, 1) := by decide +kernel
theorem d_Prover_firstFault_127 : decode b_Prover_firstFault 127 = .ok (.iload 4, 2) := by decide +kernel
theorem d_Prover_firstFault_129 : decode b_Prover_firstFault 129 = .ok (.lload 9, 2) := by decide +kernel
theorem d_Prover_firstFault_131 : decode b_Prover_firstFault 131 = .ok (.invokevirtual 44, 3) := by decide +kernel
theorem d_Prover_firstFault_134 : decode b_Prover_firstFault 134 = .ok (.iadd, 1) := by decide +kernel
theorem d_Prover_firstFault_135 : decode b_Prover_firstFault 135 = .ok (.iload 5, 2) := by decide +kernel
theorem d_Prover_firstFault_137 : decode b_Prover_firstFault 137 = .ok (.if_icmp .le 6, 3) := by decide +kernel
theorem d_Prover_firstFault_140 : decode b_Prover_firstFault 140 = .ok (.iload 8, 2) := by decide +kernel
theorem d_Prover_firstFault_142 : decode b_Prover_firstFault 142 = .ok (.ireturn, 1) := by decide +kernel
theorem d_Prover_firstFault_143 : decode b_Prover_firstFault 143 = .ok (.iinc 8 1, 3) := by decide +kernel
theorem d_Prover_firstFault_146 : decode b_Prover_firstFault 146 = .ok (.goto (-131), 3) := by decide +kernel
theorem d_Prover_firstFault_149 : decode b_Prover_firstFault 149 = .ok (.aload_n 0, 1) := by decide +kernel
theorem d_Prover_firstFault_150 : decode b_Prover_firstFault 150 = .ok (.getfield 29, 3) := by decide +kernel
theorem d_Prover_firstFault_153 : decode b_Prover_firstFault 153 = .ok (.ifCond .ne 7, 3) := by decide +kernel
theorem d_Prover_firstFault_156 : decode b_Prover_firstFault 156 = .ok (.iconst (-1), 1) := by decide +kernel
theorem d_Prover_firstFault_157 : decode b_Prover_firstFault 157 = .ok (.goto 7, 3) := by decide +kernel
theorem d_Prover_firstFault_160 : decode b_Prover_firstFault 160 = .ok (.aload_n 1, 1) := by decide +kernel
theorem d_Prover_firstFault_161 : decode b_Prover_firstFault 161 = .ok (.getfield 70, 3) := by decide +kernel
theorem d_Prover_firstFault_164 : decode b_Prover_firstFault 164 = .ok (.ireturn, 1) := by decide +kernel
def B_Prover_firstFault_15 (k15 : Nat → Int32 → Int32 → Int32 → Int32 → Int32 → Sto → Option (Int32 × Sto)) (v1 : Nat) (v2 : Int32) (v3 : Int32) (v4 : Int32) (v5 : Int32) (v8 : Int32) (σ : Sto) : Option (Int32 × Sto) :=
  (if (gI σ v1 1) ≤ v8 then (if (gI σ 21 7) = 0 then some ((-1 : Int32), σ)
  else some ((gI σ v1 1), σ))
 else (if (gI σ 21 7) = 0 then some (v8, σ)
  else (if inb (gI (sI σ 21 7 ((gI σ 21 7) - (1 : Int32))) 21 7) 48 = true then (lt1 (gL (sI σ 21 7 ((gI σ 21 7) - (1 : Int32))) 24 (Int32.toNatClampNeg (gI (sI σ 21 7 ((gI σ 21 7) - (1 : Int32))) 21 7))) fun x2 => (if inb (gI (sI σ 21 7 ((gI σ 21 7) - (1 : Int32))) 21 7) 48 = true then (lt1 (gI (sI σ 21 7 ((gI σ 21 7) - (1 : Int32))) 25 (Int32.toNatClampNeg (gI (sI σ 21 7 ((gI σ 21 7) - (1 : Int32))) 21 7))) fun x3 => ((f_Sheet_at v1 v8 (sI σ 21 7 ((gI σ 21 7) - (1 : Int32)))).bind fun q4 => ((f_Net_has 1 (Int32.toInt64 q4.1) q4.2).bind fun q5 => (if (b2i q5.1) = 0 then (if q4.1 = (-1 : Int32) then ((f_Judge_most v2 v3 v4 x2 q5.2).bind fun q6 => (if (x3 + q6.1) ≤ v5 then k15 v1 v2 v3 v4 v5 (v8 + (1 : Int32)) q6.2
     else some (v8, q6.2)))
    else some (v8, q5.2))
   else ((f_FR_isOf x2 q4.1 q5.2).bind fun q7 => (if (b2i q7.1) = 0 then (if q4.1 = (-1 : Int32) then ((f_Judge_most v2 v3 v4 x2 q7.2).bind fun q8 => (if (x3 + q8.1) ≤ v5 then k15 v1 v2 v3 v4 v5 (v8 + (1 : Int32)) q8.2
      else some (v8, q8.2)))
     else some (v8, q7.2))
    else ((f_Prover_branch v3 v4 x2 x3 q4.1 q7.2).bind fun q9 => k15 v1 v2 v3 v4 v5 (v8 + (1 : Int32)) q9.2))))))) else none)) else none)))
set_option maxHeartbeats 4000000 in
set_option maxRecDepth 100000 in
theorem vB_Prover_firstFault_15 {X : Xt} {E : En} (g : GG X E 6 b_Prover_firstFault R_Prover 13) {k15 : Nat → Int32 → Int32 → Int32 → Int32 → Int32 → Sto → Option (Int32 × Sto)} (hk15 : ∀ (v1 : Nat) (v2 : Int32) (v3 : Int32) (v4 : Int32) (v5 : Int32) (v8 : Int32) (hv1 : cls v1 = 7) (σ : Sto), VV X E b_Prover_firstFault 13 eI 15 [(0, .ref (E.2.1 21)), (1, .ref (E.2.1 v1)), (2, .int v2), (3, .int v3), (4, .int v4), (5, .int v5), (8, .int v8)] [] σ (k15 v1 v2 v3 v4 v5 v8 σ)) (v1 : Nat) (v2 : Int32) (v3 : Int32) (v4 : Int32) (v5 : Int32) (v8 : Int32) (hv1 : cls v1 = 7) (σ : Sto) : VV X E b_Prover_firstFault 13 eI 15 [(0, .ref (E.2.1 21)), (1, .ref (E.2.1 v1)), (2, .int v2), (3, .int v3), (4, .int v4), (5, .int v5), (8, .int v8)] [] σ (B_Prover_firstFault_15 k15 v1 v2 v3 v4 v5 v8 σ) := by
  unfold B_Prover_firstFault_15
  refine v_iload 6 g d_Prover_firstFault_15 rfl ?_
  refine v_aload_n 1 g d_Prover_firstFault_17 rfl ?_
  refine v_getI g ff_Prover_70 hv1 rfl d_Prover_firstFault_18 ?_
  refine v_icmp_ge 149 g d_Prover_firstFault_21 (by decide) (fun _ => ?_) (fun _ => ?_)
  · refine v_aload_n 0 g d_Prover_firstFault_149 rfl ?_
    refine v_getI g ff_Prover_29 rfl rfl d_Prover_firstFault_150 ?_
    refine v_if_ne 160 g d_Prover_firstFault_153 (by decide) (fun _ => ?_) (fun _ => ?_)
    · refine v_aload_n 1 g d_Prover_firstFault_160 rfl ?_
      refine v_getI g ff_Prover_70 hv1 rfl d_Prover_firstFault_161 ?_
      exact v_ret d_Prover_firstFault_164 rfl
    · refine v_iconst (v := (-1 : Int32)) g d_Prover_firstFault_156 (by decide +kernel) ?_
      refine v_goto 164 g d_Prover_firstFault_157 (by decide) ?_
      exact v_ret d_Prover_firstFault_164 rfl
  · refine v_aload_n 0 g d_Prover_firstFault_24 rfl ?_
    refine v_getI g ff_Prover_29 rfl rfl d_Prover_firstFault_25 ?_
    refine v_if_ne 34 g d_Prover_firstFault_28 (by decide) (fun _ => ?_) (fun _ => ?_)
    · refine v_aload_n 0 g d_Prover_firstFault_34 rfl ?_
      refine v_dup g d_Prover_firstFault_35 rfl ?_
      refine v_getI g ff_Prover_29 rfl rfl d_Prover_firstFault_36 ?_
      refine v_iconst (v := (1 : Int32)) g d_Prover_firstFault_39 (by decide +kernel) ?_
      refine v_isub g d_Prover_firstFault_40 ?_
      refine v_putI g fp_Prover_29 rfl rfl d_Prover_firstFault_41 ?_
      refine v_aload_n 0 g d_Prover_firstFault_44 rfl ?_
      refine v_getR 24 g ff_Prover_22 rfl rfl rfl d_Prover_firstFault_45 ?_
      refine v_aload_n 0 g d_Prover_firstFault_48 rfl ?_
      refine v_getI g ff_Prover_29 rfl rfl d_Prover_firstFault_49 ?_
      refine v_lald g rfl rfl d_Prover_firstFault_52 (fun _ => ?_)
      refine v_nlet (fun x2 ex2 => ?_)
      rw [← ex2]
      refine v_lstore [(9, .long x2), (0, .ref (E.2.1 21)), (1, .ref (E.2.1 v1)), (2, .int v2), (3, .int v3), (4, .int v4), (5, .int v5), (8, .int v8)] g d_Prover_firstFault_53 (by decide) rfl ?_
      refine v_aload_n 1 g d_Prover_firstFault_55 rfl ?_
      refine v_getR 25 g ff_Prover_26 rfl rfl rfl d_Prover_firstFault_56 ?_
      refine v_aload_n 1 g d_Prover_firstFault_59 rfl ?_
      refine v_getI g ff_Prover_29 rfl rfl d_Prover_firstFault_60 ?_
      refine v_iald g rfl rfl d_Prover_firstFault_63 (fun _ => ?_)
      refine v_nlet (fun x3 ex3 => ?_)
      rw [← ex3]
      refine v_istore [(11, .int x3), (9, .long x2), (0, .ref (E.2.1 21)), (1, .ref (E.2.1 v1)), (2, .int v2), (3, .int v3), (4, .int v4), (5, .int v5), (8, .int v8)] g d_Prover_firstFault_64 (by decide) rfl ?_
      refine v_aload_n 3 g d_Prover_firstFault_66 rfl ?_
      refine v_iload 8 g d_Prover_firstFault_67 rfl ?_
      refine v_callI (r_V (rest := []) [.int v8] g (m1 756 (by decide +kernel) (by decide +kernel)) yv_Sheet_at hv1 (fun r σ1 h => sp_Sheet_at g.2.2.1 hv1 h) rfl rfl (by decide) (Nat.le_of_ble_eq_true rfl) d_Prover_firstFault_69) (fun q4 => ?_)
      refine v_istore [(12, .int q4.1), (11, .int x3), (9, .long x2), (0, .ref (E.2.1 21)), (1, .ref (E.2.1 v1)), (2, .int v2), (3, .int v3), (4, .int v4), (5, .int v5), (8, .int v8)] g d_Prover_firstFault_72 (by decide) rfl ?_
      refine v_aload_n 3 g d_Prover_firstFault_74 rfl ?_
      refine v_getR 1 g ff_Prover_32 rfl rfl rfl d_Prover_firstFault_75 ?_
      refine v_iload 0 g d_Prover_firstFault_78 rfl ?_
      refine v_i2l g d_Prover_firstFault_80 ?_
      refine v_callB (r_V (rest := []) [.long (Int32.toInt64 q4.1)] g (m1 764 (by decide +kernel) (by decide +kernel)) yv_Net_has rfl (fun r σ1 h => sp_Net_has g.2.2.1 rfl h) rfl rfl (by decide) (Nat.le_of_ble_eq_true rfl) d_Prover_firstFault_81) (fun q5 => ?_)
      refine v_if_eq 113 g d_Prover_firstFault_84 (by decide) (fun _ => ?_) (fun _ => ?_)
      · refine v_iload 0 g d_Prover_firstFault_113 rfl ?_
        refine v_iconst (v := (-1 : Int32)) g d_Prover_firstFault_115 (by decide +kernel) ?_
        refine v_icmp_ne 140 g d_Prover_firstFault_116 (by decide) (fun _ => ?_) (fun _ => ?_)
        · refine v_iload 9 g d_Prover_firstFault_140 rfl ?_
          exact v_ret d_Prover_firstFault_142 rfl
        · refine v_iload 1 g d_Prover_firstFault_119 rfl ?_
          refine v_aload_n 3 g d_Prover_firstFault_121 rfl ?_
          refine v_getR 16 g ff_Prover_36 rfl rfl rfl d_Prover_firstFault_122 ?_
          refine v_iload_n 5 g d_Prover_firstFault_125 rfl ?_
          refine v_iload_n 6 g d_Prover_firstFault_126 rfl ?_
          refine v_iload 7 g d_Prover_firstFault_127 rfl ?_
          refine v_lload 2 g d_Prover_firstFault_129 rfl ?_
          refine v_callI (r_V (rest := [.int x3]) [.int v2, .int v3, .int v4, .long x2] g (m1 721 (by decide +kernel) (by decide +kernel)) yv_Judge_most rfl (fun r σ1 h => sp_Judge_most g.2.2.1  h) rfl rfl (by decide) (Nat.le_of_ble_eq_true rfl) d_Prover_firstFault_131) (fun q6 => ?_)
          refine v_iadd g d_Prover_firstFault_134 ?_
          refine v_iload 8 g d_Prover_firstFault_135 rfl ?_
          refine v_icmp_le 143 g d_Prover_firstFault_137 (by decide) (fun _ => ?_) (fun _ => ?_)
          · refine v_iinc 9 [(8, .int (v8 + (1 : Int32))), (12, .int q4.1), (11, .int x3), (9, .long x2), (0, .ref (E.2.1 21)), (1, .ref (E.2.1 v1)), (2, .int v2), (3, .int v3), (4, .int v4), (5, .int v5)] g d_Prover_firstFault_143 rfl (v := (1 : Int32)) (by decide +kernel) (by decide) rfl ?_
            refine v_goto 15 g d_Prover_firstFault_146 (by decide) ?_
            exact v_sub [4,5,6,7,8,9,0] rfl (hk15 v1 v2 v3 v4 v5 (v8 + (1 : Int32)) hv1 q6.2)
          · refine v_iload 9 g d_Prover_firstFault_140 rfl ?_
            exact v_ret d_Prover_firstFault_142 rfl
      · refine v_lload 2 g d_Prover_firstFault_87 rfl ?_
        refine v_iload 0 g d_Prover_firstFault_89 rfl ?_
        refine v_callB (r_SN (rest := []) (host := R_FR) [.long x2, .int q4.1] g (by decide +kernel) ys_FR_isOf (fun r σ1 h => sp_FR_isOf g.2.2.1  h) rfl rfl (by decide) (Nat.le_of_ble_eq_true rfl) d_Prover_firstFault_91) (fun q7 => ?_)
        refine v_if_eq 113 g d_Prover_firstFault_94 (by decide) (fun _ => ?_) (fun _ => ?_)
        · refine v_iload 0 g d_Prover_firstFault_113 rfl ?_
          refine v_iconst (v := (-1 : Int32)) g d_Prover_firstFault_115 (by decide +kernel) ?_
          refine v_icmp_ne 140 g d_Prover_firstFault_116 (by decide) (fun _ => ?_) (fun _ => ?_)
          · refine v_iload 9 g d_Prover_firstFault_140 rfl ?_
            exact v_ret d_Prover_firstFault_142 rfl
          · refine v_iload 1 g d_Prover_firstFault_119 rfl ?_
            refine v_aload_n 3 g d_Prover_firstFault_121 rfl ?_
            refine v_getR 16 g ff_Prover_36 rfl rfl rfl d_Prover_firstFault_122 ?_
            refine v_iload_n 5 g d_Prover_firstFault_125 rfl ?_
            refine v_iload_n 6 g d_Prover_firstFault_126 rfl ?_
            refine v_iload 7 g d_Prover_firstFault_127 rfl ?_
            refine v_lload 2 g d_Prover_firstFault_129 rfl ?_
            refine v_callI (r_V (rest := [.int x3]) [.int v2, .int v3, .int v4, .long x2] g (m1 721 (by decide +kernel) (by decide +kernel)) yv_Judge_most rfl (fun r σ1 h => sp_Judge_most g.2.2.1  h) rfl rfl (by decide) (Nat.le_of_ble_eq_true rfl) d_Prover_firstFault_131) (fun q8 => ?_)
            refine v_iadd g d_Prover_firstFault_134 ?_
            refine v_iload 8 g d_Prover_firstFault_135 rfl ?_
            refine v_icmp_le 143 g d_Prover_firstFault_137 (by decide) (fun _ => ?_) (fun _ => ?_)
            · refine v_iinc 9 [(8, .int (v8 + (1 : Int32))), (12, .int q4.1), (11, .int x3), (9, .long x2), (0, .ref (E.2.1 21)), (1, .ref (E.2.1 v1)), (2, .int v2), (3, .int v3), (4, .int v4), (5, .int v5)] g d_Prover_firstFault_143 rfl (v := (1 : Int32)) (by decide +kernel) (by decide) rfl ?_
              refine v_goto 15 g d_Prover_firstFault_146 (by decide) ?_
              exact v_sub [4,5,6,7,8,9,0] rfl (hk15 v1 v2 v3 v4 v5 (v8 + (1 : Int32)) hv1 q8.2)
            · refine v_iload 9 g d_Prover_firstFault_140 rfl ?_
              exact v_ret d_Prover_firstFault_142 rfl
        · refine v_aload_n 3 g d_Prover_firstFault_97 rfl ?_
          refine v_iload_n 6 g d_Prover_firstFault_98 rfl ?_
          refine v_iload 7 g d_Prover_firstFault_99 rfl ?_
          refine v_lload 2 g d_Prover_firstFault_101 rfl ?_
          refine v_iload 1 g d_Prover_firstFault_103 rfl ?_
          refine v_iload 0 g d_Prover_firstFault_105 rfl ?_
          refine v_callU (r_V (rest := []) [.int v3, .int v4, .long x2, .int x3, .int q4.1] g (m1 727 (by decide +kernel) (by decide +kernel)) yv_Prover_branch rfl (fun r σ1 h => sp_Prover_branch g.2.2.1  h) rfl rfl (by decide) (Nat.le_of_ble_eq_true rfl) d_Prover_firstFault_107) (fun q9 => ?_)
          refine v_goto 143 g d_Prover_firstFault_110 (by decide) ?_
          refine v_iinc 9 [(8, .int (v8 + (1 : Int32))), (12, .int q4.1), (11, .int x3), (9, .long x2), (0, .ref (E.2.1 21)), (1, .ref (E.2.1 v1)), (2, .int v2), (3, .int v3), (4, .int v4), (5, .int v5)] g d_Prover_firstFault_143 rfl (v := (1 : Int32)) (by decide +kernel) (by decide) rfl ?_
          refine v_goto 15 g d_Prover_firstFault_146 (by decide) ?_
          exact v_sub [4,5,6,7,8,9,0] rfl (hk15 v1 v2 v3 v4 v5 (v8 + (1 : Int32)) hv1 q9.2)
    · refine v_iload 6 g d_Prover_firstFault_31 rfl ?_
      exact v_ret d_Prover_firstFault_33 rfl
def L_Prover_firstFault_15 : Nat → Nat → Int32 → Int32 → Int32 → Int32 → Int32 → Sto → Option (Int32 × Sto)
  | 0, _, _, _, _, _, _, _ => none
  | fu + 1, v1, v2, v3, v4, v5, v8, σ => B_Prover_firstFault_15 (L_Prover_firstFault_15 fu) v1 v2 v3 v4 v5 v8 σ
theorem vL_Prover_firstFault_15 {X : Xt} {E : En} (g : GG X E 6 b_Prover_firstFault R_Prover 13) (fu : Nat) : ∀ (v1 : Nat) (v2 : Int32) (v3 : Int32) (v4 : Int32) (v5 : Int32) (v8 : Int32) (hv1 : cls v1 = 7) (σ : Sto), VV X E b_Prover_firstFault 13 eI 15 [(0, .ref (E.2.1 21)), (1, .ref (E.2.1 v1)), (2, .int v2), (3, .int v3), (4, .int v4), (5, .int v5), (8, .int v8)] [] σ (L_Prover_firstFault_15 fu v1 v2 v3 v4 v5 v8 σ) := by
  induction fu with
  | zero => intros; exact v_none
  | succ fu ih =>
    intro v1 v2 v3 v4 v5 v8 hv1 σ
    exact vB_Prover_firstFault_15 g ih v1 v2 v3 v4 v5 v8 hv1 σ
def B_Prover_firstFault_0 (a1 : Nat) (a2 : Int32) (a3 : Int32) (a4 : Int32) (a5 : Int32) (a6 : Int64) (σ : Sto) : Option (Int32 × Sto) :=
  ((f_Prover_await a6 (0 : Int32) (sI σ 21 7 (0 : Int32))).bind fun q1 => L_Prover_firstFault_15 LF a1 a2 a3 a4 a5 (0 : Int32) q1.2)
set_option maxHeartbeats 4000000 in
set_option maxRecDepth 100000 in
theorem vB_Prover_firstFault_0 {X : Xt} {E : En} (g : GG X E 6 b_Prover_firstFault R_Prover 13) (a1 : Nat) (a2 : Int32) (a3 : Int32) (a4 : Int32) (a5 : Int32) (a6 : Int64) (ha1 : cls a1 = 7) (σ : Sto) : VV X E b_Prover_firstFault 13 eI 0 [(0, .ref (E.2.1 21)), (1, .ref (E.2.1 a1)), (2, .int a2), (3, .int a3), (4, .int a4), (5, .int a5), (6, .long a6)] [] σ (B_Prover_firstFault_0 a1 a2 a3 a4 a5 a6 σ) := by
  unfold B_Prover_firstFault_0
  refine v_aload_n 0 g d_Prover_firstFault_0 rfl ?_
  refine v_iconst (v := (0 : Int32)) g d_Prover_firstFault_1 (by decide +kernel) ?_
  refine v_putI g fp_Prover_29 rfl rfl d_Prover_firstFault_2 ?_
  refine v_aload_n 0 g d_Prover_firstFault_5 rfl ?_
  refine v_lload 6 g d_Prover_firstFault_6 rfl ?_
  refine v_iconst (v := (0 : Int32)) g d_Prover_firstFault_8 (by decide +kernel) ?_
  refine v_callU (r_V (rest := []) [.long a6, .int (0 : Int32)] g (m1 717 (by decide +kernel) (by decide +kernel)) yv_Prover_await rfl (fun r σ1 h => sp_Prover_await g.2.2.1  h) rfl rfl (by decide) (Nat.le_of_ble_eq_true rfl) d_Prover_firstFault_9) (fun q1 => ?_)
  refine v_iconst (v := (0 : Int32)) g d_Prover_firstFault_12 (by decide +kernel) ?_
  refine v_istore [(8, .int (0 : Int32)), (0, .ref (E.2.1 21)), (1, .ref (E.2.1 a1)), (2, .int a2), (3, .int a3), (4, .int a4), (5, .int a5), (6, .long a6)] g d_Prover_firstFault_13 (by decide) rfl ?_
  exact v_sub [1,2,3,4,5,6,0] rfl (vL_Prover_firstFault_15 g LF a1 a2 a3 a4 a5 (0 : Int32) ha1 q1.2)
def f_Prover_firstFault (a1 : Nat) (a2 : Int32) (a3 : Int32) (a4 : Int32) (a5 : Int32) (a6 : Int64) (σ : Sto) : Option (Int32 × Sto) := B_Prover_firstFault_0 a1 a2 a3 a4 a5 a6 σ
theorem sp_Prover_firstFault {l : Launch} {E : En} (hE : Dj E) {a1 : Nat} {a2 : Int32} {a3 : Int32} {a4 : Int32} {a5 : Int32} {a6 : Int64} (ha1 : cls a1 = 7) {σ : Sto} {r : Int32} {σ' : Sto} (h : f_Prover_firstFault a1 a2 a3 a4 a5 a6 σ = some (r, σ')) : Ct l E y_Prover_firstFault (wsM y_Prover_firstFault b_Prover_firstFault 13 (some .int)) 6 [.ref (E.2.1 21), .ref (E.2.1 a1), .int a2, .int a3, .int a4, .int a5, .long a6] σ (eI r) σ' :=
  ct_of hE (by decide +kernel) (Nat.le_of_ble_eq_true rfl) (fun x => Or.inl ⟨rfl, x, rfl⟩) (fun X _ g => vB_Prover_firstFault_0 g a1 a2 a3 a4 a5 a6 ha1 σ) r σ' h
/-! method FittingRings$Sheet.remake(II)V -/
theorem yv_Sheet_remake : YV y_Sheet_remake b_Sheet_remake 3 (none) 2 7 := ⟨m1 771 (by decide +kernel) (by decide +kernel), m1 772 (by decide +kernel) (by decide +kernel), ini_Sheet, m1 773 (by decide +kernel) (by decide +kernel), ⟨by decide +kernel, by decide +kernel, by decide +kernel⟩, by decide, by decide, T_Sheet, 3, rfl⟩
theorem d_Sheet_remake_0 : decode b_Sheet_remake 0 = .ok (.aload_n 0, 1) := by decide +kernel
theorem d_Sheet_remake_1 : decode b_Sheet_remake 1 = .ok (.iload_n 1, 1) := by decide +kernel
theorem d_Sheet_remake_2 : decode b_Sheet_remake 2 = .ok (.putfield 9, 3) := by decide +kernel
theorem d_Sheet_remake_5 : decode b_Sheet_remake 5 = .ok (.aload_n 0, 1) := by decide +kernel
theorem d_Sheet_remake_6 : decode b_Sheet_remake 6 = .ok (.iconst 0, 1) := by decide +kernel
theorem d_Sheet_remake_7 : decode b_Sheet_remake 7 = .ok (.iload_n 2, 1) := by decide +kernel
theorem d_Sheet_remake_8 : decode b_Sheet_remake 8 = .ok (.bipush 60, 2) := by decide +kernel
theorem d_Sheet_remake_10 : decode b_Sheet_remake 10 = .ok (.invokestatic 22, 3) := by decide +kernel
theorem d_Sheet_remake_13 : decode b_Sheet_remake 13 = .ok (.invokestatic 28, 3) := by decide +kernel
theorem d_Sheet_remake_16 : decode b_Sheet_remake 16 = .ok (.putfield 15, 3) := by decide +kernel
theorem d_Sheet_remake_19 : decode b_Sheet_remake 19 = .ok (.aload_n 0, 1) := by decide +kernel
theorem d_Sheet_remake_20 : decode b_Sheet_remake 20 = .ok (.getfield 18, 3) := by decide +kernel
theorem d_Sheet_remake_23 : decode b_Sheet_remake 23 = .ok (.iconst 0, 1) := by decide +kernel
theorem d_Sheet_remake_24 : decode b_Sheet_remake 24 = .ok (.invokestatic 31, 3) := by decide +kernel
theorem d_Sheet_remake_27 : decode b_Sheet_remake 27 = .ok (.return_, 1) := by decide +kernel
def B_Sheet_remake_0 (n0 : Nat) (a1 : Int32) (a2 : Int32) (σ : Sto) : Option (Unit × Sto) :=
  (lt1 (sI (sI σ n0 0 a1) n0 1 (mxI (0 : Int32) (mnI a2 (60 : Int32)))) fun σ1 => ((f_JArrays_fill (n0 + 1) (0 : Int32) σ1).bind fun q2 => some ((), q2.2)))
set_option maxHeartbeats 4000000 in
set_option maxRecDepth 100000 in
theorem vB_Sheet_remake_0 {X : Xt} {E : En} (g : GG X E 2 b_Sheet_remake R_Sheet 3) (n0 : Nat) (a1 : Int32) (a2 : Int32) (hn0 : cls n0 = 7) (σ : Sto) : VV X E b_Sheet_remake 3 eU 0 [(0, .ref (E.2.1 n0)), (1, .int a1), (2, .int a2)] [] σ (B_Sheet_remake_0 n0 a1 a2 σ) := by
  unfold B_Sheet_remake_0
  refine v_aload_n 0 g d_Sheet_remake_0 rfl ?_
  refine v_iload_n 1 g d_Sheet_remake_1 rfl ?_
  refine v_putI g fp_Sheet_9 hn0 rfl d_Sheet_remake_2 ?_
  refine v_aload_n 0 g d_Sheet_remake_5 rfl ?_
  refine v_iconst (v := (0 : Int32)) g d_Sheet_remake_6 (by decide +kernel) ?_
  refine v_iload_n 2 g d_Sheet_remake_7 rfl ?_
  refine v_bipush (v := (60 : Int32)) g d_Sheet_remake_8 (by decide +kernel) ?_
  refine v_mmin g (m1 774 (by decide +kernel) (by decide +kernel)) (by decide) (Nat.le_of_ble_eq_true rfl) d_Sheet_remake_10 ?_
  refine v_mmax g (m1 775 (by decide +kernel) (by decide +kernel)) (by decide) (Nat.le_of_ble_eq_true rfl) d_Sheet_remake_13 ?_
  refine v_putI g fp_Sheet_15 hn0 rfl d_Sheet_remake_16 ?_
  refine v_nlet (fun σ1 eσ1 => ?_)
  rw [← eσ1]
  refine v_aload_n 0 g d_Sheet_remake_19 rfl ?_
  refine v_getR (n0 + 1) g ff_Sheet_18 hn0 rfl (rf_Sheet_2 hn0) d_Sheet_remake_20 ?_
  refine v_iconst (v := (0 : Int32)) g d_Sheet_remake_23 (by decide +kernel) ?_
  refine v_callU (r_S (rest := []) [.ref (E.2.1 (n0 + 1)), .int (0 : Int32)] g (m1 776 (by decide +kernel) (by decide +kernel)) ys_JArrays_fill (fun r σ1 h => sp_JArrays_fill g.2.2.1 (ar_Sheet_2 hn0).1 h) rfl rfl (by decide) (Nat.le_of_ble_eq_true rfl) d_Sheet_remake_24) (fun q2 => ?_)
  exact v_ret d_Sheet_remake_27 rfl
def f_Sheet_remake (n0 : Nat) (a1 : Int32) (a2 : Int32) (σ : Sto) : Option (Unit × Sto) := B_Sheet_remake_0 n0 a1 a2 σ
theorem sp_Sheet_remake {l : Launch} {E : En} (hE : Dj E) {n0 : Nat} {a1 : Int32} {a2 : Int32} (hn0 : cls n0 = 7) {σ : Sto} {r : Unit} {σ' : Sto} (h : f_Sheet_remake n0 a1 a2 σ = some (r, σ')) : Ct l E y_Sheet_remake (wsM y_Sheet_remake b_Sheet_remake 3 (none)) 2 [.ref (E.2.1 n0), .int a1, .int a2] σ (eU r) σ' :=
  ct_of hE (by decide +kernel) (Nat.le_of_ble_eq_true rfl) (fun _ => Or.inr (Or.inr (Or.inr (Or.inl ⟨rfl, rfl⟩)))) (fun X _ g => vB_Sheet_remake_0 g n0 a1 a2 hn0 σ) r σ' h
/-! method FittingRings$Sheet.put(II)I -/
theorem yv_Sheet_put : YV y_Sheet_put b_Sheet_put 3 (some .int) 2 7 := ⟨m1 780 (by decide +kernel) (by decide +kernel), m1 781 (by decide +kernel) (by decide +kernel), ini_Sheet, m1 782 (by decide +kernel) (by decide +kernel), ⟨by decide +kernel, by decide +kernel, by decide +kernel⟩, by decide, by decide, T_Sheet, 3, rfl⟩
theorem d_Sheet_put_0 : decode b_Sheet_put 0 = .ok (.aload_n 0, 1) := by decide +kernel
theorem d_Sheet_put_1 : decode b_Sheet_put 1 = .ok (.iload_n 1, 1) := by decide +kernel
theorem d_Sheet_put_2 : decode b_Sheet_put 2 = .ok (.iconst 1, 1) := by decide +kernel
theorem d_Sheet_put_3 : decode b_Sheet_put 3 = .ok (.invokevirtual 37, 3) := by decide +kernel
theorem d_Sheet_put_6 : decode b_Sheet_put 6 = .ok (.ifCond .ne 6, 3) := by decide +kernel
theorem d_Sheet_put_9 : decode b_Sheet_put 9 = .ok (.bipush (-12), 2) := by decide +kernel
theorem d_Sheet_put_11 : decode b_Sheet_put 11 = .ok (.ireturn, 1) := by decide +kernel
theorem d_Sheet_put_12 : decode b_Sheet_put 12 = .ok (.aload_n 0, 1) := by decide +kernel
theorem d_Sheet_put_13 : decode b_Sheet_put 13 = .ok (.getfield 18, 3) := by decide +kernel
theorem d_Sheet_put_16 : decode b_Sheet_put 16 = .ok (.iload_n 1, 1) := by decide +kernel
theorem d_Sheet_put_17 : decode b_Sheet_put 17 = .ok (.aload_n 0, 1) := by decide +kernel
theorem d_Sheet_put_18 : decode b_Sheet_put 18 = .ok (.getfield 9, 3) := by decide +kernel
theorem d_Sheet_put_21 : decode b_Sheet_put 21 = .ok (.ifCond .ne 8, 3) := by decide +kernel
theorem d_Sheet_put_24 : decode b_Sheet_put 24 = .ok (.iload_n 2, 1) := by decide +kernel
theorem d_Sheet_put_25 : decode b_Sheet_put 25 = .ok (.i2b, 1) := by decide +kernel
theorem d_Sheet_put_26 : decode b_Sheet_put 26 = .ok (.goto 17, 3) := by decide +kernel
theorem d_Sheet_put_29 : decode b_Sheet_put 29 = .ok (.aload_n 0, 1) := by decide +kernel
theorem d_Sheet_put_30 : decode b_Sheet_put 30 = .ok (.getfield 9, 3) := by decide +kernel
theorem d_Sheet_put_33 : decode b_Sheet_put 33 = .ok (.iconst 1, 1) := by decide +kernel
theorem d_Sheet_put_34 : decode b_Sheet_put 34 = .ok (.if_icmp .ne 8, 3) := by decide +kernel
theorem d_Sheet_put_37 : decode b_Sheet_put 37 = .ok (.iload_n 2, 1) := by decide +kernel
theorem d_Sheet_put_38 : decode b_Sheet_put 38 = .ok (.i2s, 1) := by decide +kernel
theorem d_Sheet_put_39 : decode b_Sheet_put 39 = .ok (.goto 4, 3) := by decide +kernel
theorem d_Sheet_put_42 : decode b_Sheet_put 42 = .ok (.iload_n 2, 1) := by decide +kernel
theorem d_Sheet_put_43 : decode b_Sheet_put 43 = .ok (.iastore, 1) := by decide +kernel
theorem d_Sheet_put_44 : decode b_Sheet_put 44 = .ok (.aload_n 0, 1) := by decide +kernel
theorem d_Sheet_put_45 : decode b_Sheet_put 45 = .ok (.getfield 18, 3) := by decide +kernel
theorem d_Sheet_put_48 : decode b_Sheet_put 48 = .ok (.iload_n 1, 1) := by decide +kernel
theorem d_Sheet_put_49 : decode b_Sheet_put 49 = .ok (.iaload, 1) := by decide +kernel
theorem d_Sheet_put_50 : decode b_Sheet_put 50 = .ok (.ireturn, 1) := by decide +kernel
def B_Sheet_put_0 (n0 : Nat) (a1 : Int32) (a2 : Int32) (σ : Sto) : Option (Int32 × Sto) :=
  ((f_Sheet_hasRoom n0 a1 (1 : Int32) σ).bind fun q1 => (if (b2i q1.1) = 0 then some ((-12 : Int32), q1.2)
 else (if (gI q1.2 n0 0) = 0 then (if inb a1 60 = true then (if inb a1 60 = true then some ((gI (sI q1.2 (n0 + 1) (Int32.toNatClampNeg a1) (i2b a2)) (n0 + 1) (Int32.toNatClampNeg a1)), (sI q1.2 (n0 + 1) (Int32.toNatClampNeg a1) (i2b a2))) else none) else none)
  else (if (gI q1.2 n0 0) = (1 : Int32) then (if inb a1 60 = true then (if inb a1 60 = true then some ((gI (sI q1.2 (n0 + 1) (Int32.toNatClampNeg a1) (i2s a2)) (n0 + 1) (Int32.toNatClampNeg a1)), (sI q1.2 (n0 + 1) (Int32.toNatClampNeg a1) (i2s a2))) else none) else none)
   else (if inb a1 60 = true then (if inb a1 60 = true then some ((gI (sI q1.2 (n0 + 1) (Int32.toNatClampNeg a1) a2) (n0 + 1) (Int32.toNatClampNeg a1)), (sI q1.2 (n0 + 1) (Int32.toNatClampNeg a1) a2)) else none) else none)))))
set_option maxHeartbeats 4000000 in
set_option maxRecDepth 100000 in
theorem vB_Sheet_put_0 {X : Xt} {E : En} (g : GG X E 2 b_Sheet_put R_Sheet 3) (n0 : Nat) (a1 : Int32) (a2 : Int32) (hn0 : cls n0 = 7) (σ : Sto) : VV X E b_Sheet_put 3 eI 0 [(0, .ref (E.2.1 n0)), (1, .int a1), (2, .int a2)] [] σ (B_Sheet_put_0 n0 a1 a2 σ) := by
  unfold B_Sheet_put_0
  refine v_aload_n 0 g d_Sheet_put_0 rfl ?_
  refine v_iload_n 1 g d_Sheet_put_1 rfl ?_
  refine v_iconst (v := (1 : Int32)) g d_Sheet_put_2 (by decide +kernel) ?_
  refine v_callB (r_V (rest := []) [.int a1, .int (1 : Int32)] g (m1 760 (by decide +kernel) (by decide +kernel)) yv_Sheet_hasRoom hn0 (fun r σ1 h => sp_Sheet_hasRoom g.2.2.1 hn0 h) rfl rfl (by decide) (Nat.le_of_ble_eq_true rfl) d_Sheet_put_3) (fun q1 => ?_)
  refine v_if_ne 12 g d_Sheet_put_6 (by decide) (fun _ => ?_) (fun _ => ?_)
  · refine v_aload_n 0 g d_Sheet_put_12 rfl ?_
    refine v_getR (n0 + 1) g ff_Sheet_18 hn0 rfl (rf_Sheet_2 hn0) d_Sheet_put_13 ?_
    refine v_iload_n 1 g d_Sheet_put_16 rfl ?_
    refine v_aload_n 0 g d_Sheet_put_17 rfl ?_
    refine v_getI g ff_Sheet_9 hn0 rfl d_Sheet_put_18 ?_
    refine v_if_ne 29 g d_Sheet_put_21 (by decide) (fun _ => ?_) (fun _ => ?_)
    · refine v_aload_n 0 g d_Sheet_put_29 rfl ?_
      refine v_getI g ff_Sheet_9 hn0 rfl d_Sheet_put_30 ?_
      refine v_iconst (v := (1 : Int32)) g d_Sheet_put_33 (by decide +kernel) ?_
      refine v_icmp_ne 42 g d_Sheet_put_34 (by decide) (fun _ => ?_) (fun _ => ?_)
      · refine v_iload_n 2 g d_Sheet_put_42 rfl ?_
        refine v_iast g (ar_Sheet_2 hn0).1 (ar_Sheet_2 hn0).2 d_Sheet_put_43 (fun _ => ?_)
        refine v_aload_n 0 g d_Sheet_put_44 rfl ?_
        refine v_getR (n0 + 1) g ff_Sheet_18 hn0 rfl (rf_Sheet_2 hn0) d_Sheet_put_45 ?_
        refine v_iload_n 1 g d_Sheet_put_48 rfl ?_
        refine v_iald g (ar_Sheet_2 hn0).1 (ar_Sheet_2 hn0).2 d_Sheet_put_49 (fun _ => ?_)
        exact v_ret d_Sheet_put_50 rfl
      · refine v_iload_n 2 g d_Sheet_put_37 rfl ?_
        refine v_i2s g d_Sheet_put_38 ?_
        refine v_goto 43 g d_Sheet_put_39 (by decide) ?_
        refine v_iast g (ar_Sheet_2 hn0).1 (ar_Sheet_2 hn0).2 d_Sheet_put_43 (fun _ => ?_)
        refine v_aload_n 0 g d_Sheet_put_44 rfl ?_
        refine v_getR (n0 + 1) g ff_Sheet_18 hn0 rfl (rf_Sheet_2 hn0) d_Sheet_put_45 ?_
        refine v_iload_n 1 g d_Sheet_put_48 rfl ?_
        refine v_iald g (ar_Sheet_2 hn0).1 (ar_Sheet_2 hn0).2 d_Sheet_put_49 (fun _ => ?_)
        exact v_ret d_Sheet_put_50 rfl
    · refine v_iload_n 2 g d_Sheet_put_24 rfl ?_
      refine v_i2b g d_Sheet_put_25 ?_
      refine v_goto 43 g d_Sheet_put_26 (by decide) ?_
      refine v_iast g (ar_Sheet_2 hn0).1 (ar_Sheet_2 hn0).2 d_Sheet_put_43 (fun _ => ?_)
      refine v_aload_n 0 g d_Sheet_put_44 rfl ?_
      refine v_getR (n0 + 1) g ff_Sheet_18 hn0 rfl (rf_Sheet_2 hn0) d_Sheet_put_45 ?_
      refine v_iload_n 1 g d_Sheet_put_48 rfl ?_
      refine v_iald g (ar_Sheet_2 hn0).1 (ar_Sheet_2 hn0).2 d_Sheet_put_49 (fun _ => ?_)
      exact v_ret d_Sheet_put_50 rfl
  · refine v_bipush (v := (-12 : Int32)) g d_Sheet_put_9 (by decide +kernel) ?_
    exact v_ret d_Sheet_put_11 rfl
def f_Sheet_put (n0 : Nat) (a1 : Int32) (a2 : Int32) (σ : Sto) : Option (Int32 × Sto) := B_Sheet_put_0 n0 a1 a2 σ
theorem sp_Sheet_put {l : Launch} {E : En} (hE : Dj E) {n0 : Nat} {a1 : Int32} {a2 : Int32} (hn0 : cls n0 = 7) {σ : Sto} {r : Int32} {σ' : Sto} (h : f_Sheet_put n0 a1 a2 σ = some (r, σ')) : Ct l E y_Sheet_put (wsM y_Sheet_put b_Sheet_put 3 (some .int)) 2 [.ref (E.2.1 n0), .int a1, .int a2] σ (eI r) σ' :=
  ct_of hE (by decide +kernel) (Nat.le_of_ble_eq_true rfl) (fun x => Or.inl ⟨rfl, x, rfl⟩) (fun X _ g => vB_Sheet_put_0 g n0 a1 a2 hn0 σ) r σ' h
/-! method FittingRings$Sheet.alike(IJ)J -/
theorem yv_Sheet_alike : YV y_Sheet_alike b_Sheet_alike 7 (some .long) 2 7 := ⟨m1 788 (by decide +kernel) (by decide +kernel), m1 789 (by decide +kernel) (by decide +kernel), ini_Sheet, m1 790 (by decide +kernel) (by decide +kernel), ⟨by decide +kernel, by decide +kernel, by decide +kernel⟩, by decide, by decide, T_Sheet, 3, rfl⟩
theorem d_Sheet_alike_0 : decode b_Sheet_alike 0 = .ok (.lconst 0, 1) := by decide +kernel
theorem d_Sheet_alike_1 : decode b_Sheet_alike 1 = .ok (.lstore 4, 2) := by decide +kernel
theorem d_Sheet_alike_3 : decode b_Sheet_alike 3 = .ok (.iconst 0, 1) := by decide +kernel
theorem d_Sheet_alike_4 : decode b_Sheet_alike 4 = .ok (.istore 6, 2) := by decide +kernel
theorem d_Sheet_alike_6 : decode b_Sheet_alike 6 = .ok (.iload 6, 2) := by decide +kernel
theorem d_Sheet_alike_8 : decode b_Sheet_alike 8 = .ok (.aload_n 0, 1) := by decide +kernel
theorem d_Sheet_alike_9 : decode b_Sheet_alike 9 = .ok (.getfield 15, 3) := by decide +kernel
theorem d_Sheet_alike_12 : decode b_Sheet_alike 12 = .ok (.if_icmp .ge 49, 3) := by decide +kernel
theorem d_Sheet_alike_15 : decode b_Sheet_alike 15 = .ok (.iload 6, 2) := by decide +kernel
theorem d_Sheet_alike_17 : decode b_Sheet_alike 17 = .ok (.bipush 40, 2) := by decide +kernel
theorem d_Sheet_alike_19 : decode b_Sheet_alike 19 = .ok (.if_icmp .ge 42, 3) := by decide +kernel
theorem d_Sheet_alike_22 : decode b_Sheet_alike 22 = .ok (.lload_n 2, 1) := by decide +kernel
theorem d_Sheet_alike_23 : decode b_Sheet_alike 23 = .ok (.iload 6, 2) := by decide +kernel
theorem d_Sheet_alike_25 : decode b_Sheet_alike 25 = .ok (.invokestatic 41, 3) := by decide +kernel
theorem d_Sheet_alike_28 : decode b_Sheet_alike 28 = .ok (.ifCond .eq 27, 3) := by decide +kernel
theorem d_Sheet_alike_31 : decode b_Sheet_alike 31 = .ok (.aload_n 0, 1) := by decide +kernel
theorem d_Sheet_alike_32 : decode b_Sheet_alike 32 = .ok (.getfield 18, 3) := by decide +kernel
theorem d_Sheet_alike_35 : decode b_Sheet_alike 35 = .ok (.iload 6, 2) := by decide +kernel
theorem d_Sheet_alike_37 : decode b_Sheet_alike 37 = .ok (.iaload, 1) := by decide +kernel
theorem d_Sheet_alike_38 : decode b_Sheet_alike 38 = .ok (.aload_n 0, 1) := by decide +kernel
theorem d_Sheet_alike_39 : decode b_Sheet_alike 39 = .ok (.iload_n 1, 1) := by decide +kernel
theorem d_Sheet_alike_40 : decode b_Sheet_alike 40 = .ok (.invokevirtual 45, 3) := by decide +kernel
theorem d_Sheet_alike_43 : decode b_Sheet_alike 43 = .ok (.if_icmp .ne 12, 3) := by decide +kernel
theorem d_Sheet_alike_46 : decode b_Sheet_alike 46 = .ok (.lload 4, 2) := by decide +kernel
theorem d_Sheet_alike_48 : decode b_Sheet_alike 48 = .ok (.lconst 1, 1) := by decide +kernel
theorem d_Sheet_alike_49 : decode b_Sheet_alike 49 = .ok (.iload 6, 2) := by decide +kernel
theorem d_Sheet_alike_51 : decode b_Sheet_alike 51 = .ok (.lshl, 1) := by decide +kernel
theorem d_Sheet_alike_52 : decode b_Sheet_alike 52 = .ok (.lor, 1) := by decide +kernel
theorem d_Sheet_alike_53 : decode b_Sheet_alike 53 = .ok (.lstore 4, 2) := by decide +kernel
theorem d_Sheet_alike_55 : decode b_Sheet_alike 55 = .ok (.iinc 6 1, 3) := by decide +kernel
theorem d_Sheet_alike_58 : decode b_Sheet_alike 58 = .ok (.goto (-52), 3) := by decide +kernel
theorem d_Sheet_alike_61 : decode b_Sheet_alike 61 = .ok (.lload 4, 2) := by decide +kernel
theorem d_Sheet_alike_63 : decode b_Sheet_alike 63 = .ok (.lreturn, 1) := by decide +kernel
def B_Sheet_alike_6 (k6 : Nat → Int32 → Int64 → Int64 → Int32 → Sto → Option (Int64 × Sto)) (v0 : Nat) (v1 : Int32) (v2 : Int64) (v4 : Int64) (v6 : Int32) (σ : Sto) : Option (Int64 × Sto) :=
  (if (gI σ v0 1) ≤ v6 then some (v4, σ)
 else (if (40 : Int32) ≤ v6 then some (v4, σ)
  else ((f_FR_isOf v2 v6 σ).bind fun q1 => (if (b2i q1.1) = 0 then k6 v0 v1 v2 v4 (v6 + (1 : Int32)) q1.2
   else (if inb v6 60 = true then ((f_Sheet_at v0 v1 q1.2).bind fun q2 => (if (gI q1.2 (v0 + 1) (Int32.toNatClampNeg v6)) = q2.1 then (lt1 (v4 ||| (lsh (1 : Int64) v6)) fun x3 => k6 v0 v1 v2 x3 (v6 + (1 : Int32)) q2.2)
    else k6 v0 v1 v2 v4 (v6 + (1 : Int32)) q2.2)) else none)))))
set_option maxHeartbeats 4000000 in
set_option maxRecDepth 100000 in
theorem vB_Sheet_alike_6 {X : Xt} {E : En} (g : GG X E 3 b_Sheet_alike R_Sheet 7) {k6 : Nat → Int32 → Int64 → Int64 → Int32 → Sto → Option (Int64 × Sto)} (hk6 : ∀ (v0 : Nat) (v1 : Int32) (v2 : Int64) (v4 : Int64) (v6 : Int32) (hv0 : cls v0 = 7) (σ : Sto), VV X E b_Sheet_alike 7 eL 6 [(0, .ref (E.2.1 v0)), (1, .int v1), (2, .long v2), (4, .long v4), (6, .int v6)] [] σ (k6 v0 v1 v2 v4 v6 σ)) (v0 : Nat) (v1 : Int32) (v2 : Int64) (v4 : Int64) (v6 : Int32) (hv0 : cls v0 = 7) (σ : Sto) : VV X E b_Sheet_alike 7 eL 6 [(0, .ref (E.2.1 v0)), (1, .int v1), (2, .long v2), (4, .long v4), (6, .int v6)] [] σ (B_Sheet_alike_6 k6 v0 v1 v2 v4 v6 σ) := by
  unfold B_Sheet_alike_6
  refine v_iload 4 g d_Sheet_alike_6 rfl ?_
  refine v_aload_n 0 g d_Sheet_alike_8 rfl ?_
  refine v_getI g ff_Sheet_15 hv0 rfl d_Sheet_alike_9 ?_
  refine v_icmp_ge 61 g d_Sheet_alike_12 (by decide) (fun _ => ?_) (fun _ => ?_)
  · refine v_lload 3 g d_Sheet_alike_61 rfl ?_
    exact v_ret d_Sheet_alike_63 rfl
  · refine v_iload 4 g d_Sheet_alike_15 rfl ?_
    refine v_bipush (v := (40 : Int32)) g d_Sheet_alike_17 (by decide +kernel) ?_
    refine v_icmp_ge 61 g d_Sheet_alike_19 (by decide) (fun _ => ?_) (fun _ => ?_)
    · refine v_lload 3 g d_Sheet_alike_61 rfl ?_
      exact v_ret d_Sheet_alike_63 rfl
    · refine v_lload_n 2 g d_Sheet_alike_22 rfl ?_
      refine v_iload 4 g d_Sheet_alike_23 rfl ?_
      refine v_callB (r_SN (rest := []) (host := R_FR) [.long v2, .int v6] g (by decide +kernel) ys_FR_isOf (fun r σ1 h => sp_FR_isOf g.2.2.1  h) rfl rfl (by decide) (Nat.le_of_ble_eq_true rfl) d_Sheet_alike_25) (fun q1 => ?_)
      refine v_if_eq 55 g d_Sheet_alike_28 (by decide) (fun _ => ?_) (fun _ => ?_)
      · refine v_iinc 4 [(6, .int (v6 + (1 : Int32))), (0, .ref (E.2.1 v0)), (1, .int v1), (2, .long v2), (4, .long v4)] g d_Sheet_alike_55 rfl (v := (1 : Int32)) (by decide +kernel) (by decide) rfl ?_
        refine v_goto 6 g d_Sheet_alike_58 (by decide) ?_
        exact v_sub [1,2,3,4,0] rfl (hk6 v0 v1 v2 v4 (v6 + (1 : Int32)) hv0 q1.2)
      · refine v_aload_n 0 g d_Sheet_alike_31 rfl ?_
        refine v_getR (v0 + 1) g ff_Sheet_18 hv0 rfl (rf_Sheet_2 hv0) d_Sheet_alike_32 ?_
        refine v_iload 4 g d_Sheet_alike_35 rfl ?_
        refine v_iald g (ar_Sheet_2 hv0).1 (ar_Sheet_2 hv0).2 d_Sheet_alike_37 (fun _ => ?_)
        refine v_aload_n 0 g d_Sheet_alike_38 rfl ?_
        refine v_iload_n 1 g d_Sheet_alike_39 rfl ?_
        refine v_callI (r_V (rest := [.int (gI q1.2 (v0 + 1) (Int32.toNatClampNeg v6))]) [.int v1] g (m1 792 (by decide +kernel) (by decide +kernel)) yv_Sheet_at hv0 (fun r σ1 h => sp_Sheet_at g.2.2.1 hv0 h) rfl rfl (by decide) (Nat.le_of_ble_eq_true rfl) d_Sheet_alike_40) (fun q2 => ?_)
        refine v_icmp_ne 55 g d_Sheet_alike_43 (by decide) (fun _ => ?_) (fun _ => ?_)
        · refine v_iinc 4 [(6, .int (v6 + (1 : Int32))), (0, .ref (E.2.1 v0)), (1, .int v1), (2, .long v2), (4, .long v4)] g d_Sheet_alike_55 rfl (v := (1 : Int32)) (by decide +kernel) (by decide) rfl ?_
          refine v_goto 6 g d_Sheet_alike_58 (by decide) ?_
          exact v_sub [1,2,3,4,0] rfl (hk6 v0 v1 v2 v4 (v6 + (1 : Int32)) hv0 q2.2)
        · refine v_lload 3 g d_Sheet_alike_46 rfl ?_
          refine v_lconst (v := (1 : Int64)) g d_Sheet_alike_48 (by decide +kernel) ?_
          refine v_iload 4 g d_Sheet_alike_49 rfl ?_
          refine v_lshl g d_Sheet_alike_51 ?_
          refine v_lor g d_Sheet_alike_52 ?_
          refine v_nlet (fun x3 ex3 => ?_)
          rw [← ex3]
          refine v_lstore [(4, .long x3), (0, .ref (E.2.1 v0)), (1, .int v1), (2, .long v2), (6, .int v6)] g d_Sheet_alike_53 (by decide) rfl ?_
          refine v_iinc 4 [(6, .int (v6 + (1 : Int32))), (4, .long x3), (0, .ref (E.2.1 v0)), (1, .int v1), (2, .long v2)] g d_Sheet_alike_55 rfl (v := (1 : Int32)) (by decide +kernel) (by decide) rfl ?_
          refine v_goto 6 g d_Sheet_alike_58 (by decide) ?_
          exact v_sub [2,3,4,1,0] rfl (hk6 v0 v1 v2 x3 (v6 + (1 : Int32)) hv0 q2.2)
def L_Sheet_alike_6 : Nat → Nat → Int32 → Int64 → Int64 → Int32 → Sto → Option (Int64 × Sto)
  | 0, _, _, _, _, _, _ => none
  | fu + 1, v0, v1, v2, v4, v6, σ => B_Sheet_alike_6 (L_Sheet_alike_6 fu) v0 v1 v2 v4 v6 σ
theorem vL_Sheet_alike_6 {X : Xt} {E : En} (g : GG X E 3 b_Sheet_alike R_Sheet 7) (fu : Nat) : ∀ (v0 : Nat) (v1 : Int32) (v2 : Int64) (v4 : Int64) (v6 : Int32) (hv0 : cls v0 = 7) (σ : Sto), VV X E b_Sheet_alike 7 eL 6 [(0, .ref (E.2.1 v0)), (1, .int v1), (2, .long v2), (4, .long v4), (6, .int v6)] [] σ (L_Sheet_alike_6 fu v0 v1 v2 v4 v6 σ) := by
  induction fu with
  | zero => intros; exact v_none
  | succ fu ih =>
    intro v0 v1 v2 v4 v6 hv0 σ
    exact vB_Sheet_alike_6 g ih v0 v1 v2 v4 v6 hv0 σ
def B_Sheet_alike_0 (n0 : Nat) (a1 : Int32) (a2 : Int64) (σ : Sto) : Option (Int64 × Sto) :=
  L_Sheet_alike_6 LF n0 a1 a2 (0 : Int64) (0 : Int32) σ
set_option maxHeartbeats 4000000 in
set_option maxRecDepth 100000 in
theorem vB_Sheet_alike_0 {X : Xt} {E : En} (g : GG X E 3 b_Sheet_alike R_Sheet 7) (n0 : Nat) (a1 : Int32) (a2 : Int64) (hn0 : cls n0 = 7) (σ : Sto) : VV X E b_Sheet_alike 7 eL 0 [(0, .ref (E.2.1 n0)), (1, .int a1), (2, .long a2)] [] σ (B_Sheet_alike_0 n0 a1 a2 σ) := by
  unfold B_Sheet_alike_0
  refine v_lconst (v := (0 : Int64)) g d_Sheet_alike_0 (by decide +kernel) ?_
  refine v_lstore [(4, .long (0 : Int64)), (0, .ref (E.2.1 n0)), (1, .int a1), (2, .long a2)] g d_Sheet_alike_1 (by decide) rfl ?_
  refine v_iconst (v := (0 : Int32)) g d_Sheet_alike_3 (by decide +kernel) ?_
  refine v_istore [(6, .int (0 : Int32)), (4, .long (0 : Int64)), (0, .ref (E.2.1 n0)), (1, .int a1), (2, .long a2)] g d_Sheet_alike_4 (by decide) rfl ?_
  exact v_sub [2,3,4,1,0] rfl (vL_Sheet_alike_6 g LF n0 a1 a2 (0 : Int64) (0 : Int32) hn0 σ)
def f_Sheet_alike (n0 : Nat) (a1 : Int32) (a2 : Int64) (σ : Sto) : Option (Int64 × Sto) := B_Sheet_alike_0 n0 a1 a2 σ
theorem sp_Sheet_alike {l : Launch} {E : En} (hE : Dj E) {n0 : Nat} {a1 : Int32} {a2 : Int64} (hn0 : cls n0 = 7) {σ : Sto} {r : Int64} {σ' : Sto} (h : f_Sheet_alike n0 a1 a2 σ = some (r, σ')) : Ct l E y_Sheet_alike (wsM y_Sheet_alike b_Sheet_alike 7 (some .long)) 3 [.ref (E.2.1 n0), .int a1, .long a2] σ (eL r) σ' :=
  ct_of hE (by decide +kernel) (Nat.le_of_ble_eq_true rfl) (fun x => Or.inr (Or.inr (Or.inl ⟨rfl, x, rfl⟩))) (fun X _ g => vB_Sheet_alike_0 g n0 a1 a2 hn0 σ) r σ' h
/-! method FittingRings$Lot.draw()I -/
theorem yv_Lot_draw : YV y_Lot_draw b_Lot_draw 1 (some .int) 0 3 := ⟨m1 957 (by decide +kernel) (by decide +kernel), m1 958 (by decide +kernel) (by decide +kernel), ini_Lot, m1 959 (by decide +kernel) (by decide +kernel), ⟨by decide +kernel, by decide +kernel, by decide +kernel⟩, by decide, by decide, T_Lot, 1, rfl⟩
theorem d_Lot_draw_0 : decode b_Lot_draw 0 = .ok (.aload_n 0, 1) := by decide +kernel
theorem d_Lot_draw_1 : decode b_Lot_draw 1 = .ok (.aload_n 0, 1) := by decide +kernel
theorem d_Lot_draw_2 : decode b_Lot_draw 2 = .ok (.getfield 7, 3) := by decide +kernel
theorem d_Lot_draw_5 : decode b_Lot_draw 5 = .ok (.ldc 13, 2) := by decide +kernel
theorem d_Lot_draw_7 : decode b_Lot_draw 7 = .ok (.imul, 1) := by decide +kernel
theorem d_Lot_draw_8 : decode b_Lot_draw 8 = .ok (.sipush 12345, 3) := by decide +kernel
theorem d_Lot_draw_11 : decode b_Lot_draw 11 = .ok (.iadd, 1) := by decide +kernel
theorem d_Lot_draw_12 : decode b_Lot_draw 12 = .ok (.putfield 7, 3) := by decide +kernel
theorem d_Lot_draw_15 : decode b_Lot_draw 15 = .ok (.aload_n 0, 1) := by decide +kernel
theorem d_Lot_draw_16 : decode b_Lot_draw 16 = .ok (.getfield 7, 3) := by decide +kernel
theorem d_Lot_draw_19 : decode b_Lot_draw 19 = .ok (.bipush 8, 2) := by decide +kernel
theorem d_Lot_draw_21 : decode b_Lot_draw 21 = .ok (.iushr, 1) := by decide +kernel
theorem d_Lot_draw_22 : decode b_Lot_draw 22 = .ok (.ireturn, 1) := by decide +kernel
def B_Lot_draw_0 (σ : Sto) : Option (Int32 × Sto) :=
  (lt1 (sI σ 33 0 (((gI σ 33 0) * (1103515245 : Int32)) + (12345 : Int32))) fun σ1 => some ((iur (gI σ1 33 0) (8 : Int32)), σ1))
set_option maxHeartbeats 4000000 in
set_option maxRecDepth 100000 in
theorem vB_Lot_draw_0 {X : Xt} {E : En} (g : GG X E 1 b_Lot_draw R_Lot 1) (σ : Sto) : VV X E b_Lot_draw 1 eI 0 [(0, .ref (E.2.1 33))] [] σ (B_Lot_draw_0 σ) := by
  unfold B_Lot_draw_0
  refine v_aload_n 0 g d_Lot_draw_0 rfl ?_
  refine v_aload_n 0 g d_Lot_draw_1 rfl ?_
  refine v_getI g ff_Lot_7 rfl rfl d_Lot_draw_2 ?_
  refine v_ldc (v := (1103515245 : Int32)) g (m1 960 (by decide +kernel) (by decide +kernel)) d_Lot_draw_5 ?_
  refine v_imul g d_Lot_draw_7 ?_
  refine v_sipush (v := (12345 : Int32)) g d_Lot_draw_8 (by decide +kernel) ?_
  refine v_iadd g d_Lot_draw_11 ?_
  refine v_putI g fp_Lot_7 rfl rfl d_Lot_draw_12 ?_
  refine v_nlet (fun σ1 eσ1 => ?_)
  rw [← eσ1]
  refine v_aload_n 0 g d_Lot_draw_15 rfl ?_
  refine v_getI g ff_Lot_7 rfl rfl d_Lot_draw_16 ?_
  refine v_bipush (v := (8 : Int32)) g d_Lot_draw_19 (by decide +kernel) ?_
  refine v_iushr g d_Lot_draw_21 ?_
  exact v_ret d_Lot_draw_22 rfl
def f_Lot_draw (σ : Sto) : Option (Int32 × Sto) := B_Lot_draw_0 σ
theorem sp_Lot_draw {l : Launch} {E : En} (hE : Dj E) {σ : Sto} {r : Int32} {σ' : Sto} (h : f_Lot_draw σ = some (r, σ')) : Ct l E y_Lot_draw (wsM y_Lot_draw b_Lot_draw 1 (some .int)) 1 [.ref (E.2.1 33)] σ (eI r) σ' :=
  ct_of hE (by decide +kernel) (Nat.le_of_ble_eq_true rfl) (fun x => Or.inl ⟨rfl, x, rfl⟩) (fun X _ g => vB_Lot_draw_0 g σ) r σ' h
/-! method FittingRings$Lot.tieAhead(LFittingRings$Net;II)V -/
theorem yv_Lot_tieAhead : YV y_Lot_tieAhead b_Lot_tieAhead 5 (none) 3 3 := ⟨m1 962 (by decide +kernel) (by decide +kernel), m1 963 (by decide +kernel) (by decide +kernel), ini_Lot, m1 964 (by decide +kernel) (by decide +kernel), ⟨by decide +kernel, by decide +kernel, by decide +kernel⟩, by decide, by decide, T_Lot, 1, rfl⟩
theorem d_Lot_tieAhead_0 : decode b_Lot_tieAhead 0 = .ok (.iconst 0, 1) := by decide +kernel
theorem d_Lot_tieAhead_1 : decode b_Lot_tieAhead 1 = .ok (.istore 4, 2) := by decide +kernel
theorem d_Lot_tieAhead_3 : decode b_Lot_tieAhead 3 = .ok (.iload 4, 2) := by decide +kernel
theorem d_Lot_tieAhead_5 : decode b_Lot_tieAhead 5 = .ok (.iload_n 2, 1) := by decide +kernel
theorem d_Lot_tieAhead_6 : decode b_Lot_tieAhead 6 = .ok (.if_icmp .ge 32, 3) := by decide +kernel
theorem d_Lot_tieAhead_9 : decode b_Lot_tieAhead 9 = .ok (.aload_n 1, 1) := by decide +kernel
theorem d_Lot_tieAhead_10 : decode b_Lot_tieAhead 10 = .ok (.iload 4, 2) := by decide +kernel
theorem d_Lot_tieAhead_12 : decode b_Lot_tieAhead 12 = .ok (.iload_n 2, 1) := by decide +kernel
theorem d_Lot_tieAhead_13 : decode b_Lot_tieAhead 13 = .ok (.aload_n 0, 1) := by decide +kernel
theorem d_Lot_tieAhead_14 : decode b_Lot_tieAhead 14 = .ok (.invokevirtual 14, 3) := by decide +kernel
theorem d_Lot_tieAhead_17 : decode b_Lot_tieAhead 17 = .ok (.bipush 10, 2) := by decide +kernel
theorem d_Lot_tieAhead_19 : decode b_Lot_tieAhead 19 = .ok (.irem, 1) := by decide +kernel
theorem d_Lot_tieAhead_20 : decode b_Lot_tieAhead 20 = .ok (.iload_n 3, 1) := by decide +kernel
theorem d_Lot_tieAhead_21 : decode b_Lot_tieAhead 21 = .ok (.if_icmp .ge 7, 3) := by decide +kernel
theorem d_Lot_tieAhead_24 : decode b_Lot_tieAhead 24 = .ok (.iconst 1, 1) := by decide +kernel
theorem d_Lot_tieAhead_25 : decode b_Lot_tieAhead 25 = .ok (.goto 4, 3) := by decide +kernel
theorem d_Lot_tieAhead_28 : decode b_Lot_tieAhead 28 = .ok (.iconst 0, 1) := by decide +kernel
theorem d_Lot_tieAhead_29 : decode b_Lot_tieAhead 29 = .ok (.invokevirtual 18, 3) := by decide +kernel
theorem d_Lot_tieAhead_32 : decode b_Lot_tieAhead 32 = .ok (.iinc 4 1, 3) := by decide +kernel
theorem d_Lot_tieAhead_35 : decode b_Lot_tieAhead 35 = .ok (.goto (-32), 3) := by decide +kernel
theorem d_Lot_tieAhead_38 : decode b_Lot_tieAhead 38 = .ok (.return_, 1) := by decide +kernel
def B_Lot_tieAhead_3 (k3 : Nat → Int32 → Int32 → Int32 → Sto → Option (Unit × Sto)) (v1 : Nat) (v2 : Int32) (v3 : Int32) (v4 : Int32) (σ : Sto) : Option (Unit × Sto) :=
  (if v2 ≤ v4 then some ((), σ)
 else ((f_Lot_draw  σ).bind fun q1 => (if ¬ (10 : Int32) = 0 then (if v3 ≤ (irm q1.1 (10 : Int32)) then ((f_Net_tie v1 v4 v2 (0 : Int32) q1.2).bind fun q2 => k3 v1 v2 v3 (v4 + (1 : Int32)) q2.2)
  else ((f_Net_tie v1 v4 v2 (1 : Int32) q1.2).bind fun q3 => k3 v1 v2 v3 (v4 + (1 : Int32)) q3.2)) else none)))
set_option maxHeartbeats 4000000 in
set_option maxRecDepth 100000 in
theorem vB_Lot_tieAhead_3 {X : Xt} {E : En} (g : GG X E 4 b_Lot_tieAhead R_Lot 5) {k3 : Nat → Int32 → Int32 → Int32 → Sto → Option (Unit × Sto)} (hk3 : ∀ (v1 : Nat) (v2 : Int32) (v3 : Int32) (v4 : Int32) (hv1 : cls v1 = 4) (σ : Sto), VV X E b_Lot_tieAhead 5 eU 3 [(0, .ref (E.2.1 33)), (1, .ref (E.2.1 v1)), (2, .int v2), (3, .int v3), (4, .int v4)] [] σ (k3 v1 v2 v3 v4 σ)) (v1 : Nat) (v2 : Int32) (v3 : Int32) (v4 : Int32) (hv1 : cls v1 = 4) (σ : Sto) : VV X E b_Lot_tieAhead 5 eU 3 [(0, .ref (E.2.1 33)), (1, .ref (E.2.1 v1)), (2, .int v2), (3, .int v3), (4, .int v4)] [] σ (B_Lot_tieAhead_3 k3 v1 v2 v3 v4 σ) := by
  unfold B_Lot_tieAhead_3
  refine v_iload 4 g d_Lot_tieAhead_3 rfl ?_
  refine v_iload_n 2 g d_Lot_tieAhead_5 rfl ?_
  refine v_icmp_ge 38 g d_Lot_tieAhead_6 (by decide) (fun _ => ?_) (fun _ => ?_)
  · exact v_ret d_Lot_tieAhead_38 rfl
  · refine v_aload_n 1 g d_Lot_tieAhead_9 rfl ?_
    refine v_iload 4 g d_Lot_tieAhead_10 rfl ?_
    refine v_iload_n 2 g d_Lot_tieAhead_12 rfl ?_
    refine v_aload_n 0 g d_Lot_tieAhead_13 rfl ?_
    refine v_callI (r_V (rest := [.int v2, .int v4, .ref (E.2.1 v1)]) [] g (m1 965 (by decide +kernel) (by decide +kernel)) yv_Lot_draw rfl (fun r σ1 h => sp_Lot_draw g.2.2.1  h) rfl rfl (by decide) (Nat.le_of_ble_eq_true rfl) d_Lot_tieAhead_14) (fun q1 => ?_)
    refine v_bipush (v := (10 : Int32)) g d_Lot_tieAhead_17 (by decide +kernel) ?_
    refine v_irem g d_Lot_tieAhead_19 (fun _ => ?_)
    refine v_iload_n 3 g d_Lot_tieAhead_20 rfl ?_
    refine v_icmp_ge 28 g d_Lot_tieAhead_21 (by decide) (fun _ => ?_) (fun _ => ?_)
    · refine v_iconst (v := (0 : Int32)) g d_Lot_tieAhead_28 (by decide +kernel) ?_
      refine v_callU (r_V (rest := []) [.int v4, .int v2, .int (0 : Int32)] g (m1 966 (by decide +kernel) (by decide +kernel)) yv_Net_tie hv1 (fun r σ1 h => sp_Net_tie g.2.2.1 hv1 h) rfl rfl (by decide) (Nat.le_of_ble_eq_true rfl) d_Lot_tieAhead_29) (fun q2 => ?_)
      refine v_iinc 4 [(4, .int (v4 + (1 : Int32))), (0, .ref (E.2.1 33)), (1, .ref (E.2.1 v1)), (2, .int v2), (3, .int v3)] g d_Lot_tieAhead_32 rfl (v := (1 : Int32)) (by decide +kernel) (by decide) rfl ?_
      refine v_goto 3 g d_Lot_tieAhead_35 (by decide) ?_
      exact v_sub [1,2,3,4,0] rfl (hk3 v1 v2 v3 (v4 + (1 : Int32)) hv1 q2.2)
    · refine v_iconst (v := (1 : Int32)) g d_Lot_tieAhead_24 (by decide +kernel) ?_
      refine v_goto 29 g d_Lot_tieAhead_25 (by decide) ?_
      refine v_callU (r_V (rest := []) [.int v4, .int v2, .int (1 : Int32)] g (m1 966 (by decide +kernel) (by decide +kernel)) yv_Net_tie hv1 (fun r σ1 h => sp_Net_tie g.2.2.1 hv1 h) rfl rfl (by decide) (Nat.le_of_ble_eq_true rfl) d_Lot_tieAhead_29) (fun q3 => ?_)
      refine v_iinc 4 [(4, .int (v4 + (1 : Int32))), (0, .ref (E.2.1 33)), (1, .ref (E.2.1 v1)), (2, .int v2), (3, .int v3)] g d_Lot_tieAhead_32 rfl (v := (1 : Int32)) (by decide +kernel) (by decide) rfl ?_
      refine v_goto 3 g d_Lot_tieAhead_35 (by decide) ?_
      exact v_sub [1,2,3,4,0] rfl (hk3 v1 v2 v3 (v4 + (1 : Int32)) hv1 q3.2)
def L_Lot_tieAhead_3 : Nat → Nat → Int32 → Int32 → Int32 → Sto → Option (Unit × Sto)
  | 0, _, _, _, _, _ => none
  | fu + 1, v1, v2, v3, v4, σ => B_Lot_tieAhead_3 (L_Lot_tieAhead_3 fu) v1 v2 v3 v4 σ
theorem vL_Lot_tieAhead_3 {X : Xt} {E : En} (g : GG X E 4 b_Lot_tieAhead R_Lot 5) (fu : Nat) : ∀ (v1 : Nat) (v2 : Int32) (v3 : Int32) (v4 : Int32) (hv1 : cls v1 = 4) (σ : Sto), VV X E b_Lot_tieAhead 5 eU 3 [(0, .ref (E.2.1 33)), (1, .ref (E.2.1 v1)), (2, .int v2), (3, .int v3), (4, .int v4)] [] σ (L_Lot_tieAhead_3 fu v1 v2 v3 v4 σ) := by
  induction fu with
  | zero => intros; exact v_none
  | succ fu ih =>
    intro v1 v2 v3 v4 hv1 σ
    exact vB_Lot_tieAhead_3 g ih v1 v2 v3 v4 hv1 σ
def B_Lot_tieAhead_0 (a1 : Nat) (a2 : Int32) (a3 : Int32) (σ : Sto) : Option (Unit × Sto) :=
  L_Lot_tieAhead_3 LF a1 a2 a3 (0 : Int32) σ
set_option maxHeartbeats 4000000 in
set_option maxRecDepth 100000 in
theorem vB_Lot_tieAhead_0 {X : Xt} {E : En} (g : GG X E 4 b_Lot_tieAhead R_Lot 5) (a1 : Nat) (a2 : Int32) (a3 : Int32) (ha1 : cls a1 = 4) (σ : Sto) : VV X E b_Lot_tieAhead 5 eU 0 [(0, .ref (E.2.1 33)), (1, .ref (E.2.1 a1)), (2, .int a2), (3, .int a3)] [] σ (B_Lot_tieAhead_0 a1 a2 a3 σ) := by
  unfold B_Lot_tieAhead_0
  refine v_iconst (v := (0 : Int32)) g d_Lot_tieAhead_0 (by decide +kernel) ?_
  refine v_istore [(4, .int (0 : Int32)), (0, .ref (E.2.1 33)), (1, .ref (E.2.1 a1)), (2, .int a2), (3, .int a3)] g d_Lot_tieAhead_1 (by decide) rfl ?_
  exact v_sub [1,2,3,4,0] rfl (vL_Lot_tieAhead_3 g LF a1 a2 a3 (0 : Int32) ha1 σ)
def f_Lot_tieAhead (a1 : Nat) (a2 : Int32) (a3 : Int32) (σ : Sto) : Option (Unit × Sto) := B_Lot_tieAhead_0 a1 a2 a3 σ
theorem sp_Lot_tieAhead {l : Launch} {E : En} (hE : Dj E) {a1 : Nat} {a2 : Int32} {a3 : Int32} (ha1 : cls a1 = 4) {σ : Sto} {r : Unit} {σ' : Sto} (h : f_Lot_tieAhead a1 a2 a3 σ = some (r, σ')) : Ct l E y_Lot_tieAhead (wsM y_Lot_tieAhead b_Lot_tieAhead 5 (none)) 4 [.ref (E.2.1 33), .ref (E.2.1 a1), .int a2, .int a3] σ (eU r) σ' :=
  ct_of hE (by decide +kernel) (Nat.le_of_ble_eq_true rfl) (fun _ => Or.inr (Or.inr (Or.inr (Or.inl ⟨rfl, rfl⟩)))) (fun X _ g => vB_Lot_tieAhead_0 g a1 a2 a3 ha1 σ) r σ' h
/-! method FittingRings$Hand.refusalAs(I)I -/
theorem yv_Hand_refusalAs : YV y_Hand_refusalAs b_Hand_refusalAs 2 (some .int) 1 1 := ⟨m1 988 (by decide +kernel) (by decide +kernel), m1 989 (by decide +kernel) (by decide +kernel), ini_Hand, m1 990 (by decide +kernel) (by decide +kernel), ⟨by decide +kernel, by decide +kernel, by decide +kernel⟩, by decide, by decide, T_Hand, 4, rfl⟩
theorem d_Hand_refusalAs_0 : decode b_Hand_refusalAs 0 = .ok (.aload_n 0, 1) := by decide +kernel
theorem d_Hand_refusalAs_1 : decode b_Hand_refusalAs 1 = .ok (.getfield 9, 3) := by decide +kernel
theorem d_Hand_refusalAs_4 : decode b_Hand_refusalAs 4 = .ok (.ifCond .ne 6, 3) := by decide +kernel
theorem d_Hand_refusalAs_7 : decode b_Hand_refusalAs 7 = .ok (.bipush (-11), 2) := by decide +kernel
theorem d_Hand_refusalAs_9 : decode b_Hand_refusalAs 9 = .ok (.ireturn, 1) := by decide +kernel
theorem d_Hand_refusalAs_10 : decode b_Hand_refusalAs 10 = .ok (.aload_n 0, 1) := by decide +kernel
theorem d_Hand_refusalAs_11 : decode b_Hand_refusalAs 11 = .ok (.getfield 9, 3) := by decide +kernel
theorem d_Hand_refusalAs_14 : decode b_Hand_refusalAs 14 = .ok (.iload_n 1, 1) := by decide +kernel
theorem d_Hand_refusalAs_15 : decode b_Hand_refusalAs 15 = .ok (.if_icmp .ne 7, 3) := by decide +kernel
theorem d_Hand_refusalAs_18 : decode b_Hand_refusalAs 18 = .ok (.iconst 0, 1) := by decide +kernel
theorem d_Hand_refusalAs_19 : decode b_Hand_refusalAs 19 = .ok (.goto 5, 3) := by decide +kernel
theorem d_Hand_refusalAs_22 : decode b_Hand_refusalAs 22 = .ok (.bipush (-13), 2) := by decide +kernel
theorem d_Hand_refusalAs_24 : decode b_Hand_refusalAs 24 = .ok (.ireturn, 1) := by decide +kernel
def B_Hand_refusalAs_0 (n0 : Nat) (a1 : Int32) (σ : Sto) : Option (Int32 × Sto) :=
  (if (gI σ n0 0) = 0 then some ((-11 : Int32), σ)
 else (if (gI σ n0 0) = a1 then some ((0 : Int32), σ)
  else some ((-13 : Int32), σ)))
set_option maxHeartbeats 4000000 in
set_option maxRecDepth 100000 in
theorem vB_Hand_refusalAs_0 {X : Xt} {E : En} (g : GG X E 1 b_Hand_refusalAs R_Hand 2) (n0 : Nat) (a1 : Int32) (hn0 : cls n0 = 1) (σ : Sto) : VV X E b_Hand_refusalAs 2 eI 0 [(0, .ref (E.2.1 n0)), (1, .int a1)] [] σ (B_Hand_refusalAs_0 n0 a1 σ) := by
  unfold B_Hand_refusalAs_0
  refine v_aload_n 0 g d_Hand_refusalAs_0 rfl ?_
  refine v_getI g ff_Hand_9 hn0 rfl d_Hand_refusalAs_1 ?_
  refine v_if_ne 10 g d_Hand_refusalAs_4 (by decide) (fun _ => ?_) (fun _ => ?_)
  · refine v_aload_n 0 g d_Hand_refusalAs_10 rfl ?_
    refine v_getI g ff_Hand_9 hn0 rfl d_Hand_refusalAs_11 ?_
    refine v_iload_n 1 g d_Hand_refusalAs_14 rfl ?_
    refine v_icmp_ne 22 g d_Hand_refusalAs_15 (by decide) (fun _ => ?_) (fun _ => ?_)
    · refine v_bipush (v := (-13 : Int32)) g d_Hand_refusalAs_22 (by decide +kernel) ?_
      exact v_ret d_Hand_refusalAs_24 rfl
    · refine v_iconst (v := (0 : Int32)) g d_Hand_refusalAs_18 (by decide +kernel) ?_
      refine v_goto 24 g d_Hand_refusalAs_19 (by decide) ?_
      exact v_ret d_Hand_refusalAs_24 rfl
  · refine v_bipush (v := (-11 : Int32)) g d_Hand_refusalAs_7 (by decide +kernel) ?_
    exact v_ret d_Hand_refusalAs_9 rfl
def f_Hand_refusalAs (n0 : Nat) (a1 : Int32) (σ : Sto) : Option (Int32 × Sto) := B_Hand_refusalAs_0 n0 a1 σ
theorem sp_Hand_refusalAs {l : Launch} {E : En} (hE : Dj E) {n0 : Nat} {a1 : Int32} (hn0 : cls n0 = 1) {σ : Sto} {r : Int32} {σ' : Sto} (h : f_Hand_refusalAs n0 a1 σ = some (r, σ')) : Ct l E y_Hand_refusalAs (wsM y_Hand_refusalAs b_Hand_refusalAs 2 (some .int)) 1 [.ref (E.2.1 n0), .int a1] σ (eI r) σ' :=
  ct_of hE (by decide +kernel) (Nat.le_of_ble_eq_true rfl) (fun x => Or.inl ⟨rfl, x, rfl⟩) (fun X _ g => vB_Hand_refusalAs_0 g n0 a1 hn0 σ) r σ' h
