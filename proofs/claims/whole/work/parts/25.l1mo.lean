theorem ff_Mo_20 : FF R_Mo 20 10 6 := ⟨R_Mo, T_Mo, 39, rfl, in_Mo, by decide, rfl, by decide, m1 1050 (by decide +kernel) (by decide +kernel)⟩
theorem ff_Mo_23 : FF R_Mo 23 10 7 := ⟨R_Mo, T_Mo, 39, rfl, in_Mo, by decide, rfl, by decide, m1 1051 (by decide +kernel) (by decide +kernel)⟩
theorem ff_Mo_26 : FF R_Mo 26 10 8 := ⟨R_Mo, T_Mo, 39, rfl, in_Mo, by decide, rfl, by decide, m1 1052 (by decide +kernel) (by decide +kernel)⟩
theorem ff_Mo_358 : FF R_Mo 358 10 4 := ⟨R_Mo, T_Mo, 39, rfl, in_Mo, by decide, rfl, by decide, m1 1048 (by decide +kernel) (by decide +kernel)⟩
theorem ff_Mo_362 : FF R_Mo 362 10 5 := ⟨R_Mo, T_Mo, 39, rfl, in_Mo, by decide, rfl, by decide, m1 1049 (by decide +kernel) (by decide +kernel)⟩
theorem fp_Mo_358 : FP R_Mo 358 10 4 (.boolean) := ⟨R_Mo, T_Mo, 39, rfl, in_Mo, by decide, rfl, by decide, m1 1048 (by decide +kernel) (by decide +kernel), ⟨ty_Mo, tyok_Mo⟩, nm_Mo, rfl, by decide +kernel⟩
theorem fp_Mo_362 : FP R_Mo 362 10 5 (.int) := ⟨R_Mo, T_Mo, 39, rfl, in_Mo, by decide, rfl, by decide, m1 1049 (by decide +kernel) (by decide +kernel), ⟨ty_Mo, tyok_Mo⟩, nm_Mo, rfl, by decide +kernel⟩
/-! method FittingRingsModel.wrong(II)I -/
theorem yv_Mo_wrong : YV y_Mo_wrong b_Mo_wrong 3 (some .int) 2 10 := ⟨m1 1545 (by decide +kernel) (by decide +kernel), m1 69 (by decide +kernel) (by decide +kernel), ini_Mo, m1 1546 (by decide +kernel) (by decide +kernel), ⟨by decide +kernel, by decide +kernel, by decide +kernel⟩, by decide, by decide, T_Mo, 39, rfl⟩
theorem d_Mo_wrong_0 : decode b_Mo_wrong 0 = .ok (.iload_n 1, 1) := by decide +kernel
theorem d_Mo_wrong_1 : decode b_Mo_wrong 1 = .ok (.invokestatic 259, 3) := by decide +kernel
theorem d_Mo_wrong_4 : decode b_Mo_wrong 4 = .ok (.ifCond .ne 8, 3) := by decide +kernel
theorem d_Mo_wrong_7 : decode b_Mo_wrong 7 = .ok (.bipush (-2), 2) := by decide +kernel
theorem d_Mo_wrong_9 : decode b_Mo_wrong 9 = .ok (.goto 41, 3) := by decide +kernel
theorem d_Mo_wrong_12 : decode b_Mo_wrong 12 = .ok (.aload_n 0, 1) := by decide +kernel
theorem d_Mo_wrong_13 : decode b_Mo_wrong 13 = .ok (.getfield 71, 3) := by decide +kernel
theorem d_Mo_wrong_16 : decode b_Mo_wrong 16 = .ok (.iload_n 1, 1) := by decide +kernel
theorem d_Mo_wrong_17 : decode b_Mo_wrong 17 = .ok (.iaload, 1) := by decide +kernel
theorem d_Mo_wrong_18 : decode b_Mo_wrong 18 = .ok (.ifCond .ge 8, 3) := by decide +kernel
theorem d_Mo_wrong_21 : decode b_Mo_wrong 21 = .ok (.bipush (-11), 2) := by decide +kernel
theorem d_Mo_wrong_23 : decode b_Mo_wrong 23 = .ok (.goto 27, 3) := by decide +kernel
theorem d_Mo_wrong_26 : decode b_Mo_wrong 26 = .ok (.iload_n 2, 1) := by decide +kernel
theorem d_Mo_wrong_27 : decode b_Mo_wrong 27 = .ok (.i2l, 1) := by decide +kernel
theorem d_Mo_wrong_28 : decode b_Mo_wrong 28 = .ok (.lconst 0, 1) := by decide +kernel
theorem d_Mo_wrong_29 : decode b_Mo_wrong 29 = .ok (.aload_n 0, 1) := by decide +kernel
theorem d_Mo_wrong_30 : decode b_Mo_wrong 30 = .ok (.getfield 74, 3) := by decide +kernel
theorem d_Mo_wrong_33 : decode b_Mo_wrong 33 = .ok (.iload_n 1, 1) := by decide +kernel
theorem d_Mo_wrong_34 : decode b_Mo_wrong 34 = .ok (.iaload, 1) := by decide +kernel
theorem d_Mo_wrong_35 : decode b_Mo_wrong 35 = .ok (.iconst 1, 1) := by decide +kernel
theorem d_Mo_wrong_36 : decode b_Mo_wrong 36 = .ok (.isub, 1) := by decide +kernel
theorem d_Mo_wrong_37 : decode b_Mo_wrong 37 = .ok (.i2l, 1) := by decide +kernel
theorem d_Mo_wrong_38 : decode b_Mo_wrong 38 = .ok (.invokestatic 84, 3) := by decide +kernel
theorem d_Mo_wrong_41 : decode b_Mo_wrong 41 = .ok (.ifCond .eq 7, 3) := by decide +kernel
theorem d_Mo_wrong_44 : decode b_Mo_wrong 44 = .ok (.iconst 0, 1) := by decide +kernel
theorem d_Mo_wrong_45 : decode b_Mo_wrong 45 = .ok (.goto 5, 3) := by decide +kernel
theorem d_Mo_wrong_48 : decode b_Mo_wrong 48 = .ok (.bipush (-12), 2) := by decide +kernel
theorem d_Mo_wrong_50 : decode b_Mo_wrong 50 = .ok (.ireturn, 1) := by decide +kernel
def B_Mo_wrong_0 (a1 : Int32) (a2 : Int32) (σ : Sto) : Option (Int32 × Sto) :=
  ((f_Mo_isSheet a1 σ).bind fun q1 => (if (b2i q1.1) = 0 then some ((-2 : Int32), q1.2)
 else (if inb a1 4 = true then (if 0 ≤ (gI q1.2 69 (Int32.toNatClampNeg a1)) then (if inb a1 4 = true then ((f_Mo_in (Int32.toInt64 a2) (0 : Int64) (Int32.toInt64 ((gI q1.2 70 (Int32.toNatClampNeg a1)) - (1 : Int32))) q1.2).bind fun q2 => (if (b2i q2.1) = 0 then some ((-12 : Int32), q2.2)
   else some ((0 : Int32), q2.2))) else none)
  else some ((-11 : Int32), q1.2)) else none)))
set_option maxHeartbeats 4000000 in
set_option maxRecDepth 100000 in
theorem vB_Mo_wrong_0 {X : Xt} {E : En} (g : GG X E 3 b_Mo_wrong R_Mo 3) (a1 : Int32) (a2 : Int32) (σ : Sto) : VV X E b_Mo_wrong 3 eI 0 [(0, .ref (E.2.1 48)), (1, .int a1), (2, .int a2)] [] σ (B_Mo_wrong_0 a1 a2 σ) := by
  unfold B_Mo_wrong_0
  refine v_iload_n 1 g d_Mo_wrong_0 rfl ?_
  refine v_callB (r_S (rest := []) [.int a1] g (m1 1401 (by decide +kernel) (by decide +kernel)) ys_Mo_isSheet (fun r σ1 h => sp_Mo_isSheet g.2.2.1  h) rfl rfl (by decide) (Nat.le_of_ble_eq_true rfl) d_Mo_wrong_1) (fun q1 => ?_)
  refine v_if_ne 12 g d_Mo_wrong_4 (by decide) (fun _ => ?_) (fun _ => ?_)
  · refine v_aload_n 0 g d_Mo_wrong_12 rfl ?_
    refine v_getR 69 g ff_Mo_71 rfl rfl rfl d_Mo_wrong_13 ?_
    refine v_iload_n 1 g d_Mo_wrong_16 rfl ?_
    refine v_iald g rfl rfl d_Mo_wrong_17 (fun _ => ?_)
    refine v_if_ge 26 g d_Mo_wrong_18 (by decide) (fun _ => ?_) (fun _ => ?_)
    · refine v_iload_n 2 g d_Mo_wrong_26 rfl ?_
      refine v_i2l g d_Mo_wrong_27 ?_
      refine v_lconst (v := (0 : Int64)) g d_Mo_wrong_28 (by decide +kernel) ?_
      refine v_aload_n 0 g d_Mo_wrong_29 rfl ?_
      refine v_getR 70 g ff_Mo_74 rfl rfl rfl d_Mo_wrong_30 ?_
      refine v_iload_n 1 g d_Mo_wrong_33 rfl ?_
      refine v_iald g rfl rfl d_Mo_wrong_34 (fun _ => ?_)
      refine v_iconst (v := (1 : Int32)) g d_Mo_wrong_35 (by decide +kernel) ?_
      refine v_isub g d_Mo_wrong_36 ?_
      refine v_i2l g d_Mo_wrong_37 ?_
      refine v_callB (r_S (rest := []) [.long (Int32.toInt64 a2), .long (0 : Int64), .long (Int32.toInt64 ((gI q1.2 70 (Int32.toNatClampNeg a1)) - (1 : Int32)))] g (m1 1167 (by decide +kernel) (by decide +kernel)) ys_Mo_in (fun r σ1 h => sp_Mo_in g.2.2.1  h) rfl rfl (by decide) (Nat.le_of_ble_eq_true rfl) d_Mo_wrong_38) (fun q2 => ?_)
      refine v_if_eq 48 g d_Mo_wrong_41 (by decide) (fun _ => ?_) (fun _ => ?_)
      · refine v_bipush (v := (-12 : Int32)) g d_Mo_wrong_48 (by decide +kernel) ?_
        exact v_ret d_Mo_wrong_50 rfl
      · refine v_iconst (v := (0 : Int32)) g d_Mo_wrong_44 (by decide +kernel) ?_
        refine v_goto 50 g d_Mo_wrong_45 (by decide) ?_
        exact v_ret d_Mo_wrong_50 rfl
    · refine v_bipush (v := (-11 : Int32)) g d_Mo_wrong_21 (by decide +kernel) ?_
      refine v_goto 50 g d_Mo_wrong_23 (by decide) ?_
      exact v_ret d_Mo_wrong_50 rfl
  · refine v_bipush (v := (-2 : Int32)) g d_Mo_wrong_7 (by decide +kernel) ?_
    refine v_goto 50 g d_Mo_wrong_9 (by decide) ?_
    exact v_ret d_Mo_wrong_50 rfl
def f_Mo_wrong (a1 : Int32) (a2 : Int32) (σ : Sto) : Option (Int32 × Sto) := B_Mo_wrong_0 a1 a2 σ
theorem sp_Mo_wrong {l : Launch} {E : En} (hE : Dj E) {a1 : Int32} {a2 : Int32} {σ : Sto} {r : Int32} {σ' : Sto} (h : f_Mo_wrong a1 a2 σ = some (r, σ')) : Ct l E y_Mo_wrong (wsM y_Mo_wrong b_Mo_wrong 3 (some .int)) 3 [.ref (E.2.1 48), .int a1, .int a2] σ (eI r) σ' :=
  ct_of hE (by decide +kernel) (Nat.le_of_ble_eq_true rfl) (fun x => Or.inl ⟨rfl, x, rfl⟩) (fun X _ g => vB_Mo_wrong_0 g a1 a2 σ) r σ' h
/-! method FittingRingsModel.cell(III)I -/
theorem yv_Mo_cell : YV y_Mo_cell b_Mo_cell 5 (some .int) 3 10 := ⟨m1 1540 (by decide +kernel) (by decide +kernel), m1 1541 (by decide +kernel) (by decide +kernel), ini_Mo, m1 1542 (by decide +kernel) (by decide +kernel), ⟨by decide +kernel, by decide +kernel, by decide +kernel⟩, by decide, by decide, T_Mo, 39, rfl⟩
theorem d_Mo_cell_0 : decode b_Mo_cell 0 = .ok (.aload_n 0, 1) := by decide +kernel
theorem d_Mo_cell_1 : decode b_Mo_cell 1 = .ok (.iload_n 1, 1) := by decide +kernel
theorem d_Mo_cell_2 : decode b_Mo_cell 2 = .ok (.iload_n 2, 1) := by decide +kernel
theorem d_Mo_cell_3 : decode b_Mo_cell 3 = .ok (.invokevirtual 355, 3) := by decide +kernel
theorem d_Mo_cell_6 : decode b_Mo_cell 6 = .ok (.istore 4, 2) := by decide +kernel
theorem d_Mo_cell_8 : decode b_Mo_cell 8 = .ok (.iload 4, 2) := by decide +kernel
theorem d_Mo_cell_10 : decode b_Mo_cell 10 = .ok (.ifCond .eq 6, 3) := by decide +kernel
theorem d_Mo_cell_13 : decode b_Mo_cell 13 = .ok (.iload 4, 2) := by decide +kernel
theorem d_Mo_cell_15 : decode b_Mo_cell 15 = .ok (.ireturn, 1) := by decide +kernel
theorem d_Mo_cell_16 : decode b_Mo_cell 16 = .ok (.aload_n 0, 1) := by decide +kernel
theorem d_Mo_cell_17 : decode b_Mo_cell 17 = .ok (.getfield 77, 3) := by decide +kernel
theorem d_Mo_cell_20 : decode b_Mo_cell 20 = .ok (.bipush 60, 2) := by decide +kernel
theorem d_Mo_cell_22 : decode b_Mo_cell 22 = .ok (.iload_n 1, 1) := by decide +kernel
theorem d_Mo_cell_23 : decode b_Mo_cell 23 = .ok (.imul, 1) := by decide +kernel
theorem d_Mo_cell_24 : decode b_Mo_cell 24 = .ok (.iload_n 2, 1) := by decide +kernel
theorem d_Mo_cell_25 : decode b_Mo_cell 25 = .ok (.iadd, 1) := by decide +kernel
theorem d_Mo_cell_26 : decode b_Mo_cell 26 = .ok (.aload_n 0, 1) := by decide +kernel
theorem d_Mo_cell_27 : decode b_Mo_cell 27 = .ok (.getfield 71, 3) := by decide +kernel
theorem d_Mo_cell_30 : decode b_Mo_cell 30 = .ok (.iload_n 1, 1) := by decide +kernel
theorem d_Mo_cell_31 : decode b_Mo_cell 31 = .ok (.iaload, 1) := by decide +kernel
theorem d_Mo_cell_32 : decode b_Mo_cell 32 = .ok (.ifCond .ne 8, 3) := by decide +kernel
theorem d_Mo_cell_35 : decode b_Mo_cell 35 = .ok (.iload_n 3, 1) := by decide +kernel
theorem d_Mo_cell_36 : decode b_Mo_cell 36 = .ok (.i2b, 1) := by decide +kernel
theorem d_Mo_cell_37 : decode b_Mo_cell 37 = .ok (.goto 19, 3) := by decide +kernel
theorem d_Mo_cell_40 : decode b_Mo_cell 40 = .ok (.aload_n 0, 1) := by decide +kernel
theorem d_Mo_cell_41 : decode b_Mo_cell 41 = .ok (.getfield 71, 3) := by decide +kernel
theorem d_Mo_cell_44 : decode b_Mo_cell 44 = .ok (.iload_n 1, 1) := by decide +kernel
theorem d_Mo_cell_45 : decode b_Mo_cell 45 = .ok (.iaload, 1) := by decide +kernel
theorem d_Mo_cell_46 : decode b_Mo_cell 46 = .ok (.iconst 1, 1) := by decide +kernel
theorem d_Mo_cell_47 : decode b_Mo_cell 47 = .ok (.if_icmp .ne 8, 3) := by decide +kernel
theorem d_Mo_cell_50 : decode b_Mo_cell 50 = .ok (.iload_n 3, 1) := by decide +kernel
theorem d_Mo_cell_51 : decode b_Mo_cell 51 = .ok (.i2s, 1) := by decide +kernel
theorem d_Mo_cell_52 : decode b_Mo_cell 52 = .ok (.goto 4, 3) := by decide +kernel
theorem d_Mo_cell_55 : decode b_Mo_cell 55 = .ok (.iload_n 3, 1) := by decide +kernel
theorem d_Mo_cell_56 : decode b_Mo_cell 56 = .ok (.iastore, 1) := by decide +kernel
theorem d_Mo_cell_57 : decode b_Mo_cell 57 = .ok (.aload_n 0, 1) := by decide +kernel
theorem d_Mo_cell_58 : decode b_Mo_cell 58 = .ok (.getfield 77, 3) := by decide +kernel
theorem d_Mo_cell_61 : decode b_Mo_cell 61 = .ok (.bipush 60, 2) := by decide +kernel
theorem d_Mo_cell_63 : decode b_Mo_cell 63 = .ok (.iload_n 1, 1) := by decide +kernel
theorem d_Mo_cell_64 : decode b_Mo_cell 64 = .ok (.imul, 1) := by decide +kernel
theorem d_Mo_cell_65 : decode b_Mo_cell 65 = .ok (.iload_n 2, 1) := by decide +kernel
theorem d_Mo_cell_66 : decode b_Mo_cell 66 = .ok (.iadd, 1) := by decide +kernel
theorem d_Mo_cell_67 : decode b_Mo_cell 67 = .ok (.iaload, 1) := by decide +kernel
theorem d_Mo_cell_68 : decode b_Mo_cell 68 = .ok (.ireturn, 1) := by decide +kernel
def B_Mo_cell_0 (a1 : Int32) (a2 : Int32) (a3 : Int32) (σ : Sto) : Option (Int32 × Sto) :=
  ((f_Mo_wrong a1 a2 σ).bind fun q1 => (if q1.1 = 0 then (if inb a1 4 = true then (if (gI q1.2 69 (Int32.toNatClampNeg a1)) = 0 then (if inb (((60 : Int32) * a1) + a2) 240 = true then (lt1 (sI q1.2 71 (Int32.toNatClampNeg (((60 : Int32) * a1) + a2)) (i2b a3)) fun σ4 => (if inb (((60 : Int32) * a1) + a2) 240 = true then some ((gI σ4 71 (Int32.toNatClampNeg (((60 : Int32) * a1) + a2))), σ4) else none)) else none)
  else (if inb a1 4 = true then (if (gI q1.2 69 (Int32.toNatClampNeg a1)) = (1 : Int32) then (if inb (((60 : Int32) * a1) + a2) 240 = true then (lt1 (sI q1.2 71 (Int32.toNatClampNeg (((60 : Int32) * a1) + a2)) (i2s a3)) fun σ3 => (if inb (((60 : Int32) * a1) + a2) 240 = true then some ((gI σ3 71 (Int32.toNatClampNeg (((60 : Int32) * a1) + a2))), σ3) else none)) else none)
   else (if inb (((60 : Int32) * a1) + a2) 240 = true then (lt1 (sI q1.2 71 (Int32.toNatClampNeg (((60 : Int32) * a1) + a2)) a3) fun σ2 => (if inb (((60 : Int32) * a1) + a2) 240 = true then some ((gI σ2 71 (Int32.toNatClampNeg (((60 : Int32) * a1) + a2))), σ2) else none)) else none)) else none)) else none)
 else some (q1.1, q1.2)))
set_option maxHeartbeats 4000000 in
set_option maxRecDepth 100000 in
theorem vB_Mo_cell_0 {X : Xt} {E : En} (g : GG X E 4 b_Mo_cell R_Mo 5) (a1 : Int32) (a2 : Int32) (a3 : Int32) (σ : Sto) : VV X E b_Mo_cell 5 eI 0 [(0, .ref (E.2.1 48)), (1, .int a1), (2, .int a2), (3, .int a3)] [] σ (B_Mo_cell_0 a1 a2 a3 σ) := by
  unfold B_Mo_cell_0
  refine v_aload_n 0 g d_Mo_cell_0 rfl ?_
  refine v_iload_n 1 g d_Mo_cell_1 rfl ?_
  refine v_iload_n 2 g d_Mo_cell_2 rfl ?_
  refine v_callI (r_V (rest := []) [.int a1, .int a2] g (m1 1543 (by decide +kernel) (by decide +kernel)) yv_Mo_wrong rfl (fun r σ1 h => sp_Mo_wrong g.2.2.1  h) rfl rfl (by decide) (Nat.le_of_ble_eq_true rfl) d_Mo_cell_3) (fun q1 => ?_)
  refine v_istore [(4, .int q1.1), (0, .ref (E.2.1 48)), (1, .int a1), (2, .int a2), (3, .int a3)] g d_Mo_cell_6 (by decide) rfl ?_
  refine v_iload 0 g d_Mo_cell_8 rfl ?_
  refine v_if_eq 16 g d_Mo_cell_10 (by decide) (fun _ => ?_) (fun _ => ?_)
  · refine v_aload_n 1 g d_Mo_cell_16 rfl ?_
    refine v_getR 71 g ff_Mo_77 rfl rfl rfl d_Mo_cell_17 ?_
    refine v_bipush (v := (60 : Int32)) g d_Mo_cell_20 (by decide +kernel) ?_
    refine v_iload_n 2 g d_Mo_cell_22 rfl ?_
    refine v_imul g d_Mo_cell_23 ?_
    refine v_iload_n 3 g d_Mo_cell_24 rfl ?_
    refine v_iadd g d_Mo_cell_25 ?_
    refine v_aload_n 1 g d_Mo_cell_26 rfl ?_
    refine v_getR 69 g ff_Mo_71 rfl rfl rfl d_Mo_cell_27 ?_
    refine v_iload_n 2 g d_Mo_cell_30 rfl ?_
    refine v_iald g rfl rfl d_Mo_cell_31 (fun _ => ?_)
    refine v_if_ne 40 g d_Mo_cell_32 (by decide) (fun _ => ?_) (fun _ => ?_)
    · refine v_aload_n 1 g d_Mo_cell_40 rfl ?_
      refine v_getR 69 g ff_Mo_71 rfl rfl rfl d_Mo_cell_41 ?_
      refine v_iload_n 2 g d_Mo_cell_44 rfl ?_
      refine v_iald g rfl rfl d_Mo_cell_45 (fun _ => ?_)
      refine v_iconst (v := (1 : Int32)) g d_Mo_cell_46 (by decide +kernel) ?_
      refine v_icmp_ne 55 g d_Mo_cell_47 (by decide) (fun _ => ?_) (fun _ => ?_)
      · refine v_iload_n 4 g d_Mo_cell_55 rfl ?_
        refine v_iast g rfl rfl d_Mo_cell_56 (fun _ => ?_)
        refine v_nlet (fun σ2 eσ2 => ?_)
        rw [← eσ2]
        refine v_aload_n 1 g d_Mo_cell_57 rfl ?_
        refine v_getR 71 g ff_Mo_77 rfl rfl rfl d_Mo_cell_58 ?_
        refine v_bipush (v := (60 : Int32)) g d_Mo_cell_61 (by decide +kernel) ?_
        refine v_iload_n 2 g d_Mo_cell_63 rfl ?_
        refine v_imul g d_Mo_cell_64 ?_
        refine v_iload_n 3 g d_Mo_cell_65 rfl ?_
        refine v_iadd g d_Mo_cell_66 ?_
        refine v_iald g rfl rfl d_Mo_cell_67 (fun _ => ?_)
        exact v_ret d_Mo_cell_68 rfl
      · refine v_iload_n 4 g d_Mo_cell_50 rfl ?_
        refine v_i2s g d_Mo_cell_51 ?_
        refine v_goto 56 g d_Mo_cell_52 (by decide) ?_
        refine v_iast g rfl rfl d_Mo_cell_56 (fun _ => ?_)
        refine v_nlet (fun σ3 eσ3 => ?_)
        rw [← eσ3]
        refine v_aload_n 1 g d_Mo_cell_57 rfl ?_
        refine v_getR 71 g ff_Mo_77 rfl rfl rfl d_Mo_cell_58 ?_
        refine v_bipush (v := (60 : Int32)) g d_Mo_cell_61 (by decide +kernel) ?_
        refine v_iload_n 2 g d_Mo_cell_63 rfl ?_
        refine v_imul g d_Mo_cell_64 ?_
        refine v_iload_n 3 g d_Mo_cell_65 rfl ?_
        refine v_iadd g d_Mo_cell_66 ?_
        refine v_iald g rfl rfl d_Mo_cell_67 (fun _ => ?_)
        exact v_ret d_Mo_cell_68 rfl
    · refine v_iload_n 4 g d_Mo_cell_35 rfl ?_
      refine v_i2b g d_Mo_cell_36 ?_
      refine v_goto 56 g d_Mo_cell_37 (by decide) ?_
      refine v_iast g rfl rfl d_Mo_cell_56 (fun _ => ?_)
      refine v_nlet (fun σ4 eσ4 => ?_)
      rw [← eσ4]
      refine v_aload_n 1 g d_Mo_cell_57 rfl ?_
      refine v_getR 71 g ff_Mo_77 rfl rfl rfl d_Mo_cell_58 ?_
      refine v_bipush (v := (60 : Int32)) g d_Mo_cell_61 (by decide +kernel) ?_
      refine v_iload_n 2 g d_Mo_cell_63 rfl ?_
      refine v_imul g d_Mo_cell_64 ?_
      refine v_iload_n 3 g d_Mo_cell_65 rfl ?_
      refine v_iadd g d_Mo_cell_66 ?_
      refine v_iald g rfl rfl d_Mo_cell_67 (fun _ => ?_)
      exact v_ret d_Mo_cell_68 rfl
  · refine v_iload 0 g d_Mo_cell_13 rfl ?_
    exact v_ret d_Mo_cell_15 rfl
def f_Mo_cell (a1 : Int32) (a2 : Int32) (a3 : Int32) (σ : Sto) : Option (Int32 × Sto) := B_Mo_cell_0 a1 a2 a3 σ
theorem sp_Mo_cell {l : Launch} {E : En} (hE : Dj E) {a1 : Int32} {a2 : Int32} {a3 : Int32} {σ : Sto} {r : Int32} {σ' : Sto} (h : f_Mo_cell a1 a2 a3 σ = some (r, σ')) : Ct l E y_Mo_cell (wsM y_Mo_cell b_Mo_cell 5 (some .int)) 4 [.ref (E.2.1 48), .int a1, .int a2, .int a3] σ (eI r) σ' :=
  ct_of hE (by decide +kernel) (Nat.le_of_ble_eq_true rfl) (fun x => Or.inl ⟨rfl, x, rfl⟩) (fun X _ g => vB_Mo_cell_0 g a1 a2 a3 σ) r σ' h
/-! method FittingRingsModel.read(II)I -/
theorem yv_Mo_read : YV y_Mo_read b_Mo_read 4 (some .int) 2 10 := ⟨m1 1548 (by decide +kernel) (by decide +kernel), m1 1549 (by decide +kernel) (by decide +kernel), ini_Mo, m1 1550 (by decide +kernel) (by decide +kernel), ⟨by decide +kernel, by decide +kernel, by decide +kernel⟩, by decide, by decide, T_Mo, 39, rfl⟩
theorem d_Mo_read_0 : decode b_Mo_read 0 = .ok (.aload_n 0, 1) := by decide +kernel
theorem d_Mo_read_1 : decode b_Mo_read 1 = .ok (.iload_n 1, 1) := by decide +kernel
theorem d_Mo_read_2 : decode b_Mo_read 2 = .ok (.iload_n 2, 1) := by decide +kernel
theorem d_Mo_read_3 : decode b_Mo_read 3 = .ok (.invokevirtual 355, 3) := by decide +kernel
theorem d_Mo_read_6 : decode b_Mo_read 6 = .ok (.istore_n 3, 1) := by decide +kernel
theorem d_Mo_read_7 : decode b_Mo_read 7 = .ok (.iload_n 3, 1) := by decide +kernel
theorem d_Mo_read_8 : decode b_Mo_read 8 = .ok (.ifCond .eq 7, 3) := by decide +kernel
theorem d_Mo_read_11 : decode b_Mo_read 11 = .ok (.iload_n 3, 1) := by decide +kernel
theorem d_Mo_read_12 : decode b_Mo_read 12 = .ok (.goto 14, 3) := by decide +kernel
theorem d_Mo_read_15 : decode b_Mo_read 15 = .ok (.aload_n 0, 1) := by decide +kernel
theorem d_Mo_read_16 : decode b_Mo_read 16 = .ok (.getfield 77, 3) := by decide +kernel
theorem d_Mo_read_19 : decode b_Mo_read 19 = .ok (.bipush 60, 2) := by decide +kernel
theorem d_Mo_read_21 : decode b_Mo_read 21 = .ok (.iload_n 1, 1) := by decide +kernel
theorem d_Mo_read_22 : decode b_Mo_read 22 = .ok (.imul, 1) := by decide +kernel
theorem d_Mo_read_23 : decode b_Mo_read 23 = .ok (.iload_n 2, 1) := by decide +kernel
theorem d_Mo_read_24 : decode b_Mo_read 24 = .ok (.iadd, 1) := by decide +kernel
theorem d_Mo_read_25 : decode b_Mo_read 25 = .ok (.iaload, 1) := by decide +kernel
theorem d_Mo_read_26 : decode b_Mo_read 26 = .ok (.ireturn, 1) := by decide +kernel
def B_Mo_read_0 (a1 : Int32) (a2 : Int32) (σ : Sto) : Option (Int32 × Sto) :=
  ((f_Mo_wrong a1 a2 σ).bind fun q1 => (if q1.1 = 0 then (if inb (((60 : Int32) * a1) + a2) 240 = true then some ((gI q1.2 71 (Int32.toNatClampNeg (((60 : Int32) * a1) + a2))), q1.2) else none)
 else some (q1.1, q1.2)))
set_option maxHeartbeats 4000000 in
set_option maxRecDepth 100000 in
theorem vB_Mo_read_0 {X : Xt} {E : En} (g : GG X E 4 b_Mo_read R_Mo 4) (a1 : Int32) (a2 : Int32) (σ : Sto) : VV X E b_Mo_read 4 eI 0 [(0, .ref (E.2.1 48)), (1, .int a1), (2, .int a2)] [] σ (B_Mo_read_0 a1 a2 σ) := by
  unfold B_Mo_read_0
  refine v_aload_n 0 g d_Mo_read_0 rfl ?_
  refine v_iload_n 1 g d_Mo_read_1 rfl ?_
  refine v_iload_n 2 g d_Mo_read_2 rfl ?_
  refine v_callI (r_V (rest := []) [.int a1, .int a2] g (m1 1543 (by decide +kernel) (by decide +kernel)) yv_Mo_wrong rfl (fun r σ1 h => sp_Mo_wrong g.2.2.1  h) rfl rfl (by decide) (Nat.le_of_ble_eq_true rfl) d_Mo_read_3) (fun q1 => ?_)
  refine v_istore_n [(3, .int q1.1), (0, .ref (E.2.1 48)), (1, .int a1), (2, .int a2)] g d_Mo_read_6 (by decide) rfl ?_
  refine v_iload_n 0 g d_Mo_read_7 rfl ?_
  refine v_if_eq 15 g d_Mo_read_8 (by decide) (fun _ => ?_) (fun _ => ?_)
  · refine v_aload_n 1 g d_Mo_read_15 rfl ?_
    refine v_getR 71 g ff_Mo_77 rfl rfl rfl d_Mo_read_16 ?_
    refine v_bipush (v := (60 : Int32)) g d_Mo_read_19 (by decide +kernel) ?_
    refine v_iload_n 2 g d_Mo_read_21 rfl ?_
    refine v_imul g d_Mo_read_22 ?_
    refine v_iload_n 3 g d_Mo_read_23 rfl ?_
    refine v_iadd g d_Mo_read_24 ?_
    refine v_iald g rfl rfl d_Mo_read_25 (fun _ => ?_)
    exact v_ret d_Mo_read_26 rfl
  · refine v_iload_n 0 g d_Mo_read_11 rfl ?_
    refine v_goto 26 g d_Mo_read_12 (by decide) ?_
    exact v_ret d_Mo_read_26 rfl
def f_Mo_read (a1 : Int32) (a2 : Int32) (σ : Sto) : Option (Int32 × Sto) := B_Mo_read_0 a1 a2 σ
theorem sp_Mo_read {l : Launch} {E : En} (hE : Dj E) {a1 : Int32} {a2 : Int32} {σ : Sto} {r : Int32} {σ' : Sto} (h : f_Mo_read a1 a2 σ = some (r, σ')) : Ct l E y_Mo_read (wsM y_Mo_read b_Mo_read 4 (some .int)) 4 [.ref (E.2.1 48), .int a1, .int a2] σ (eI r) σ' :=
  ct_of hE (by decide +kernel) (Nat.le_of_ble_eq_true rfl) (fun x => Or.inl ⟨rfl, x, rfl⟩) (fun X _ g => vB_Mo_read_0 g a1 a2 σ) r σ' h
/-! method FittingRingsModel.copy(IIIII)I -/
theorem yv_Mo_copy : YV y_Mo_copy b_Mo_copy 8 (some .int) 5 10 := ⟨m1 1552 (by decide +kernel) (by decide +kernel), m1 1553 (by decide +kernel) (by decide +kernel), ini_Mo, m1 1554 (by decide +kernel) (by decide +kernel), ⟨by decide +kernel, by decide +kernel, by decide +kernel⟩, by decide, by decide, T_Mo, 39, rfl⟩
theorem d_Mo_copy_0 : decode b_Mo_copy 0 = .ok (.iload_n 1, 1) := by decide +kernel
theorem d_Mo_copy_1 : decode b_Mo_copy 1 = .ok (.invokestatic 259, 3) := by decide +kernel
theorem d_Mo_copy_4 : decode b_Mo_copy 4 = .ok (.ifCond .eq 10, 3) := by decide +kernel
theorem d_Mo_copy_7 : decode b_Mo_copy 7 = .ok (.iload_n 3, 1) := by decide +kernel
theorem d_Mo_copy_8 : decode b_Mo_copy 8 = .ok (.invokestatic 259, 3) := by decide +kernel
theorem d_Mo_copy_11 : decode b_Mo_copy 11 = .ok (.ifCond .ne 6, 3) := by decide +kernel
theorem d_Mo_copy_14 : decode b_Mo_copy 14 = .ok (.bipush (-2), 2) := by decide +kernel
theorem d_Mo_copy_16 : decode b_Mo_copy 16 = .ok (.ireturn, 1) := by decide +kernel
theorem d_Mo_copy_17 : decode b_Mo_copy 17 = .ok (.aload_n 0, 1) := by decide +kernel
theorem d_Mo_copy_18 : decode b_Mo_copy 18 = .ok (.getfield 71, 3) := by decide +kernel
theorem d_Mo_copy_21 : decode b_Mo_copy 21 = .ok (.iload_n 1, 1) := by decide +kernel
theorem d_Mo_copy_22 : decode b_Mo_copy 22 = .ok (.iaload, 1) := by decide +kernel
theorem d_Mo_copy_23 : decode b_Mo_copy 23 = .ok (.ifCond .lt 12, 3) := by decide +kernel
theorem d_Mo_copy_26 : decode b_Mo_copy 26 = .ok (.aload_n 0, 1) := by decide +kernel
theorem d_Mo_copy_27 : decode b_Mo_copy 27 = .ok (.getfield 71, 3) := by decide +kernel
theorem d_Mo_copy_30 : decode b_Mo_copy 30 = .ok (.iload_n 3, 1) := by decide +kernel
theorem d_Mo_copy_31 : decode b_Mo_copy 31 = .ok (.iaload, 1) := by decide +kernel
theorem d_Mo_copy_32 : decode b_Mo_copy 32 = .ok (.ifCond .ge 6, 3) := by decide +kernel
theorem d_Mo_copy_35 : decode b_Mo_copy 35 = .ok (.bipush (-11), 2) := by decide +kernel
theorem d_Mo_copy_37 : decode b_Mo_copy 37 = .ok (.ireturn, 1) := by decide +kernel
theorem d_Mo_copy_38 : decode b_Mo_copy 38 = .ok (.aload_n 0, 1) := by decide +kernel
theorem d_Mo_copy_39 : decode b_Mo_copy 39 = .ok (.getfield 71, 3) := by decide +kernel
theorem d_Mo_copy_42 : decode b_Mo_copy 42 = .ok (.iload_n 1, 1) := by decide +kernel
theorem d_Mo_copy_43 : decode b_Mo_copy 43 = .ok (.iaload, 1) := by decide +kernel
theorem d_Mo_copy_44 : decode b_Mo_copy 44 = .ok (.aload_n 0, 1) := by decide +kernel
theorem d_Mo_copy_45 : decode b_Mo_copy 45 = .ok (.getfield 71, 3) := by decide +kernel
theorem d_Mo_copy_48 : decode b_Mo_copy 48 = .ok (.iload_n 3, 1) := by decide +kernel
theorem d_Mo_copy_49 : decode b_Mo_copy 49 = .ok (.iaload, 1) := by decide +kernel
theorem d_Mo_copy_50 : decode b_Mo_copy 50 = .ok (.if_icmp .eq 6, 3) := by decide +kernel
theorem d_Mo_copy_53 : decode b_Mo_copy 53 = .ok (.bipush (-13), 2) := by decide +kernel
theorem d_Mo_copy_55 : decode b_Mo_copy 55 = .ok (.ireturn, 1) := by decide +kernel
theorem d_Mo_copy_56 : decode b_Mo_copy 56 = .ok (.iload 5, 2) := by decide +kernel
theorem d_Mo_copy_58 : decode b_Mo_copy 58 = .ok (.ifCond .lt 39, 3) := by decide +kernel
theorem d_Mo_copy_61 : decode b_Mo_copy 61 = .ok (.iload_n 2, 1) := by decide +kernel
theorem d_Mo_copy_62 : decode b_Mo_copy 62 = .ok (.ifCond .lt 35, 3) := by decide +kernel
theorem d_Mo_copy_65 : decode b_Mo_copy 65 = .ok (.iload 4, 2) := by decide +kernel
theorem d_Mo_copy_67 : decode b_Mo_copy 67 = .ok (.ifCond .lt 30, 3) := by decide +kernel
theorem d_Mo_copy_70 : decode b_Mo_copy 70 = .ok (.iload 5, 2) := by decide +kernel
theorem d_Mo_copy_72 : decode b_Mo_copy 72 = .ok (.aload_n 0, 1) := by decide +kernel
theorem d_Mo_copy_73 : decode b_Mo_copy 73 = .ok (.getfield 74, 3) := by decide +kernel
theorem d_Mo_copy_76 : decode b_Mo_copy 76 = .ok (.iload_n 1, 1) := by decide +kernel
theorem d_Mo_copy_77 : decode b_Mo_copy 77 = .ok (.iaload, 1) := by decide +kernel
theorem d_Mo_copy_78 : decode b_Mo_copy 78 = .ok (.iload_n 2, 1) := by decide +kernel
theorem d_Mo_copy_79 : decode b_Mo_copy 79 = .ok (.isub, 1) := by decide +kernel
theorem d_Mo_copy_80 : decode b_Mo_copy 80 = .ok (.if_icmp .gt 17, 3) := by decide +kernel
theorem d_Mo_copy_83 : decode b_Mo_copy 83 = .ok (.iload 5, 2) := by decide +kernel
theorem d_Mo_copy_85 : decode b_Mo_copy 85 = .ok (.aload_n 0, 1) := by decide +kernel
theorem d_Mo_copy_86 : decode b_Mo_copy 86 = .ok (.getfield 74, 3) := by decide +kernel
theorem d_Mo_copy_89 : decode b_Mo_copy 89 = .ok (.iload_n 3, 1) := by decide +kernel
theorem d_Mo_copy_90 : decode b_Mo_copy 90 = .ok (.iaload, 1) := by decide +kernel
theorem d_Mo_copy_91 : decode b_Mo_copy 91 = .ok (.iload 4, 2) := by decide +kernel
theorem d_Mo_copy_93 : decode b_Mo_copy 93 = .ok (.isub, 1) := by decide +kernel
theorem d_Mo_copy_94 : decode b_Mo_copy 94 = .ok (.if_icmp .le 6, 3) := by decide +kernel
theorem d_Mo_copy_97 : decode b_Mo_copy 97 = .ok (.bipush (-12), 2) := by decide +kernel
theorem d_Mo_copy_99 : decode b_Mo_copy 99 = .ok (.ireturn, 1) := by decide +kernel
theorem d_Mo_copy_100 : decode b_Mo_copy 100 = .ok (.iconst 0, 1) := by decide +kernel
theorem d_Mo_copy_101 : decode b_Mo_copy 101 = .ok (.istore 6, 2) := by decide +kernel
theorem d_Mo_copy_103 : decode b_Mo_copy 103 = .ok (.iload 6, 2) := by decide +kernel
theorem d_Mo_copy_105 : decode b_Mo_copy 105 = .ok (.iload 5, 2) := by decide +kernel
theorem d_Mo_copy_107 : decode b_Mo_copy 107 = .ok (.if_icmp .ge 58, 3) := by decide +kernel
theorem d_Mo_copy_110 : decode b_Mo_copy 110 = .ok (.iload_n 2, 1) := by decide +kernel
theorem d_Mo_copy_111 : decode b_Mo_copy 111 = .ok (.iload 4, 2) := by decide +kernel
theorem d_Mo_copy_113 : decode b_Mo_copy 113 = .ok (.if_icmp .le 8, 3) := by decide +kernel
theorem d_Mo_copy_116 : decode b_Mo_copy 116 = .ok (.iload 6, 2) := by decide +kernel
theorem d_Mo_copy_118 : decode b_Mo_copy 118 = .ok (.goto 10, 3) := by decide +kernel
theorem d_Mo_copy_121 : decode b_Mo_copy 121 = .ok (.iload 5, 2) := by decide +kernel
theorem d_Mo_copy_123 : decode b_Mo_copy 123 = .ok (.iconst 1, 1) := by decide +kernel
theorem d_Mo_copy_124 : decode b_Mo_copy 124 = .ok (.isub, 1) := by decide +kernel
theorem d_Mo_copy_125 : decode b_Mo_copy 125 = .ok (.iload 6, 2) := by decide +kernel
theorem d_Mo_copy_127 : decode b_Mo_copy 127 = .ok (.isub, 1) := by decide +kernel
theorem d_Mo_copy_128 : decode b_Mo_copy 128 = .ok (.istore 7, 2) := by decide +kernel
theorem d_Mo_copy_130 : decode b_Mo_copy 130 = .ok (.aload_n 0, 1) := by decide +kernel
theorem d_Mo_copy_131 : decode b_Mo_copy 131 = .ok (.getfield 77, 3) := by decide +kernel
theorem d_Mo_copy_134 : decode b_Mo_copy 134 = .ok (.bipush 60, 2) := by decide +kernel
theorem d_Mo_copy_136 : decode b_Mo_copy 136 = .ok (.iload_n 3, 1) := by decide +kernel
theorem d_Mo_copy_137 : decode b_Mo_copy 137 = .ok (.imul, 1) := by decide +kernel
theorem d_Mo_copy_138 : decode b_Mo_copy 138 = .ok (.iload 4, 2) := by decide +kernel
theorem d_Mo_copy_140 : decode b_Mo_copy 140 = .ok (.iadd, 1) := by decide +kernel
theorem d_Mo_copy_141 : decode b_Mo_copy 141 = .ok (.iload 7, 2) := by decide +kernel
theorem d_Mo_copy_143 : decode b_Mo_copy 143 = .ok (.iadd, 1) := by decide +kernel
theorem d_Mo_copy_144 : decode b_Mo_copy 144 = .ok (.aload_n 0, 1) := by decide +kernel
theorem d_Mo_copy_145 : decode b_Mo_copy 145 = .ok (.getfield 77, 3) := by decide +kernel
theorem d_Mo_copy_148 : decode b_Mo_copy 148 = .ok (.bipush 60, 2) := by decide +kernel
theorem d_Mo_copy_150 : decode b_Mo_copy 150 = .ok (.iload_n 1, 1) := by decide +kernel
theorem d_Mo_copy_151 : decode b_Mo_copy 151 = .ok (.imul, 1) := by decide +kernel
theorem d_Mo_copy_152 : decode b_Mo_copy 152 = .ok (.iload_n 2, 1) := by decide +kernel
theorem d_Mo_copy_153 : decode b_Mo_copy 153 = .ok (.iadd, 1) := by decide +kernel
theorem d_Mo_copy_154 : decode b_Mo_copy 154 = .ok (.iload 7, 2) := by decide +kernel
theorem d_Mo_copy_156 : decode b_Mo_copy 156 = .ok (.iadd, 1) := by decide +kernel
theorem d_Mo_copy_157 : decode b_Mo_copy 157 = .ok (.iaload, 1) := by decide +kernel
theorem d_Mo_copy_158 : decode b_Mo_copy 158 = .ok (.iastore, 1) := by decide +kernel
theorem d_Mo_copy_159 : decode b_Mo_copy 159 = .ok (.iinc 6 1, 3) := by decide +kernel
theorem d_Mo_copy_162 : decode b_Mo_copy 162 = .ok (.goto (-59), 3) := by decide +kernel
theorem d_Mo_copy_165 : decode b_Mo_copy 165 = .ok (.iload 5, 2) := by decide +kernel
theorem d_Mo_copy_167 : decode b_Mo_copy 167 = .ok (.ireturn, 1) := by decide +kernel
def B_Mo_copy_103 (k103 : Int32 → Int32 → Int32 → Int32 → Int32 → Int32 → Sto → Option (Int32 × Sto)) (v1 : Int32) (v2 : Int32) (v3 : Int32) (v4 : Int32) (v5 : Int32) (v6 : Int32) (σ : Sto) : Option (Int32 × Sto) :=
  (if v5 ≤ v6 then some (v5, σ)
 else (if v2 ≤ v4 then (lt1 ((v5 - (1 : Int32)) - v6) fun x3 => (if inb ((((60 : Int32) * v1) + v2) + x3) 240 = true then (if inb ((((60 : Int32) * v3) + v4) + x3) 240 = true then (lt1 (sI σ 71 (Int32.toNatClampNeg ((((60 : Int32) * v3) + v4) + x3)) (gI σ 71 (Int32.toNatClampNeg ((((60 : Int32) * v1) + v2) + x3)))) fun σ4 => k103 v1 v2 v3 v4 v5 (v6 + (1 : Int32)) σ4) else none) else none))
  else (if inb ((((60 : Int32) * v1) + v2) + v6) 240 = true then (if inb ((((60 : Int32) * v3) + v4) + v6) 240 = true then (lt1 (sI σ 71 (Int32.toNatClampNeg ((((60 : Int32) * v3) + v4) + v6)) (gI σ 71 (Int32.toNatClampNeg ((((60 : Int32) * v1) + v2) + v6)))) fun σ5 => k103 v1 v2 v3 v4 v5 (v6 + (1 : Int32)) σ5) else none) else none)))
set_option maxHeartbeats 4000000 in
set_option maxRecDepth 100000 in
theorem vB_Mo_copy_103 {X : Xt} {E : En} (g : GG X E 3 b_Mo_copy R_Mo 8) {k103 : Int32 → Int32 → Int32 → Int32 → Int32 → Int32 → Sto → Option (Int32 × Sto)} (hk103 : ∀ (v1 : Int32) (v2 : Int32) (v3 : Int32) (v4 : Int32) (v5 : Int32) (v6 : Int32) (σ : Sto), VV X E b_Mo_copy 8 eI 103 [(0, .ref (E.2.1 48)), (1, .int v1), (2, .int v2), (3, .int v3), (4, .int v4), (5, .int v5), (6, .int v6)] [] σ (k103 v1 v2 v3 v4 v5 v6 σ)) (v1 : Int32) (v2 : Int32) (v3 : Int32) (v4 : Int32) (v5 : Int32) (v6 : Int32) (σ : Sto) : VV X E b_Mo_copy 8 eI 103 [(0, .ref (E.2.1 48)), (1, .int v1), (2, .int v2), (3, .int v3), (4, .int v4), (5, .int v5), (6, .int v6)] [] σ (B_Mo_copy_103 k103 v1 v2 v3 v4 v5 v6 σ) := by
  unfold B_Mo_copy_103
  refine v_iload 6 g d_Mo_copy_103 rfl ?_
  refine v_iload 5 g d_Mo_copy_105 rfl ?_
  refine v_icmp_ge 165 g d_Mo_copy_107 (by decide) (fun _ => ?_) (fun _ => ?_)
  · refine v_iload 5 g d_Mo_copy_165 rfl ?_
    exact v_ret d_Mo_copy_167 rfl
  · refine v_iload_n 2 g d_Mo_copy_110 rfl ?_
    refine v_iload 4 g d_Mo_copy_111 rfl ?_
    refine v_icmp_le 121 g d_Mo_copy_113 (by decide) (fun _ => ?_) (fun _ => ?_)
    · refine v_iload 5 g d_Mo_copy_121 rfl ?_
      refine v_iconst (v := (1 : Int32)) g d_Mo_copy_123 (by decide +kernel) ?_
      refine v_isub g d_Mo_copy_124 ?_
      refine v_iload 6 g d_Mo_copy_125 rfl ?_
      refine v_isub g d_Mo_copy_127 ?_
      refine v_nlet (fun x3 ex3 => ?_)
      rw [← ex3]
      refine v_istore [(7, .int x3), (0, .ref (E.2.1 48)), (1, .int v1), (2, .int v2), (3, .int v3), (4, .int v4), (5, .int v5), (6, .int v6)] g d_Mo_copy_128 (by decide) rfl ?_
      refine v_aload_n 1 g d_Mo_copy_130 rfl ?_
      refine v_getR 71 g ff_Mo_77 rfl rfl rfl d_Mo_copy_131 ?_
      refine v_bipush (v := (60 : Int32)) g d_Mo_copy_134 (by decide +kernel) ?_
      refine v_iload_n 4 g d_Mo_copy_136 rfl ?_
      refine v_imul g d_Mo_copy_137 ?_
      refine v_iload 5 g d_Mo_copy_138 rfl ?_
      refine v_iadd g d_Mo_copy_140 ?_
      refine v_iload 0 g d_Mo_copy_141 rfl ?_
      refine v_iadd g d_Mo_copy_143 ?_
      refine v_aload_n 1 g d_Mo_copy_144 rfl ?_
      refine v_getR 71 g ff_Mo_77 rfl rfl rfl d_Mo_copy_145 ?_
      refine v_bipush (v := (60 : Int32)) g d_Mo_copy_148 (by decide +kernel) ?_
      refine v_iload_n 2 g d_Mo_copy_150 rfl ?_
      refine v_imul g d_Mo_copy_151 ?_
      refine v_iload_n 3 g d_Mo_copy_152 rfl ?_
      refine v_iadd g d_Mo_copy_153 ?_
      refine v_iload 0 g d_Mo_copy_154 rfl ?_
      refine v_iadd g d_Mo_copy_156 ?_
      refine v_iald g rfl rfl d_Mo_copy_157 (fun _ => ?_)
      refine v_iast g rfl rfl d_Mo_copy_158 (fun _ => ?_)
      refine v_nlet (fun σ4 eσ4 => ?_)
      rw [← eσ4]
      refine v_iinc 7 [(6, .int (v6 + (1 : Int32))), (7, .int x3), (0, .ref (E.2.1 48)), (1, .int v1), (2, .int v2), (3, .int v3), (4, .int v4), (5, .int v5)] g d_Mo_copy_159 rfl (v := (1 : Int32)) (by decide +kernel) (by decide) rfl ?_
      refine v_goto 103 g d_Mo_copy_162 (by decide) ?_
      exact v_sub [2,3,4,5,6,7,0] rfl (hk103 v1 v2 v3 v4 v5 (v6 + (1 : Int32)) σ4)
    · refine v_iload 6 g d_Mo_copy_116 rfl ?_
      refine v_goto 128 g d_Mo_copy_118 (by decide) ?_
      refine v_istore [(7, .int v6), (0, .ref (E.2.1 48)), (1, .int v1), (2, .int v2), (3, .int v3), (4, .int v4), (5, .int v5), (6, .int v6)] g d_Mo_copy_128 (by decide) rfl ?_
      refine v_aload_n 1 g d_Mo_copy_130 rfl ?_
      refine v_getR 71 g ff_Mo_77 rfl rfl rfl d_Mo_copy_131 ?_
      refine v_bipush (v := (60 : Int32)) g d_Mo_copy_134 (by decide +kernel) ?_
      refine v_iload_n 4 g d_Mo_copy_136 rfl ?_
      refine v_imul g d_Mo_copy_137 ?_
      refine v_iload 5 g d_Mo_copy_138 rfl ?_
      refine v_iadd g d_Mo_copy_140 ?_
      refine v_iload 0 g d_Mo_copy_141 rfl ?_
      refine v_iadd g d_Mo_copy_143 ?_
      refine v_aload_n 1 g d_Mo_copy_144 rfl ?_
      refine v_getR 71 g ff_Mo_77 rfl rfl rfl d_Mo_copy_145 ?_
      refine v_bipush (v := (60 : Int32)) g d_Mo_copy_148 (by decide +kernel) ?_
      refine v_iload_n 2 g d_Mo_copy_150 rfl ?_
      refine v_imul g d_Mo_copy_151 ?_
      refine v_iload_n 3 g d_Mo_copy_152 rfl ?_
      refine v_iadd g d_Mo_copy_153 ?_
      refine v_iload 0 g d_Mo_copy_154 rfl ?_
      refine v_iadd g d_Mo_copy_156 ?_
      refine v_iald g rfl rfl d_Mo_copy_157 (fun _ => ?_)
      refine v_iast g rfl rfl d_Mo_copy_158 (fun _ => ?_)
      refine v_nlet (fun σ5 eσ5 => ?_)
      rw [← eσ5]
      refine v_iinc 7 [(6, .int (v6 + (1 : Int32))), (7, .int v6), (0, .ref (E.2.1 48)), (1, .int v1), (2, .int v2), (3, .int v3), (4, .int v4), (5, .int v5)] g d_Mo_copy_159 rfl (v := (1 : Int32)) (by decide +kernel) (by decide) rfl ?_
      refine v_goto 103 g d_Mo_copy_162 (by decide) ?_
      exact v_sub [2,3,4,5,6,7,0] rfl (hk103 v1 v2 v3 v4 v5 (v6 + (1 : Int32)) σ5)
def L_Mo_copy_103 : Nat → Int32 → Int32 → Int32 → Int32 → Int32 → Int32 → Sto → Option (Int32 × Sto)
  | 0, _, _, _, _, _, _, _ => none
  | fu + 1, v1, v2, v3, v4, v5, v6, σ => B_Mo_copy_103 (L_Mo_copy_103 fu) v1 v2 v3 v4 v5 v6 σ
theorem vL_Mo_copy_103 {X : Xt} {E : En} (g : GG X E 3 b_Mo_copy R_Mo 8) (fu : Nat) : ∀ (v1 : Int32) (v2 : Int32) (v3 : Int32) (v4 : Int32) (v5 : Int32) (v6 : Int32) (σ : Sto), VV X E b_Mo_copy 8 eI 103 [(0, .ref (E.2.1 48)), (1, .int v1), (2, .int v2), (3, .int v3), (4, .int v4), (5, .int v5), (6, .int v6)] [] σ (L_Mo_copy_103 fu v1 v2 v3 v4 v5 v6 σ) := by
  induction fu with
  | zero => intros; exact v_none
  | succ fu ih =>
    intro v1 v2 v3 v4 v5 v6 σ
    exact vB_Mo_copy_103 g ih v1 v2 v3 v4 v5 v6 σ
def B_Mo_copy_0 (a1 : Int32) (a2 : Int32) (a3 : Int32) (a4 : Int32) (a5 : Int32) (σ : Sto) : Option (Int32 × Sto) :=
  ((f_Mo_isSheet a1 σ).bind fun q1 => (if (b2i q1.1) = 0 then some ((-2 : Int32), q1.2)
 else ((f_Mo_isSheet a3 q1.2).bind fun q2 => (if (b2i q2.1) = 0 then some ((-2 : Int32), q2.2)
  else (if inb a1 4 = true then (if (gI q2.2 69 (Int32.toNatClampNeg a1)) < 0 then some ((-11 : Int32), q2.2)
   else (if inb a3 4 = true then (if 0 ≤ (gI q2.2 69 (Int32.toNatClampNeg a3)) then (if inb a1 4 = true then (if inb a3 4 = true then (if (gI q2.2 69 (Int32.toNatClampNeg a1)) = (gI q2.2 69 (Int32.toNatClampNeg a3)) then (if a5 < 0 then some ((-12 : Int32), q2.2)
      else (if a2 < 0 then some ((-12 : Int32), q2.2)
       else (if a4 < 0 then some ((-12 : Int32), q2.2)
        else (if inb a1 4 = true then (if ((gI q2.2 70 (Int32.toNatClampNeg a1)) - a2) < a5 then some ((-12 : Int32), q2.2)
         else (if inb a3 4 = true then (if a5 ≤ ((gI q2.2 70 (Int32.toNatClampNeg a3)) - a4) then L_Mo_copy_103 LF a1 a2 a3 a4 a5 (0 : Int32) q2.2
          else some ((-12 : Int32), q2.2)) else none)) else none))))
     else some ((-13 : Int32), q2.2)) else none) else none)
    else some ((-11 : Int32), q2.2)) else none)) else none)))))
set_option maxHeartbeats 4000000 in
set_option maxRecDepth 100000 in
theorem vB_Mo_copy_0 {X : Xt} {E : En} (g : GG X E 3 b_Mo_copy R_Mo 8) (a1 : Int32) (a2 : Int32) (a3 : Int32) (a4 : Int32) (a5 : Int32) (σ : Sto) : VV X E b_Mo_copy 8 eI 0 [(0, .ref (E.2.1 48)), (1, .int a1), (2, .int a2), (3, .int a3), (4, .int a4), (5, .int a5)] [] σ (B_Mo_copy_0 a1 a2 a3 a4 a5 σ) := by
  unfold B_Mo_copy_0
  refine v_iload_n 1 g d_Mo_copy_0 rfl ?_
  refine v_callB (r_S (rest := []) [.int a1] g (m1 1401 (by decide +kernel) (by decide +kernel)) ys_Mo_isSheet (fun r σ1 h => sp_Mo_isSheet g.2.2.1  h) rfl rfl (by decide) (Nat.le_of_ble_eq_true rfl) d_Mo_copy_1) (fun q1 => ?_)
  refine v_if_eq 14 g d_Mo_copy_4 (by decide) (fun _ => ?_) (fun _ => ?_)
  · refine v_bipush (v := (-2 : Int32)) g d_Mo_copy_14 (by decide +kernel) ?_
    exact v_ret d_Mo_copy_16 rfl
  · refine v_iload_n 3 g d_Mo_copy_7 rfl ?_
    refine v_callB (r_S (rest := []) [.int a3] g (m1 1401 (by decide +kernel) (by decide +kernel)) ys_Mo_isSheet (fun r σ1 h => sp_Mo_isSheet g.2.2.1  h) rfl rfl (by decide) (Nat.le_of_ble_eq_true rfl) d_Mo_copy_8) (fun q2 => ?_)
    refine v_if_ne 17 g d_Mo_copy_11 (by decide) (fun _ => ?_) (fun _ => ?_)
    · refine v_aload_n 0 g d_Mo_copy_17 rfl ?_
      refine v_getR 69 g ff_Mo_71 rfl rfl rfl d_Mo_copy_18 ?_
      refine v_iload_n 1 g d_Mo_copy_21 rfl ?_
      refine v_iald g rfl rfl d_Mo_copy_22 (fun _ => ?_)
      refine v_if_lt 35 g d_Mo_copy_23 (by decide) (fun _ => ?_) (fun _ => ?_)
      · refine v_bipush (v := (-11 : Int32)) g d_Mo_copy_35 (by decide +kernel) ?_
        exact v_ret d_Mo_copy_37 rfl
      · refine v_aload_n 0 g d_Mo_copy_26 rfl ?_
        refine v_getR 69 g ff_Mo_71 rfl rfl rfl d_Mo_copy_27 ?_
        refine v_iload_n 3 g d_Mo_copy_30 rfl ?_
        refine v_iald g rfl rfl d_Mo_copy_31 (fun _ => ?_)
        refine v_if_ge 38 g d_Mo_copy_32 (by decide) (fun _ => ?_) (fun _ => ?_)
        · refine v_aload_n 0 g d_Mo_copy_38 rfl ?_
          refine v_getR 69 g ff_Mo_71 rfl rfl rfl d_Mo_copy_39 ?_
          refine v_iload_n 1 g d_Mo_copy_42 rfl ?_
          refine v_iald g rfl rfl d_Mo_copy_43 (fun _ => ?_)
          refine v_aload_n 0 g d_Mo_copy_44 rfl ?_
          refine v_getR 69 g ff_Mo_71 rfl rfl rfl d_Mo_copy_45 ?_
          refine v_iload_n 3 g d_Mo_copy_48 rfl ?_
          refine v_iald g rfl rfl d_Mo_copy_49 (fun _ => ?_)
          refine v_icmp_eq 56 g d_Mo_copy_50 (by decide) (fun _ => ?_) (fun _ => ?_)
          · refine v_iload 5 g d_Mo_copy_56 rfl ?_
            refine v_if_lt 97 g d_Mo_copy_58 (by decide) (fun _ => ?_) (fun _ => ?_)
            · refine v_bipush (v := (-12 : Int32)) g d_Mo_copy_97 (by decide +kernel) ?_
              exact v_ret d_Mo_copy_99 rfl
            · refine v_iload_n 2 g d_Mo_copy_61 rfl ?_
              refine v_if_lt 97 g d_Mo_copy_62 (by decide) (fun _ => ?_) (fun _ => ?_)
              · refine v_bipush (v := (-12 : Int32)) g d_Mo_copy_97 (by decide +kernel) ?_
                exact v_ret d_Mo_copy_99 rfl
              · refine v_iload 4 g d_Mo_copy_65 rfl ?_
                refine v_if_lt 97 g d_Mo_copy_67 (by decide) (fun _ => ?_) (fun _ => ?_)
                · refine v_bipush (v := (-12 : Int32)) g d_Mo_copy_97 (by decide +kernel) ?_
                  exact v_ret d_Mo_copy_99 rfl
                · refine v_iload 5 g d_Mo_copy_70 rfl ?_
                  refine v_aload_n 0 g d_Mo_copy_72 rfl ?_
                  refine v_getR 70 g ff_Mo_74 rfl rfl rfl d_Mo_copy_73 ?_
                  refine v_iload_n 1 g d_Mo_copy_76 rfl ?_
                  refine v_iald g rfl rfl d_Mo_copy_77 (fun _ => ?_)
                  refine v_iload_n 2 g d_Mo_copy_78 rfl ?_
                  refine v_isub g d_Mo_copy_79 ?_
                  refine v_icmp_gt 97 g d_Mo_copy_80 (by decide) (fun _ => ?_) (fun _ => ?_)
                  · refine v_bipush (v := (-12 : Int32)) g d_Mo_copy_97 (by decide +kernel) ?_
                    exact v_ret d_Mo_copy_99 rfl
                  · refine v_iload 5 g d_Mo_copy_83 rfl ?_
                    refine v_aload_n 0 g d_Mo_copy_85 rfl ?_
                    refine v_getR 70 g ff_Mo_74 rfl rfl rfl d_Mo_copy_86 ?_
                    refine v_iload_n 3 g d_Mo_copy_89 rfl ?_
                    refine v_iald g rfl rfl d_Mo_copy_90 (fun _ => ?_)
                    refine v_iload 4 g d_Mo_copy_91 rfl ?_
                    refine v_isub g d_Mo_copy_93 ?_
                    refine v_icmp_le 100 g d_Mo_copy_94 (by decide) (fun _ => ?_) (fun _ => ?_)
                    · refine v_iconst (v := (0 : Int32)) g d_Mo_copy_100 (by decide +kernel) ?_
                      refine v_istore [(6, .int (0 : Int32)), (0, .ref (E.2.1 48)), (1, .int a1), (2, .int a2), (3, .int a3), (4, .int a4), (5, .int a5)] g d_Mo_copy_101 (by decide) rfl ?_
                      exact v_sub [1,2,3,4,5,6,0] rfl (vL_Mo_copy_103 g LF a1 a2 a3 a4 a5 (0 : Int32) q2.2)
                    · refine v_bipush (v := (-12 : Int32)) g d_Mo_copy_97 (by decide +kernel) ?_
                      exact v_ret d_Mo_copy_99 rfl
          · refine v_bipush (v := (-13 : Int32)) g d_Mo_copy_53 (by decide +kernel) ?_
            exact v_ret d_Mo_copy_55 rfl
        · refine v_bipush (v := (-11 : Int32)) g d_Mo_copy_35 (by decide +kernel) ?_
          exact v_ret d_Mo_copy_37 rfl
    · refine v_bipush (v := (-2 : Int32)) g d_Mo_copy_14 (by decide +kernel) ?_
      exact v_ret d_Mo_copy_16 rfl
def f_Mo_copy (a1 : Int32) (a2 : Int32) (a3 : Int32) (a4 : Int32) (a5 : Int32) (σ : Sto) : Option (Int32 × Sto) := B_Mo_copy_0 a1 a2 a3 a4 a5 σ
theorem sp_Mo_copy {l : Launch} {E : En} (hE : Dj E) {a1 : Int32} {a2 : Int32} {a3 : Int32} {a4 : Int32} {a5 : Int32} {σ : Sto} {r : Int32} {σ' : Sto} (h : f_Mo_copy a1 a2 a3 a4 a5 σ = some (r, σ')) : Ct l E y_Mo_copy (wsM y_Mo_copy b_Mo_copy 8 (some .int)) 3 [.ref (E.2.1 48), .int a1, .int a2, .int a3, .int a4, .int a5] σ (eI r) σ' :=
  ct_of hE (by decide +kernel) (Nat.le_of_ble_eq_true rfl) (fun x => Or.inl ⟨rfl, x, rfl⟩) (fun X _ g => vB_Mo_copy_0 g a1 a2 a3 a4 a5 σ) r σ' h
/-! method FittingRingsModel.image()I -/
theorem yv_Mo_image : YV y_Mo_image b_Mo_image 1 (some .int) 0 10 := ⟨m1 1556 (by decide +kernel) (by decide +kernel), m1 1557 (by decide +kernel) (by decide +kernel), ini_Mo, m1 1558 (by decide +kernel) (by decide +kernel), ⟨by decide +kernel, by decide +kernel, by decide +kernel⟩, by decide, by decide, T_Mo, 39, rfl⟩
theorem d_Mo_image_0 : decode b_Mo_image 0 = .ok (.aload_n 0, 1) := by decide +kernel
theorem d_Mo_image_1 : decode b_Mo_image 1 = .ok (.iconst 1, 1) := by decide +kernel
theorem d_Mo_image_2 : decode b_Mo_image 2 = .ok (.putfield 358, 3) := by decide +kernel
theorem d_Mo_image_5 : decode b_Mo_image 5 = .ok (.aload_n 0, 1) := by decide +kernel
theorem d_Mo_image_6 : decode b_Mo_image 6 = .ok (.aload_n 0, 1) := by decide +kernel
theorem d_Mo_image_7 : decode b_Mo_image 7 = .ok (.getfield 80, 3) := by decide +kernel
theorem d_Mo_image_10 : decode b_Mo_image 10 = .ok (.putfield 362, 3) := by decide +kernel
theorem d_Mo_image_13 : decode b_Mo_image 13 = .ok (.aload_n 0, 1) := by decide +kernel
theorem d_Mo_image_14 : decode b_Mo_image 14 = .ok (.getfield 9, 3) := by decide +kernel
theorem d_Mo_image_17 : decode b_Mo_image 17 = .ok (.aload_n 0, 1) := by decide +kernel
theorem d_Mo_image_18 : decode b_Mo_image 18 = .ok (.getfield 20, 3) := by decide +kernel
theorem d_Mo_image_21 : decode b_Mo_image 21 = .ok (.aload_n 0, 1) := by decide +kernel
theorem d_Mo_image_22 : decode b_Mo_image 22 = .ok (.getfield 13, 3) := by decide +kernel
theorem d_Mo_image_25 : decode b_Mo_image 25 = .ok (.aload_n 0, 1) := by decide +kernel
theorem d_Mo_image_26 : decode b_Mo_image 26 = .ok (.getfield 23, 3) := by decide +kernel
theorem d_Mo_image_29 : decode b_Mo_image 29 = .ok (.aload_n 0, 1) := by decide +kernel
theorem d_Mo_image_30 : decode b_Mo_image 30 = .ok (.getfield 16, 3) := by decide +kernel
theorem d_Mo_image_33 : decode b_Mo_image 33 = .ok (.aload_n 0, 1) := by decide +kernel
theorem d_Mo_image_34 : decode b_Mo_image 34 = .ok (.getfield 26, 3) := by decide +kernel
theorem d_Mo_image_37 : decode b_Mo_image 37 = .ok (.invokestatic 323, 3) := by decide +kernel
theorem d_Mo_image_40 : decode b_Mo_image 40 = .ok (.aload_n 0, 1) := by decide +kernel
theorem d_Mo_image_41 : decode b_Mo_image 41 = .ok (.getfield 80, 3) := by decide +kernel
theorem d_Mo_image_44 : decode b_Mo_image 44 = .ok (.ireturn, 1) := by decide +kernel
def B_Mo_image_0 (σ : Sto) : Option (Int32 × Sto) :=
  (lt1 (sI (sI σ 48 4 (1 : Int32)) 48 5 (gI (sI σ 48 4 (1 : Int32)) 48 0)) fun σ1 => ((f_Mo_copies 49 52 50 53 51 54 σ1).bind fun q2 => some ((gI q2.2 48 0), q2.2)))
set_option maxHeartbeats 4000000 in
set_option maxRecDepth 100000 in
theorem vB_Mo_image_0 {X : Xt} {E : En} (g : GG X E 2 b_Mo_image R_Mo 1) (σ : Sto) : VV X E b_Mo_image 1 eI 0 [(0, .ref (E.2.1 48))] [] σ (B_Mo_image_0 σ) := by
  unfold B_Mo_image_0
  refine v_aload_n 0 g d_Mo_image_0 rfl ?_
  refine v_iconst (v := (1 : Int32)) g d_Mo_image_1 (by decide +kernel) ?_
  refine v_putZ g fp_Mo_358 rfl rfl (by decide) d_Mo_image_2 ?_
  refine v_aload_n 0 g d_Mo_image_5 rfl ?_
  refine v_aload_n 0 g d_Mo_image_6 rfl ?_
  refine v_getI g ff_Mo_80 rfl rfl d_Mo_image_7 ?_
  refine v_putI g fp_Mo_362 rfl rfl d_Mo_image_10 ?_
  refine v_nlet (fun σ1 eσ1 => ?_)
  rw [← eσ1]
  refine v_aload_n 0 g d_Mo_image_13 rfl ?_
  refine v_getR 49 g ff_Mo_9 rfl rfl rfl d_Mo_image_14 ?_
  refine v_aload_n 0 g d_Mo_image_17 rfl ?_
  refine v_getR 52 g ff_Mo_20 rfl rfl rfl d_Mo_image_18 ?_
  refine v_aload_n 0 g d_Mo_image_21 rfl ?_
  refine v_getR 50 g ff_Mo_13 rfl rfl rfl d_Mo_image_22 ?_
  refine v_aload_n 0 g d_Mo_image_25 rfl ?_
  refine v_getR 53 g ff_Mo_23 rfl rfl rfl d_Mo_image_26 ?_
  refine v_aload_n 0 g d_Mo_image_29 rfl ?_
  refine v_getR 51 g ff_Mo_16 rfl rfl rfl d_Mo_image_30 ?_
  refine v_aload_n 0 g d_Mo_image_33 rfl ?_
  refine v_getR 54 g ff_Mo_26 rfl rfl rfl d_Mo_image_34 ?_
  refine v_callU (r_S (rest := []) [.ref (E.2.1 49), .ref (E.2.1 52), .ref (E.2.1 50), .ref (E.2.1 53), .ref (E.2.1 51), .ref (E.2.1 54)] g (m1 1446 (by decide +kernel) (by decide +kernel)) ys_Mo_copies (fun r σ1 h => sp_Mo_copies g.2.2.1 rfl rfl rfl rfl rfl rfl h) rfl rfl (by decide) (Nat.le_of_ble_eq_true rfl) d_Mo_image_37) (fun q2 => ?_)
  refine v_aload_n 0 g d_Mo_image_40 rfl ?_
  refine v_getI g ff_Mo_80 rfl rfl d_Mo_image_41 ?_
  exact v_ret d_Mo_image_44 rfl
def f_Mo_image (σ : Sto) : Option (Int32 × Sto) := B_Mo_image_0 σ
theorem sp_Mo_image {l : Launch} {E : En} (hE : Dj E) {σ : Sto} {r : Int32} {σ' : Sto} (h : f_Mo_image σ = some (r, σ')) : Ct l E y_Mo_image (wsM y_Mo_image b_Mo_image 1 (some .int)) 2 [.ref (E.2.1 48)] σ (eI r) σ' :=
  ct_of hE (by decide +kernel) (Nat.le_of_ble_eq_true rfl) (fun x => Or.inl ⟨rfl, x, rfl⟩) (fun X _ g => vB_Mo_image_0 g σ) r σ' h
/-! method FittingRingsModel.back()I -/
theorem yv_Mo_back : YV y_Mo_back b_Mo_back 1 (some .int) 0 10 := ⟨m1 1560 (by decide +kernel) (by decide +kernel), m1 1561 (by decide +kernel) (by decide +kernel), ini_Mo, m1 1562 (by decide +kernel) (by decide +kernel), ⟨by decide +kernel, by decide +kernel, by decide +kernel⟩, by decide, by decide, T_Mo, 39, rfl⟩
theorem d_Mo_back_0 : decode b_Mo_back 0 = .ok (.aload_n 0, 1) := by decide +kernel
theorem d_Mo_back_1 : decode b_Mo_back 1 = .ok (.getfield 358, 3) := by decide +kernel
theorem d_Mo_back_4 : decode b_Mo_back 4 = .ok (.ifCond .ne 6, 3) := by decide +kernel
theorem d_Mo_back_7 : decode b_Mo_back 7 = .ok (.bipush (-3), 2) := by decide +kernel
theorem d_Mo_back_9 : decode b_Mo_back 9 = .ok (.ireturn, 1) := by decide +kernel
theorem d_Mo_back_10 : decode b_Mo_back 10 = .ok (.aload_n 0, 1) := by decide +kernel
theorem d_Mo_back_11 : decode b_Mo_back 11 = .ok (.aload_n 0, 1) := by decide +kernel
theorem d_Mo_back_12 : decode b_Mo_back 12 = .ok (.getfield 362, 3) := by decide +kernel
theorem d_Mo_back_15 : decode b_Mo_back 15 = .ok (.putfield 80, 3) := by decide +kernel
theorem d_Mo_back_18 : decode b_Mo_back 18 = .ok (.aload_n 0, 1) := by decide +kernel
theorem d_Mo_back_19 : decode b_Mo_back 19 = .ok (.getfield 20, 3) := by decide +kernel
theorem d_Mo_back_22 : decode b_Mo_back 22 = .ok (.aload_n 0, 1) := by decide +kernel
theorem d_Mo_back_23 : decode b_Mo_back 23 = .ok (.getfield 9, 3) := by decide +kernel
theorem d_Mo_back_26 : decode b_Mo_back 26 = .ok (.aload_n 0, 1) := by decide +kernel
theorem d_Mo_back_27 : decode b_Mo_back 27 = .ok (.getfield 23, 3) := by decide +kernel
theorem d_Mo_back_30 : decode b_Mo_back 30 = .ok (.aload_n 0, 1) := by decide +kernel
theorem d_Mo_back_31 : decode b_Mo_back 31 = .ok (.getfield 13, 3) := by decide +kernel
theorem d_Mo_back_34 : decode b_Mo_back 34 = .ok (.aload_n 0, 1) := by decide +kernel
theorem d_Mo_back_35 : decode b_Mo_back 35 = .ok (.getfield 26, 3) := by decide +kernel
theorem d_Mo_back_38 : decode b_Mo_back 38 = .ok (.aload_n 0, 1) := by decide +kernel
theorem d_Mo_back_39 : decode b_Mo_back 39 = .ok (.getfield 16, 3) := by decide +kernel
theorem d_Mo_back_42 : decode b_Mo_back 42 = .ok (.invokestatic 323, 3) := by decide +kernel
theorem d_Mo_back_45 : decode b_Mo_back 45 = .ok (.aload_n 0, 1) := by decide +kernel
theorem d_Mo_back_46 : decode b_Mo_back 46 = .ok (.getfield 80, 3) := by decide +kernel
theorem d_Mo_back_49 : decode b_Mo_back 49 = .ok (.ireturn, 1) := by decide +kernel
def B_Mo_back_0 (σ : Sto) : Option (Int32 × Sto) :=
  (if (gI σ 48 4) = 0 then some ((-3 : Int32), σ)
 else ((f_Mo_copies 52 49 53 50 54 51 (sI σ 48 0 (gI σ 48 5))).bind fun q1 => some ((gI q1.2 48 0), q1.2)))
set_option maxHeartbeats 4000000 in
set_option maxRecDepth 100000 in
theorem vB_Mo_back_0 {X : Xt} {E : En} (g : GG X E 2 b_Mo_back R_Mo 1) (σ : Sto) : VV X E b_Mo_back 1 eI 0 [(0, .ref (E.2.1 48))] [] σ (B_Mo_back_0 σ) := by
  unfold B_Mo_back_0
  refine v_aload_n 0 g d_Mo_back_0 rfl ?_
  refine v_getI g ff_Mo_358 rfl rfl d_Mo_back_1 ?_
  refine v_if_ne 10 g d_Mo_back_4 (by decide) (fun _ => ?_) (fun _ => ?_)
  · refine v_aload_n 0 g d_Mo_back_10 rfl ?_
    refine v_aload_n 0 g d_Mo_back_11 rfl ?_
    refine v_getI g ff_Mo_362 rfl rfl d_Mo_back_12 ?_
    refine v_putI g fp_Mo_80 rfl rfl d_Mo_back_15 ?_
    refine v_aload_n 0 g d_Mo_back_18 rfl ?_
    refine v_getR 52 g ff_Mo_20 rfl rfl rfl d_Mo_back_19 ?_
    refine v_aload_n 0 g d_Mo_back_22 rfl ?_
    refine v_getR 49 g ff_Mo_9 rfl rfl rfl d_Mo_back_23 ?_
    refine v_aload_n 0 g d_Mo_back_26 rfl ?_
    refine v_getR 53 g ff_Mo_23 rfl rfl rfl d_Mo_back_27 ?_
    refine v_aload_n 0 g d_Mo_back_30 rfl ?_
    refine v_getR 50 g ff_Mo_13 rfl rfl rfl d_Mo_back_31 ?_
    refine v_aload_n 0 g d_Mo_back_34 rfl ?_
    refine v_getR 54 g ff_Mo_26 rfl rfl rfl d_Mo_back_35 ?_
    refine v_aload_n 0 g d_Mo_back_38 rfl ?_
    refine v_getR 51 g ff_Mo_16 rfl rfl rfl d_Mo_back_39 ?_
    refine v_callU (r_S (rest := []) [.ref (E.2.1 52), .ref (E.2.1 49), .ref (E.2.1 53), .ref (E.2.1 50), .ref (E.2.1 54), .ref (E.2.1 51)] g (m1 1446 (by decide +kernel) (by decide +kernel)) ys_Mo_copies (fun r σ1 h => sp_Mo_copies g.2.2.1 rfl rfl rfl rfl rfl rfl h) rfl rfl (by decide) (Nat.le_of_ble_eq_true rfl) d_Mo_back_42) (fun q1 => ?_)
    refine v_aload_n 0 g d_Mo_back_45 rfl ?_
    refine v_getI g ff_Mo_80 rfl rfl d_Mo_back_46 ?_
    exact v_ret d_Mo_back_49 rfl
  · refine v_bipush (v := (-3 : Int32)) g d_Mo_back_7 (by decide +kernel) ?_
    exact v_ret d_Mo_back_9 rfl
def f_Mo_back (σ : Sto) : Option (Int32 × Sto) := B_Mo_back_0 σ
theorem sp_Mo_back {l : Launch} {E : En} (hE : Dj E) {σ : Sto} {r : Int32} {σ' : Sto} (h : f_Mo_back σ = some (r, σ')) : Ct l E y_Mo_back (wsM y_Mo_back b_Mo_back 1 (some .int)) 2 [.ref (E.2.1 48)] σ (eI r) σ' :=
  ct_of hE (by decide +kernel) (Nat.le_of_ble_eq_true rfl) (fun x => Or.inl ⟨rfl, x, rfl⟩) (fun X _ g => vB_Mo_back_0 g σ) r σ' h
/-! method FittingRingsModel.count(I)I -/
theorem yv_Mo_count : YV y_Mo_count b_Mo_count 4 (some .int) 1 10 := ⟨m1 1564 (by decide +kernel) (by decide +kernel), m1 1565 (by decide +kernel) (by decide +kernel), ini_Mo, m1 1566 (by decide +kernel) (by decide +kernel), ⟨by decide +kernel, by decide +kernel, by decide +kernel⟩, by decide, by decide, T_Mo, 39, rfl⟩
theorem d_Mo_count_0 : decode b_Mo_count 0 = .ok (.iconst 0, 1) := by decide +kernel
theorem d_Mo_count_1 : decode b_Mo_count 1 = .ok (.istore_n 2, 1) := by decide +kernel
theorem d_Mo_count_2 : decode b_Mo_count 2 = .ok (.iconst 0, 1) := by decide +kernel
theorem d_Mo_count_3 : decode b_Mo_count 3 = .ok (.istore_n 3, 1) := by decide +kernel
theorem d_Mo_count_4 : decode b_Mo_count 4 = .ok (.iload_n 3, 1) := by decide +kernel
theorem d_Mo_count_5 : decode b_Mo_count 5 = .ok (.aload_n 0, 1) := by decide +kernel
theorem d_Mo_count_6 : decode b_Mo_count 6 = .ok (.getfield 80, 3) := by decide +kernel
theorem d_Mo_count_9 : decode b_Mo_count 9 = .ok (.if_icmp .ge 21, 3) := by decide +kernel
theorem d_Mo_count_12 : decode b_Mo_count 12 = .ok (.iload_n 2, 1) := by decide +kernel
theorem d_Mo_count_13 : decode b_Mo_count 13 = .ok (.aload_n 0, 1) := by decide +kernel
theorem d_Mo_count_14 : decode b_Mo_count 14 = .ok (.getfield 16, 3) := by decide +kernel
theorem d_Mo_count_17 : decode b_Mo_count 17 = .ok (.iload_n 3, 1) := by decide +kernel
theorem d_Mo_count_18 : decode b_Mo_count 18 = .ok (.laload, 1) := by decide +kernel
theorem d_Mo_count_19 : decode b_Mo_count 19 = .ok (.invokestatic 96, 3) := by decide +kernel
theorem d_Mo_count_22 : decode b_Mo_count 22 = .ok (.iadd, 1) := by decide +kernel
theorem d_Mo_count_23 : decode b_Mo_count 23 = .ok (.istore_n 2, 1) := by decide +kernel
theorem d_Mo_count_24 : decode b_Mo_count 24 = .ok (.iinc 3 1, 3) := by decide +kernel
theorem d_Mo_count_27 : decode b_Mo_count 27 = .ok (.goto (-23), 3) := by decide +kernel
theorem d_Mo_count_30 : decode b_Mo_count 30 = .ok (.iload_n 1, 1) := by decide +kernel
theorem d_Mo_count_31 : decode b_Mo_count 31 = .ok (.ifCond .ne 10, 3) := by decide +kernel
theorem d_Mo_count_34 : decode b_Mo_count 34 = .ok (.aload_n 0, 1) := by decide +kernel
theorem d_Mo_count_35 : decode b_Mo_count 35 = .ok (.getfield 80, 3) := by decide +kernel
theorem d_Mo_count_38 : decode b_Mo_count 38 = .ok (.goto 40, 3) := by decide +kernel
theorem d_Mo_count_41 : decode b_Mo_count 41 = .ok (.iload_n 1, 1) := by decide +kernel
theorem d_Mo_count_42 : decode b_Mo_count 42 = .ok (.iconst 1, 1) := by decide +kernel
theorem d_Mo_count_43 : decode b_Mo_count 43 = .ok (.if_icmp .ne 9, 3) := by decide +kernel
theorem d_Mo_count_46 : decode b_Mo_count 46 = .ok (.iload_n 2, 1) := by decide +kernel
theorem d_Mo_count_47 : decode b_Mo_count 47 = .ok (.iconst 2, 1) := by decide +kernel
theorem d_Mo_count_48 : decode b_Mo_count 48 = .ok (.idiv, 1) := by decide +kernel
theorem d_Mo_count_49 : decode b_Mo_count 49 = .ok (.goto 29, 3) := by decide +kernel
theorem d_Mo_count_52 : decode b_Mo_count 52 = .ok (.iload_n 1, 1) := by decide +kernel
theorem d_Mo_count_53 : decode b_Mo_count 53 = .ok (.iconst 2, 1) := by decide +kernel
theorem d_Mo_count_54 : decode b_Mo_count 54 = .ok (.if_icmp .ne 10, 3) := by decide +kernel
theorem d_Mo_count_57 : decode b_Mo_count 57 = .ok (.aload_n 0, 1) := by decide +kernel
theorem d_Mo_count_58 : decode b_Mo_count 58 = .ok (.getfield 276, 3) := by decide +kernel
theorem d_Mo_count_61 : decode b_Mo_count 61 = .ok (.goto 17, 3) := by decide +kernel
theorem d_Mo_count_64 : decode b_Mo_count 64 = .ok (.iload_n 1, 1) := by decide +kernel
theorem d_Mo_count_65 : decode b_Mo_count 65 = .ok (.iconst 3, 1) := by decide +kernel
theorem d_Mo_count_66 : decode b_Mo_count 66 = .ok (.if_icmp .ne 10, 3) := by decide +kernel
theorem d_Mo_count_69 : decode b_Mo_count 69 = .ok (.aload_n 0, 1) := by decide +kernel
theorem d_Mo_count_70 : decode b_Mo_count 70 = .ok (.getfield 249, 3) := by decide +kernel
theorem d_Mo_count_73 : decode b_Mo_count 73 = .ok (.goto 5, 3) := by decide +kernel
theorem d_Mo_count_76 : decode b_Mo_count 76 = .ok (.bipush (-2), 2) := by decide +kernel
theorem d_Mo_count_78 : decode b_Mo_count 78 = .ok (.ireturn, 1) := by decide +kernel
def B_Mo_count_4 (k4 : Int32 → Int32 → Int32 → Sto → Option (Int32 × Sto)) (v1 : Int32) (v2 : Int32) (v3 : Int32) (σ : Sto) : Option (Int32 × Sto) :=
  (if (gI σ 48 0) ≤ v3 then (if v1 = 0 then some ((gI σ 48 0), σ)
  else (if v1 = (1 : Int32) then (if ¬ (2 : Int32) = 0 then some ((v2 / (2 : Int32)), σ) else none)
   else (if v1 = (2 : Int32) then some ((gI σ 48 24), σ)
    else (if v1 = (3 : Int32) then some ((gI σ 48 19), σ)
     else some ((-2 : Int32), σ)))))
 else (if inb v3 40 = true then ((f_Mo_many (gL σ 51 (Int32.toNatClampNeg v3)) σ).bind fun q1 => k4 v1 (v2 + q1.1) (v3 + (1 : Int32)) q1.2) else none))
set_option maxHeartbeats 4000000 in
set_option maxRecDepth 100000 in
theorem vB_Mo_count_4 {X : Xt} {E : En} (g : GG X E 2 b_Mo_count R_Mo 4) {k4 : Int32 → Int32 → Int32 → Sto → Option (Int32 × Sto)} (hk4 : ∀ (v1 : Int32) (v2 : Int32) (v3 : Int32) (σ : Sto), VV X E b_Mo_count 4 eI 4 [(0, .ref (E.2.1 48)), (1, .int v1), (2, .int v2), (3, .int v3)] [] σ (k4 v1 v2 v3 σ)) (v1 : Int32) (v2 : Int32) (v3 : Int32) (σ : Sto) : VV X E b_Mo_count 4 eI 4 [(0, .ref (E.2.1 48)), (1, .int v1), (2, .int v2), (3, .int v3)] [] σ (B_Mo_count_4 k4 v1 v2 v3 σ) := by
  unfold B_Mo_count_4
  refine v_iload_n 3 g d_Mo_count_4 rfl ?_
  refine v_aload_n 0 g d_Mo_count_5 rfl ?_
  refine v_getI g ff_Mo_80 rfl rfl d_Mo_count_6 ?_
  refine v_icmp_ge 30 g d_Mo_count_9 (by decide) (fun _ => ?_) (fun _ => ?_)
  · refine v_iload_n 1 g d_Mo_count_30 rfl ?_
    refine v_if_ne 41 g d_Mo_count_31 (by decide) (fun _ => ?_) (fun _ => ?_)
    · refine v_iload_n 1 g d_Mo_count_41 rfl ?_
      refine v_iconst (v := (1 : Int32)) g d_Mo_count_42 (by decide +kernel) ?_
      refine v_icmp_ne 52 g d_Mo_count_43 (by decide) (fun _ => ?_) (fun _ => ?_)
      · refine v_iload_n 1 g d_Mo_count_52 rfl ?_
        refine v_iconst (v := (2 : Int32)) g d_Mo_count_53 (by decide +kernel) ?_
        refine v_icmp_ne 64 g d_Mo_count_54 (by decide) (fun _ => ?_) (fun _ => ?_)
        · refine v_iload_n 1 g d_Mo_count_64 rfl ?_
          refine v_iconst (v := (3 : Int32)) g d_Mo_count_65 (by decide +kernel) ?_
          refine v_icmp_ne 76 g d_Mo_count_66 (by decide) (fun _ => ?_) (fun _ => ?_)
          · refine v_bipush (v := (-2 : Int32)) g d_Mo_count_76 (by decide +kernel) ?_
            exact v_ret d_Mo_count_78 rfl
          · refine v_aload_n 0 g d_Mo_count_69 rfl ?_
            refine v_getI g ff_Mo_249 rfl rfl d_Mo_count_70 ?_
            refine v_goto 78 g d_Mo_count_73 (by decide) ?_
            exact v_ret d_Mo_count_78 rfl
        · refine v_aload_n 0 g d_Mo_count_57 rfl ?_
          refine v_getI g ff_Mo_276 rfl rfl d_Mo_count_58 ?_
          refine v_goto 78 g d_Mo_count_61 (by decide) ?_
          exact v_ret d_Mo_count_78 rfl
      · refine v_iload_n 2 g d_Mo_count_46 rfl ?_
        refine v_iconst (v := (2 : Int32)) g d_Mo_count_47 (by decide +kernel) ?_
        refine v_idiv g d_Mo_count_48 (fun _ => ?_)
        refine v_goto 78 g d_Mo_count_49 (by decide) ?_
        exact v_ret d_Mo_count_78 rfl
    · refine v_aload_n 0 g d_Mo_count_34 rfl ?_
      refine v_getI g ff_Mo_80 rfl rfl d_Mo_count_35 ?_
      refine v_goto 78 g d_Mo_count_38 (by decide) ?_
      exact v_ret d_Mo_count_78 rfl
  · refine v_iload_n 2 g d_Mo_count_12 rfl ?_
    refine v_aload_n 0 g d_Mo_count_13 rfl ?_
    refine v_getR 51 g ff_Mo_16 rfl rfl rfl d_Mo_count_14 ?_
    refine v_iload_n 3 g d_Mo_count_17 rfl ?_
    refine v_lald g rfl rfl d_Mo_count_18 (fun _ => ?_)
    refine v_callI (r_S (rest := [.int v2]) [.long (gL σ 51 (Int32.toNatClampNeg v3))] g (m1 1188 (by decide +kernel) (by decide +kernel)) ys_Mo_many (fun r σ1 h => sp_Mo_many g.2.2.1  h) rfl rfl (by decide) (Nat.le_of_ble_eq_true rfl) d_Mo_count_19) (fun q1 => ?_)
    refine v_iadd g d_Mo_count_22 ?_
    refine v_istore_n [(2, .int (v2 + q1.1)), (0, .ref (E.2.1 48)), (1, .int v1), (3, .int v3)] g d_Mo_count_23 (by decide) rfl ?_
    refine v_iinc 3 [(3, .int (v3 + (1 : Int32))), (2, .int (v2 + q1.1)), (0, .ref (E.2.1 48)), (1, .int v1)] g d_Mo_count_24 rfl (v := (1 : Int32)) (by decide +kernel) (by decide) rfl ?_
    refine v_goto 4 g d_Mo_count_27 (by decide) ?_
    exact v_sub [2,3,1,0] rfl (hk4 v1 (v2 + q1.1) (v3 + (1 : Int32)) q1.2)
def L_Mo_count_4 : Nat → Int32 → Int32 → Int32 → Sto → Option (Int32 × Sto)
  | 0, _, _, _, _ => none
  | fu + 1, v1, v2, v3, σ => B_Mo_count_4 (L_Mo_count_4 fu) v1 v2 v3 σ
theorem vL_Mo_count_4 {X : Xt} {E : En} (g : GG X E 2 b_Mo_count R_Mo 4) (fu : Nat) : ∀ (v1 : Int32) (v2 : Int32) (v3 : Int32) (σ : Sto), VV X E b_Mo_count 4 eI 4 [(0, .ref (E.2.1 48)), (1, .int v1), (2, .int v2), (3, .int v3)] [] σ (L_Mo_count_4 fu v1 v2 v3 σ) := by
  induction fu with
  | zero => intros; exact v_none
  | succ fu ih =>
    intro v1 v2 v3 σ
    exact vB_Mo_count_4 g ih v1 v2 v3 σ
def B_Mo_count_0 (a1 : Int32) (σ : Sto) : Option (Int32 × Sto) :=
  L_Mo_count_4 LF a1 (0 : Int32) (0 : Int32) σ
set_option maxHeartbeats 4000000 in
set_option maxRecDepth 100000 in
theorem vB_Mo_count_0 {X : Xt} {E : En} (g : GG X E 2 b_Mo_count R_Mo 4) (a1 : Int32) (σ : Sto) : VV X E b_Mo_count 4 eI 0 [(0, .ref (E.2.1 48)), (1, .int a1)] [] σ (B_Mo_count_0 a1 σ) := by
  unfold B_Mo_count_0
  refine v_iconst (v := (0 : Int32)) g d_Mo_count_0 (by decide +kernel) ?_
  refine v_istore_n [(2, .int (0 : Int32)), (0, .ref (E.2.1 48)), (1, .int a1)] g d_Mo_count_1 (by decide) rfl ?_
  refine v_iconst (v := (0 : Int32)) g d_Mo_count_2 (by decide +kernel) ?_
  refine v_istore_n [(3, .int (0 : Int32)), (2, .int (0 : Int32)), (0, .ref (E.2.1 48)), (1, .int a1)] g d_Mo_count_3 (by decide) rfl ?_
  exact v_sub [2,3,1,0] rfl (vL_Mo_count_4 g LF a1 (0 : Int32) (0 : Int32) σ)
def f_Mo_count (a1 : Int32) (σ : Sto) : Option (Int32 × Sto) := B_Mo_count_0 a1 σ
theorem sp_Mo_count {l : Launch} {E : En} (hE : Dj E) {a1 : Int32} {σ : Sto} {r : Int32} {σ' : Sto} (h : f_Mo_count a1 σ = some (r, σ')) : Ct l E y_Mo_count (wsM y_Mo_count b_Mo_count 4 (some .int)) 2 [.ref (E.2.1 48), .int a1] σ (eI r) σ' :=
  ct_of hE (by decide +kernel) (Nat.le_of_ble_eq_true rfl) (fun x => Or.inl ⟨rfl, x, rfl⟩) (fun X _ g => vB_Mo_count_0 g a1 σ) r σ' h
