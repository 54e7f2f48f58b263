theorem ff_Mo_276 : FF R_Mo 276 10 24 := ⟨R_Mo, T_Mo, 39, rfl, in_Mo, by decide, rfl, by decide, m1 1068 (by decide +kernel) (by decide +kernel)⟩
theorem ff_Mo_281 : FF R_Mo 281 10 27 := ⟨R_Mo, T_Mo, 39, rfl, in_Mo, by decide, rfl, by decide, m1 1071 (by decide +kernel) (by decide +kernel)⟩
theorem ff_Mo_284 : FF R_Mo 284 10 26 := ⟨R_Mo, T_Mo, 39, rfl, in_Mo, by decide, rfl, by decide, m1 1070 (by decide +kernel) (by decide +kernel)⟩
theorem ff_Mo_290 : FF R_Mo 290 10 25 := ⟨R_Mo, T_Mo, 39, rfl, in_Mo, by decide, rfl, by decide, m1 1069 (by decide +kernel) (by decide +kernel)⟩
theorem ff_Mo_293 : FF R_Mo 293 10 28 := ⟨R_Mo, T_Mo, 39, rfl, in_Mo, by decide, rfl, by decide, m1 1072 (by decide +kernel) (by decide +kernel)⟩
theorem ff_Mo_50 : FF R_Mo 50 10 23 := ⟨R_Mo, T_Mo, 39, rfl, in_Mo, by decide, rfl, by decide, m1 1067 (by decide +kernel) (by decide +kernel)⟩
theorem ff_Mo_71 : FF R_Mo 71 10 36 := ⟨R_Mo, T_Mo, 39, rfl, in_Mo, by decide, rfl, by decide, m1 1080 (by decide +kernel) (by decide +kernel)⟩
theorem fp_Mo_276 : FP R_Mo 276 10 24 (.int) := ⟨R_Mo, T_Mo, 39, rfl, in_Mo, by decide, rfl, by decide, m1 1068 (by decide +kernel) (by decide +kernel), ⟨ty_Mo, tyok_Mo⟩, nm_Mo, rfl, by decide +kernel⟩
theorem fp_Mo_281 : FP R_Mo 281 10 27 (.int) := ⟨R_Mo, T_Mo, 39, rfl, in_Mo, by decide, rfl, by decide, m1 1071 (by decide +kernel) (by decide +kernel), ⟨ty_Mo, tyok_Mo⟩, nm_Mo, rfl, by decide +kernel⟩
theorem fp_Mo_284 : FP R_Mo 284 10 26 (.int) := ⟨R_Mo, T_Mo, 39, rfl, in_Mo, by decide, rfl, by decide, m1 1070 (by decide +kernel) (by decide +kernel), ⟨ty_Mo, tyok_Mo⟩, nm_Mo, rfl, by decide +kernel⟩
theorem fp_Mo_290 : FP R_Mo 290 10 25 (.int) := ⟨R_Mo, T_Mo, 39, rfl, in_Mo, by decide, rfl, by decide, m1 1069 (by decide +kernel) (by decide +kernel), ⟨ty_Mo, tyok_Mo⟩, nm_Mo, rfl, by decide +kernel⟩
theorem fp_Mo_293 : FP R_Mo 293 10 28 (.int) := ⟨R_Mo, T_Mo, 39, rfl, in_Mo, by decide, rfl, by decide, m1 1072 (by decide +kernel) (by decide +kernel), ⟨ty_Mo, tyok_Mo⟩, nm_Mo, rfl, by decide +kernel⟩
/-! method FittingRingsModel.isSheet(I)Z -/
theorem ys_Mo_isSheet : YS y_Mo_isSheet b_Mo_isSheet 1 (some .boolean) 1 := ⟨m1 1402 (by decide +kernel) (by decide +kernel), ini_Mo, m1 1403 (by decide +kernel) (by decide +kernel), ⟨by decide +kernel, by decide +kernel, by decide +kernel⟩, by decide⟩
theorem d_Mo_isSheet_0 : decode b_Mo_isSheet 0 = .ok (.iload_n 0, 1) := by decide +kernel
theorem d_Mo_isSheet_1 : decode b_Mo_isSheet 1 = .ok (.i2l, 1) := by decide +kernel
theorem d_Mo_isSheet_2 : decode b_Mo_isSheet 2 = .ok (.lconst 0, 1) := by decide +kernel
theorem d_Mo_isSheet_3 : decode b_Mo_isSheet 3 = .ok (.ldc2_w 104, 3) := by decide +kernel
theorem d_Mo_isSheet_6 : decode b_Mo_isSheet 6 = .ok (.invokestatic 84, 3) := by decide +kernel
theorem d_Mo_isSheet_9 : decode b_Mo_isSheet 9 = .ok (.ireturn, 1) := by decide +kernel
def B_Mo_isSheet_0 (a0 : Int32) (σ : Sto) : Option (Bool × Sto) :=
  ((f_Mo_in (Int32.toInt64 a0) (0 : Int64) (3 : Int64) σ).bind fun q1 => some (q1.1, q1.2))
set_option maxHeartbeats 4000000 in
set_option maxRecDepth 100000 in
theorem vB_Mo_isSheet_0 {X : Xt} {E : En} (g : GG X E 2 b_Mo_isSheet R_Mo 1) (a0 : Int32) (σ : Sto) : VV X E b_Mo_isSheet 1 eB 0 [(0, .int a0)] [] σ (B_Mo_isSheet_0 a0 σ) := by
  unfold B_Mo_isSheet_0
  refine v_iload_n 0 g d_Mo_isSheet_0 rfl ?_
  refine v_i2l g d_Mo_isSheet_1 ?_
  refine v_lconst (v := (0 : Int64)) g d_Mo_isSheet_2 (by decide +kernel) ?_
  refine v_ldc2 (v := (3 : Int64)) g (m1 1183 (by decide +kernel) (by decide +kernel)) d_Mo_isSheet_3 ?_
  refine v_callB (r_S (rest := []) [.long (Int32.toInt64 a0), .long (0 : Int64), .long (3 : Int64)] g (m1 1167 (by decide +kernel) (by decide +kernel)) ys_Mo_in (fun r σ1 h => sp_Mo_in g.2.2.1  h) rfl rfl (by decide) (Nat.le_of_ble_eq_true rfl) d_Mo_isSheet_6) (fun q1 => ?_)
  exact v_ret d_Mo_isSheet_9 rfl
def f_Mo_isSheet (a0 : Int32) (σ : Sto) : Option (Bool × Sto) := B_Mo_isSheet_0 a0 σ
theorem sp_Mo_isSheet {l : Launch} {E : En} (hE : Dj E) {a0 : Int32} {σ : Sto} {r : Bool} {σ' : Sto} (h : f_Mo_isSheet a0 σ = some (r, σ')) : Ct l E y_Mo_isSheet (wsM y_Mo_isSheet b_Mo_isSheet 1 (some .boolean)) 2 [.int a0] σ (eB r) σ' :=
  ct_of hE (by decide +kernel) (Nat.le_of_ble_eq_true rfl) (fun b => Or.inr (Or.inl ⟨rfl, b, rfl⟩)) (fun X _ g => vB_Mo_isSheet_0 g a0 σ) r σ' h
/-! method FittingRingsModel.check(IIIIIJ)I -/
theorem yv_Mo_check : YV y_Mo_check b_Mo_check 9 (some .int) 6 10 := ⟨m1 1398 (by decide +kernel) (by decide +kernel), m1 1399 (by decide +kernel) (by decide +kernel), ini_Mo, m1 1400 (by decide +kernel) (by decide +kernel), ⟨by decide +kernel, by decide +kernel, by decide +kernel⟩, by decide, by decide, T_Mo, 39, rfl⟩
theorem d_Mo_check_0 : decode b_Mo_check 0 = .ok (.iload_n 1, 1) := by decide +kernel
theorem d_Mo_check_1 : decode b_Mo_check 1 = .ok (.invokestatic 259, 3) := by decide +kernel
theorem d_Mo_check_4 : decode b_Mo_check 4 = .ok (.ifCond .eq 18, 3) := by decide +kernel
theorem d_Mo_check_7 : decode b_Mo_check 7 = .ok (.aload_n 0, 1) := by decide +kernel
theorem d_Mo_check_8 : decode b_Mo_check 8 = .ok (.iload_n 2, 1) := by decide +kernel
theorem d_Mo_check_9 : decode b_Mo_check 9 = .ok (.iload_n 3, 1) := by decide +kernel
theorem d_Mo_check_10 : decode b_Mo_check 10 = .ok (.iload 4, 2) := by decide +kernel
theorem d_Mo_check_12 : decode b_Mo_check 12 = .ok (.iload 5, 2) := by decide +kernel
theorem d_Mo_check_14 : decode b_Mo_check 14 = .ok (.lload 6, 2) := by decide +kernel
theorem d_Mo_check_16 : decode b_Mo_check 16 = .ok (.invokevirtual 245, 3) := by decide +kernel
theorem d_Mo_check_19 : decode b_Mo_check 19 = .ok (.ifCond .ne 6, 3) := by decide +kernel
theorem d_Mo_check_22 : decode b_Mo_check 22 = .ok (.bipush (-2), 2) := by decide +kernel
theorem d_Mo_check_24 : decode b_Mo_check 24 = .ok (.ireturn, 1) := by decide +kernel
theorem d_Mo_check_25 : decode b_Mo_check 25 = .ok (.aload_n 0, 1) := by decide +kernel
theorem d_Mo_check_26 : decode b_Mo_check 26 = .ok (.getfield 71, 3) := by decide +kernel
theorem d_Mo_check_29 : decode b_Mo_check 29 = .ok (.iload_n 1, 1) := by decide +kernel
theorem d_Mo_check_30 : decode b_Mo_check 30 = .ok (.iaload, 1) := by decide +kernel
theorem d_Mo_check_31 : decode b_Mo_check 31 = .ok (.ifCond .ge 6, 3) := by decide +kernel
theorem d_Mo_check_34 : decode b_Mo_check 34 = .ok (.bipush (-11), 2) := by decide +kernel
theorem d_Mo_check_36 : decode b_Mo_check 36 = .ok (.ireturn, 1) := by decide +kernel
theorem d_Mo_check_37 : decode b_Mo_check 37 = .ok (.aload_n 0, 1) := by decide +kernel
theorem d_Mo_check_38 : decode b_Mo_check 38 = .ok (.iconst 0, 1) := by decide +kernel
theorem d_Mo_check_39 : decode b_Mo_check 39 = .ok (.putfield 252, 3) := by decide +kernel
theorem d_Mo_check_42 : decode b_Mo_check 42 = .ok (.aload_n 0, 1) := by decide +kernel
theorem d_Mo_check_43 : decode b_Mo_check 43 = .ok (.iload_n 1, 1) := by decide +kernel
theorem d_Mo_check_44 : decode b_Mo_check 44 = .ok (.iload_n 2, 1) := by decide +kernel
theorem d_Mo_check_45 : decode b_Mo_check 45 = .ok (.iload_n 3, 1) := by decide +kernel
theorem d_Mo_check_46 : decode b_Mo_check 46 = .ok (.iload 4, 2) := by decide +kernel
theorem d_Mo_check_48 : decode b_Mo_check 48 = .ok (.iload 5, 2) := by decide +kernel
theorem d_Mo_check_50 : decode b_Mo_check 50 = .ok (.lload 6, 2) := by decide +kernel
theorem d_Mo_check_52 : decode b_Mo_check 52 = .ok (.iconst 0, 1) := by decide +kernel
theorem d_Mo_check_53 : decode b_Mo_check 53 = .ok (.invokevirtual 255, 3) := by decide +kernel
theorem d_Mo_check_56 : decode b_Mo_check 56 = .ok (.istore 8, 2) := by decide +kernel
theorem d_Mo_check_58 : decode b_Mo_check 58 = .ok (.iload 8, 2) := by decide +kernel
theorem d_Mo_check_60 : decode b_Mo_check 60 = .ok (.ifCond .eq 20, 3) := by decide +kernel
theorem d_Mo_check_63 : decode b_Mo_check 63 = .ok (.aload_n 0, 1) := by decide +kernel
theorem d_Mo_check_64 : decode b_Mo_check 64 = .ok (.getfield 252, 3) := by decide +kernel
theorem d_Mo_check_67 : decode b_Mo_check 67 = .ok (.aload_n 0, 1) := by decide +kernel
theorem d_Mo_check_68 : decode b_Mo_check 68 = .ok (.getfield 74, 3) := by decide +kernel
theorem d_Mo_check_71 : decode b_Mo_check 71 = .ok (.iload_n 1, 1) := by decide +kernel
theorem d_Mo_check_72 : decode b_Mo_check 72 = .ok (.iaload, 1) := by decide +kernel
theorem d_Mo_check_73 : decode b_Mo_check 73 = .ok (.if_icmp .ne 7, 3) := by decide +kernel
theorem d_Mo_check_76 : decode b_Mo_check 76 = .ok (.iconst (-1), 1) := by decide +kernel
theorem d_Mo_check_77 : decode b_Mo_check 77 = .ok (.goto 7, 3) := by decide +kernel
theorem d_Mo_check_80 : decode b_Mo_check 80 = .ok (.aload_n 0, 1) := by decide +kernel
theorem d_Mo_check_81 : decode b_Mo_check 81 = .ok (.getfield 252, 3) := by decide +kernel
theorem d_Mo_check_84 : decode b_Mo_check 84 = .ok (.ireturn, 1) := by decide +kernel
def B_Mo_check_0 (a1 : Int32) (a2 : Int32) (a3 : Int32) (a4 : Int32) (a5 : Int32) (a6 : Int64) (σ : Sto) : Option (Int32 × Sto) :=
  ((f_Mo_isSheet a1 σ).bind fun q1 => (if (b2i q1.1) = 0 then some ((-2 : Int32), q1.2)
 else ((f_Mo_isProved a2 a3 a4 a5 a6 q1.2).bind fun q2 => (if (b2i q2.1) = 0 then some ((-2 : Int32), q2.2)
  else (if inb a1 4 = true then (if 0 ≤ (gI q2.2 69 (Int32.toNatClampNeg a1)) then ((f_Mo_checks 64 a1 a2 a3 a4 a5 a6 (0 : Int32) (sI q2.2 48 22 (0 : Int32))).bind fun q3 => (if (b2i q3.1) = 0 then some ((gI q3.2 48 22), q3.2)
    else (if inb a1 4 = true then (if (gI q3.2 48 22) = (gI q3.2 70 (Int32.toNatClampNeg a1)) then some ((-1 : Int32), q3.2)
     else some ((gI q3.2 48 22), q3.2)) else none)))
   else some ((-11 : Int32), q2.2)) else none)))))
set_option maxHeartbeats 4000000 in
set_option maxRecDepth 100000 in
theorem vB_Mo_check_0 {X : Xt} {E : En} (g : GG X E 72 b_Mo_check R_Mo 9) (a1 : Int32) (a2 : Int32) (a3 : Int32) (a4 : Int32) (a5 : Int32) (a6 : Int64) (σ : Sto) : VV X E b_Mo_check 9 eI 0 [(0, .ref (E.2.1 48)), (1, .int a1), (2, .int a2), (3, .int a3), (4, .int a4), (5, .int a5), (6, .long a6)] [] σ (B_Mo_check_0 a1 a2 a3 a4 a5 a6 σ) := by
  unfold B_Mo_check_0
  refine v_iload_n 1 g d_Mo_check_0 rfl ?_
  refine v_callB (r_S (rest := []) [.int a1] g (m1 1401 (by decide +kernel) (by decide +kernel)) ys_Mo_isSheet (fun r σ1 h => sp_Mo_isSheet g.2.2.1  h) rfl rfl (by decide) (Nat.le_of_ble_eq_true rfl) d_Mo_check_1) (fun q1 => ?_)
  refine v_if_eq 22 g d_Mo_check_4 (by decide) (fun _ => ?_) (fun _ => ?_)
  · refine v_bipush (v := (-2 : Int32)) g d_Mo_check_22 (by decide +kernel) ?_
    exact v_ret d_Mo_check_24 rfl
  · refine v_aload_n 0 g d_Mo_check_7 rfl ?_
    refine v_iload_n 2 g d_Mo_check_8 rfl ?_
    refine v_iload_n 3 g d_Mo_check_9 rfl ?_
    refine v_iload 4 g d_Mo_check_10 rfl ?_
    refine v_iload 5 g d_Mo_check_12 rfl ?_
    refine v_lload 6 g d_Mo_check_14 rfl ?_
    refine v_callB (r_V (rest := []) [.int a2, .int a3, .int a4, .int a5, .long a6] g (m1 1385 (by decide +kernel) (by decide +kernel)) yv_Mo_isProved rfl (fun r σ1 h => sp_Mo_isProved g.2.2.1  h) rfl rfl (by decide) (Nat.le_of_ble_eq_true rfl) d_Mo_check_16) (fun q2 => ?_)
    refine v_if_ne 25 g d_Mo_check_19 (by decide) (fun _ => ?_) (fun _ => ?_)
    · refine v_aload_n 0 g d_Mo_check_25 rfl ?_
      refine v_getR 69 g ff_Mo_71 rfl rfl rfl d_Mo_check_26 ?_
      refine v_iload_n 1 g d_Mo_check_29 rfl ?_
      refine v_iald g rfl rfl d_Mo_check_30 (fun _ => ?_)
      refine v_if_ge 37 g d_Mo_check_31 (by decide) (fun _ => ?_) (fun _ => ?_)
      · refine v_aload_n 0 g d_Mo_check_37 rfl ?_
        refine v_iconst (v := (0 : Int32)) g d_Mo_check_38 (by decide +kernel) ?_
        refine v_putI g fp_Mo_252 rfl rfl d_Mo_check_39 ?_
        refine v_aload_n 0 g d_Mo_check_42 rfl ?_
        refine v_iload_n 1 g d_Mo_check_43 rfl ?_
        refine v_iload_n 2 g d_Mo_check_44 rfl ?_
        refine v_iload_n 3 g d_Mo_check_45 rfl ?_
        refine v_iload 4 g d_Mo_check_46 rfl ?_
        refine v_iload 5 g d_Mo_check_48 rfl ?_
        refine v_lload 6 g d_Mo_check_50 rfl ?_
        refine v_iconst (v := (0 : Int32)) g d_Mo_check_52 (by decide +kernel) ?_
        refine v_callB (r_V (rest := []) [.int a1, .int a2, .int a3, .int a4, .int a5, .long a6, .int (0 : Int32)] g (m1 1404 (by decide +kernel) (by decide +kernel)) yv_Mo_checks rfl (fun r σ1 h => sp_Mo_checks g.2.2.1 64  h) rfl rfl (by decide) (Nat.le_of_ble_eq_true rfl) d_Mo_check_53) (fun q3 => ?_)
        refine v_istore [(8, .int (b2i q3.1)), (0, .ref (E.2.1 48)), (1, .int a1), (2, .int a2), (3, .int a3), (4, .int a4), (5, .int a5), (6, .long a6)] g d_Mo_check_56 (by decide) rfl ?_
        refine v_iload 0 g d_Mo_check_58 rfl ?_
        refine v_if_eq 80 g d_Mo_check_60 (by decide) (fun _ => ?_) (fun _ => ?_)
        · refine v_aload_n 1 g d_Mo_check_80 rfl ?_
          refine v_getI g ff_Mo_252 rfl rfl d_Mo_check_81 ?_
          exact v_ret d_Mo_check_84 rfl
        · refine v_aload_n 1 g d_Mo_check_63 rfl ?_
          refine v_getI g ff_Mo_252 rfl rfl d_Mo_check_64 ?_
          refine v_aload_n 1 g d_Mo_check_67 rfl ?_
          refine v_getR 70 g ff_Mo_74 rfl rfl rfl d_Mo_check_68 ?_
          refine v_iload_n 2 g d_Mo_check_71 rfl ?_
          refine v_iald g rfl rfl d_Mo_check_72 (fun _ => ?_)
          refine v_icmp_ne 80 g d_Mo_check_73 (by decide) (fun _ => ?_) (fun _ => ?_)
          · refine v_aload_n 1 g d_Mo_check_80 rfl ?_
            refine v_getI g ff_Mo_252 rfl rfl d_Mo_check_81 ?_
            exact v_ret d_Mo_check_84 rfl
          · refine v_iconst (v := (-1 : Int32)) g d_Mo_check_76 (by decide +kernel) ?_
            refine v_goto 84 g d_Mo_check_77 (by decide) ?_
            exact v_ret d_Mo_check_84 rfl
      · refine v_bipush (v := (-11 : Int32)) g d_Mo_check_34 (by decide +kernel) ?_
        exact v_ret d_Mo_check_36 rfl
    · refine v_bipush (v := (-2 : Int32)) g d_Mo_check_22 (by decide +kernel) ?_
      exact v_ret d_Mo_check_24 rfl
def f_Mo_check (a1 : Int32) (a2 : Int32) (a3 : Int32) (a4 : Int32) (a5 : Int32) (a6 : Int64) (σ : Sto) : Option (Int32 × Sto) := B_Mo_check_0 a1 a2 a3 a4 a5 a6 σ
theorem sp_Mo_check {l : Launch} {E : En} (hE : Dj E) {a1 : Int32} {a2 : Int32} {a3 : Int32} {a4 : Int32} {a5 : Int32} {a6 : Int64} {σ : Sto} {r : Int32} {σ' : Sto} (h : f_Mo_check a1 a2 a3 a4 a5 a6 σ = some (r, σ')) : Ct l E y_Mo_check (wsM y_Mo_check b_Mo_check 9 (some .int)) 72 [.ref (E.2.1 48), .int a1, .int a2, .int a3, .int a4, .int a5, .long a6] σ (eI r) σ' :=
  ct_of hE (by decide +kernel) (Nat.le_of_ble_eq_true rfl) (fun x => Or.inl ⟨rfl, x, rfl⟩) (fun X _ g => vB_Mo_check_0 g a1 a2 a3 a4 a5 a6 σ) r σ' h
/-! method FittingRingsModel.becomesRow(III)V -/
theorem yv_Mo_becomesRow : YV y_Mo_becomesRow b_Mo_becomesRow 5 (none) 3 10 := ⟨m1 1414 (by decide +kernel) (by decide +kernel), m1 53 (by decide +kernel) (by decide +kernel), ini_Mo, m1 1415 (by decide +kernel) (by decide +kernel), ⟨by decide +kernel, by decide +kernel, by decide +kernel⟩, by decide, by decide, T_Mo, 39, rfl⟩
theorem d_Mo_becomesRow_0 : decode b_Mo_becomesRow 0 = .ok (.aload_n 0, 1) := by decide +kernel
theorem d_Mo_becomesRow_1 : decode b_Mo_becomesRow 1 = .ok (.getfield 71, 3) := by decide +kernel
theorem d_Mo_becomesRow_4 : decode b_Mo_becomesRow 4 = .ok (.iload_n 1, 1) := by decide +kernel
theorem d_Mo_becomesRow_5 : decode b_Mo_becomesRow 5 = .ok (.iload_n 2, 1) := by decide +kernel
theorem d_Mo_becomesRow_6 : decode b_Mo_becomesRow 6 = .ok (.iastore, 1) := by decide +kernel
theorem d_Mo_becomesRow_7 : decode b_Mo_becomesRow 7 = .ok (.aload_n 0, 1) := by decide +kernel
theorem d_Mo_becomesRow_8 : decode b_Mo_becomesRow 8 = .ok (.getfield 74, 3) := by decide +kernel
theorem d_Mo_becomesRow_11 : decode b_Mo_becomesRow 11 = .ok (.iload_n 1, 1) := by decide +kernel
theorem d_Mo_becomesRow_12 : decode b_Mo_becomesRow 12 = .ok (.iload_n 2, 1) := by decide +kernel
theorem d_Mo_becomesRow_13 : decode b_Mo_becomesRow 13 = .ok (.ifCond .ge 7, 3) := by decide +kernel
theorem d_Mo_becomesRow_16 : decode b_Mo_becomesRow 16 = .ok (.iconst 0, 1) := by decide +kernel
theorem d_Mo_becomesRow_17 : decode b_Mo_becomesRow 17 = .ok (.goto 4, 3) := by decide +kernel
theorem d_Mo_becomesRow_20 : decode b_Mo_becomesRow 20 = .ok (.iload_n 3, 1) := by decide +kernel
theorem d_Mo_becomesRow_21 : decode b_Mo_becomesRow 21 = .ok (.iastore, 1) := by decide +kernel
theorem d_Mo_becomesRow_22 : decode b_Mo_becomesRow 22 = .ok (.iconst 0, 1) := by decide +kernel
theorem d_Mo_becomesRow_23 : decode b_Mo_becomesRow 23 = .ok (.istore 4, 2) := by decide +kernel
theorem d_Mo_becomesRow_25 : decode b_Mo_becomesRow 25 = .ok (.iload 4, 2) := by decide +kernel
theorem d_Mo_becomesRow_27 : decode b_Mo_becomesRow 27 = .ok (.bipush 60, 2) := by decide +kernel
theorem d_Mo_becomesRow_29 : decode b_Mo_becomesRow 29 = .ok (.if_icmp .ge 22, 3) := by decide +kernel
theorem d_Mo_becomesRow_32 : decode b_Mo_becomesRow 32 = .ok (.aload_n 0, 1) := by decide +kernel
theorem d_Mo_becomesRow_33 : decode b_Mo_becomesRow 33 = .ok (.getfield 77, 3) := by decide +kernel
theorem d_Mo_becomesRow_36 : decode b_Mo_becomesRow 36 = .ok (.bipush 60, 2) := by decide +kernel
theorem d_Mo_becomesRow_38 : decode b_Mo_becomesRow 38 = .ok (.iload_n 1, 1) := by decide +kernel
theorem d_Mo_becomesRow_39 : decode b_Mo_becomesRow 39 = .ok (.imul, 1) := by decide +kernel
theorem d_Mo_becomesRow_40 : decode b_Mo_becomesRow 40 = .ok (.iload 4, 2) := by decide +kernel
theorem d_Mo_becomesRow_42 : decode b_Mo_becomesRow 42 = .ok (.iadd, 1) := by decide +kernel
theorem d_Mo_becomesRow_43 : decode b_Mo_becomesRow 43 = .ok (.iconst 0, 1) := by decide +kernel
theorem d_Mo_becomesRow_44 : decode b_Mo_becomesRow 44 = .ok (.iastore, 1) := by decide +kernel
theorem d_Mo_becomesRow_45 : decode b_Mo_becomesRow 45 = .ok (.iinc 4 1, 3) := by decide +kernel
theorem d_Mo_becomesRow_48 : decode b_Mo_becomesRow 48 = .ok (.goto (-23), 3) := by decide +kernel
theorem d_Mo_becomesRow_51 : decode b_Mo_becomesRow 51 = .ok (.return_, 1) := by decide +kernel
def B_Mo_becomesRow_25 (k25 : Int32 → Int32 → Sto → Option (Unit × Sto)) (v1 : Int32) (v4 : Int32) (σ : Sto) : Option (Unit × Sto) :=
  (if (60 : Int32) ≤ v4 then some ((), σ)
 else (if inb (((60 : Int32) * v1) + v4) 240 = true then (lt1 (sI σ 71 (Int32.toNatClampNeg (((60 : Int32) * v1) + v4)) (0 : Int32)) fun σ3 => k25 v1 (v4 + (1 : Int32)) σ3) else none))
set_option maxHeartbeats 4000000 in
set_option maxRecDepth 100000 in
theorem vB_Mo_becomesRow_25 {X : Xt} {E : En} (g : GG X E 1 b_Mo_becomesRow R_Mo 5) {k25 : Int32 → Int32 → Sto → Option (Unit × Sto)} (hk25 : ∀ (v1 : Int32) (v4 : Int32) (σ : Sto), VV X E b_Mo_becomesRow 5 eU 25 [(0, .ref (E.2.1 48)), (1, .int v1), (4, .int v4)] [] σ (k25 v1 v4 σ)) (v1 : Int32) (v4 : Int32) (σ : Sto) : VV X E b_Mo_becomesRow 5 eU 25 [(0, .ref (E.2.1 48)), (1, .int v1), (4, .int v4)] [] σ (B_Mo_becomesRow_25 k25 v1 v4 σ) := by
  unfold B_Mo_becomesRow_25
  refine v_iload 2 g d_Mo_becomesRow_25 rfl ?_
  refine v_bipush (v := (60 : Int32)) g d_Mo_becomesRow_27 (by decide +kernel) ?_
  refine v_icmp_ge 51 g d_Mo_becomesRow_29 (by decide) (fun _ => ?_) (fun _ => ?_)
  · exact v_ret d_Mo_becomesRow_51 rfl
  · refine v_aload_n 0 g d_Mo_becomesRow_32 rfl ?_
    refine v_getR 71 g ff_Mo_77 rfl rfl rfl d_Mo_becomesRow_33 ?_
    refine v_bipush (v := (60 : Int32)) g d_Mo_becomesRow_36 (by decide +kernel) ?_
    refine v_iload_n 1 g d_Mo_becomesRow_38 rfl ?_
    refine v_imul g d_Mo_becomesRow_39 ?_
    refine v_iload 2 g d_Mo_becomesRow_40 rfl ?_
    refine v_iadd g d_Mo_becomesRow_42 ?_
    refine v_iconst (v := (0 : Int32)) g d_Mo_becomesRow_43 (by decide +kernel) ?_
    refine v_iast g rfl rfl d_Mo_becomesRow_44 (fun _ => ?_)
    refine v_nlet (fun σ3 eσ3 => ?_)
    rw [← eσ3]
    refine v_iinc 2 [(4, .int (v4 + (1 : Int32))), (0, .ref (E.2.1 48)), (1, .int v1)] g d_Mo_becomesRow_45 rfl (v := (1 : Int32)) (by decide +kernel) (by decide) rfl ?_
    refine v_goto 25 g d_Mo_becomesRow_48 (by decide) ?_
    exact v_sub [1,2,0] rfl (hk25 v1 (v4 + (1 : Int32)) σ3)
def L_Mo_becomesRow_25 : Nat → Int32 → Int32 → Sto → Option (Unit × Sto)
  | 0, _, _, _ => none
  | fu + 1, v1, v4, σ => B_Mo_becomesRow_25 (L_Mo_becomesRow_25 fu) v1 v4 σ
theorem vL_Mo_becomesRow_25 {X : Xt} {E : En} (g : GG X E 1 b_Mo_becomesRow R_Mo 5) (fu : Nat) : ∀ (v1 : Int32) (v4 : Int32) (σ : Sto), VV X E b_Mo_becomesRow 5 eU 25 [(0, .ref (E.2.1 48)), (1, .int v1), (4, .int v4)] [] σ (L_Mo_becomesRow_25 fu v1 v4 σ) := by
  induction fu with
  | zero => intros; exact v_none
  | succ fu ih =>
    intro v1 v4 σ
    exact vB_Mo_becomesRow_25 g ih v1 v4 σ
def B_Mo_becomesRow_0 (a1 : Int32) (a2 : Int32) (a3 : Int32) (σ : Sto) : Option (Unit × Sto) :=
  (if inb a1 4 = true then (if 0 ≤ a2 then (if inb a1 4 = true then (lt1 (sI (sI σ 69 (Int32.toNatClampNeg a1) a2) 70 (Int32.toNatClampNeg a1) a3) fun σ1 => L_Mo_becomesRow_25 LF a1 (0 : Int32) σ1) else none)
 else (if inb a1 4 = true then (lt1 (sI (sI σ 69 (Int32.toNatClampNeg a1) a2) 70 (Int32.toNatClampNeg a1) (0 : Int32)) fun σ2 => L_Mo_becomesRow_25 LF a1 (0 : Int32) σ2) else none)) else none)
set_option maxHeartbeats 4000000 in
set_option maxRecDepth 100000 in
theorem vB_Mo_becomesRow_0 {X : Xt} {E : En} (g : GG X E 1 b_Mo_becomesRow R_Mo 5) (a1 : Int32) (a2 : Int32) (a3 : Int32) (σ : Sto) : VV X E b_Mo_becomesRow 5 eU 0 [(0, .ref (E.2.1 48)), (1, .int a1), (2, .int a2), (3, .int a3)] [] σ (B_Mo_becomesRow_0 a1 a2 a3 σ) := by
  unfold B_Mo_becomesRow_0
  refine v_aload_n 0 g d_Mo_becomesRow_0 rfl ?_
  refine v_getR 69 g ff_Mo_71 rfl rfl rfl d_Mo_becomesRow_1 ?_
  refine v_iload_n 1 g d_Mo_becomesRow_4 rfl ?_
  refine v_iload_n 2 g d_Mo_becomesRow_5 rfl ?_
  refine v_iast g rfl rfl d_Mo_becomesRow_6 (fun _ => ?_)
  refine v_aload_n 0 g d_Mo_becomesRow_7 rfl ?_
  refine v_getR 70 g ff_Mo_74 rfl rfl rfl d_Mo_becomesRow_8 ?_
  refine v_iload_n 1 g d_Mo_becomesRow_11 rfl ?_
  refine v_iload_n 2 g d_Mo_becomesRow_12 rfl ?_
  refine v_if_ge 20 g d_Mo_becomesRow_13 (by decide) (fun _ => ?_) (fun _ => ?_)
  · refine v_iload_n 3 g d_Mo_becomesRow_20 rfl ?_
    refine v_iast g rfl rfl d_Mo_becomesRow_21 (fun _ => ?_)
    refine v_nlet (fun σ1 eσ1 => ?_)
    rw [← eσ1]
    refine v_iconst (v := (0 : Int32)) g d_Mo_becomesRow_22 (by decide +kernel) ?_
    refine v_istore [(4, .int (0 : Int32)), (0, .ref (E.2.1 48)), (1, .int a1), (2, .int a2), (3, .int a3)] g d_Mo_becomesRow_23 (by decide) rfl ?_
    exact v_sub [1,2,0] rfl (vL_Mo_becomesRow_25 g LF a1 (0 : Int32) σ1)
  · refine v_iconst (v := (0 : Int32)) g d_Mo_becomesRow_16 (by decide +kernel) ?_
    refine v_goto 21 g d_Mo_becomesRow_17 (by decide) ?_
    refine v_iast g rfl rfl d_Mo_becomesRow_21 (fun _ => ?_)
    refine v_nlet (fun σ2 eσ2 => ?_)
    rw [← eσ2]
    refine v_iconst (v := (0 : Int32)) g d_Mo_becomesRow_22 (by decide +kernel) ?_
    refine v_istore [(4, .int (0 : Int32)), (0, .ref (E.2.1 48)), (1, .int a1), (2, .int a2), (3, .int a3)] g d_Mo_becomesRow_23 (by decide) rfl ?_
    exact v_sub [1,2,0] rfl (vL_Mo_becomesRow_25 g LF a1 (0 : Int32) σ2)
def f_Mo_becomesRow (a1 : Int32) (a2 : Int32) (a3 : Int32) (σ : Sto) : Option (Unit × Sto) := B_Mo_becomesRow_0 a1 a2 a3 σ
theorem sp_Mo_becomesRow {l : Launch} {E : En} (hE : Dj E) {a1 : Int32} {a2 : Int32} {a3 : Int32} {σ : Sto} {r : Unit} {σ' : Sto} (h : f_Mo_becomesRow a1 a2 a3 σ = some (r, σ')) : Ct l E y_Mo_becomesRow (wsM y_Mo_becomesRow b_Mo_becomesRow 5 (none)) 1 [.ref (E.2.1 48), .int a1, .int a2, .int a3] σ (eU r) σ' :=
  ct_of hE (by decide +kernel) (Nat.le_of_ble_eq_true rfl) (fun _ => Or.inr (Or.inr (Or.inr (Or.inl ⟨rfl, rfl⟩)))) (fun X _ g => vB_Mo_becomesRow_0 g a1 a2 a3 σ) r σ' h
/-! method FittingRingsModel.writes(I)I -/
theorem yv_Mo_writes : YV y_Mo_writes b_Mo_writes 3 (some .int) 1 10 := ⟨m1 1409 (by decide +kernel) (by decide +kernel), m1 1410 (by decide +kernel) (by decide +kernel), ini_Mo, m1 1411 (by decide +kernel) (by decide +kernel), ⟨by decide +kernel, by decide +kernel, by decide +kernel⟩, by decide, by decide, T_Mo, 39, rfl⟩
theorem d_Mo_writes_0 : decode b_Mo_writes 0 = .ok (.iload_n 1, 1) := by decide +kernel
theorem d_Mo_writes_1 : decode b_Mo_writes 1 = .ok (.invokestatic 259, 3) := by decide +kernel
theorem d_Mo_writes_4 : decode b_Mo_writes 4 = .ok (.ifCond .ne 6, 3) := by decide +kernel
theorem d_Mo_writes_7 : decode b_Mo_writes 7 = .ok (.bipush (-2), 2) := by decide +kernel
theorem d_Mo_writes_9 : decode b_Mo_writes 9 = .ok (.ireturn, 1) := by decide +kernel
theorem d_Mo_writes_10 : decode b_Mo_writes 10 = .ok (.aload_n 0, 1) := by decide +kernel
theorem d_Mo_writes_11 : decode b_Mo_writes 11 = .ok (.getfield 249, 3) := by decide +kernel
theorem d_Mo_writes_14 : decode b_Mo_writes 14 = .ok (.ifCond .ne 6, 3) := by decide +kernel
theorem d_Mo_writes_17 : decode b_Mo_writes 17 = .ok (.bipush (-3), 2) := by decide +kernel
theorem d_Mo_writes_19 : decode b_Mo_writes 19 = .ok (.ireturn, 1) := by decide +kernel
theorem d_Mo_writes_20 : decode b_Mo_writes 20 = .ok (.aload_n 0, 1) := by decide +kernel
theorem d_Mo_writes_21 : decode b_Mo_writes 21 = .ok (.getfield 249, 3) := by decide +kernel
theorem d_Mo_writes_24 : decode b_Mo_writes 24 = .ok (.bipush 60, 2) := by decide +kernel
theorem d_Mo_writes_26 : decode b_Mo_writes 26 = .ok (.if_icmp .le 6, 3) := by decide +kernel
theorem d_Mo_writes_29 : decode b_Mo_writes 29 = .ok (.bipush (-4), 2) := by decide +kernel
theorem d_Mo_writes_31 : decode b_Mo_writes 31 = .ok (.ireturn, 1) := by decide +kernel
theorem d_Mo_writes_32 : decode b_Mo_writes 32 = .ok (.aload_n 0, 1) := by decide +kernel
theorem d_Mo_writes_33 : decode b_Mo_writes 33 = .ok (.iload_n 1, 1) := by decide +kernel
theorem d_Mo_writes_34 : decode b_Mo_writes 34 = .ok (.iconst 1, 1) := by decide +kernel
theorem d_Mo_writes_35 : decode b_Mo_writes 35 = .ok (.aload_n 0, 1) := by decide +kernel
theorem d_Mo_writes_36 : decode b_Mo_writes 36 = .ok (.getfield 249, 3) := by decide +kernel
theorem d_Mo_writes_39 : decode b_Mo_writes 39 = .ok (.invokevirtual 262, 3) := by decide +kernel
theorem d_Mo_writes_42 : decode b_Mo_writes 42 = .ok (.iconst 0, 1) := by decide +kernel
theorem d_Mo_writes_43 : decode b_Mo_writes 43 = .ok (.istore_n 2, 1) := by decide +kernel
theorem d_Mo_writes_44 : decode b_Mo_writes 44 = .ok (.iload_n 2, 1) := by decide +kernel
theorem d_Mo_writes_45 : decode b_Mo_writes 45 = .ok (.aload_n 0, 1) := by decide +kernel
theorem d_Mo_writes_46 : decode b_Mo_writes 46 = .ok (.getfield 249, 3) := by decide +kernel
theorem d_Mo_writes_49 : decode b_Mo_writes 49 = .ok (.if_icmp .ge 26, 3) := by decide +kernel
theorem d_Mo_writes_52 : decode b_Mo_writes 52 = .ok (.aload_n 0, 1) := by decide +kernel
theorem d_Mo_writes_53 : decode b_Mo_writes 53 = .ok (.getfield 77, 3) := by decide +kernel
theorem d_Mo_writes_56 : decode b_Mo_writes 56 = .ok (.bipush 60, 2) := by decide +kernel
theorem d_Mo_writes_58 : decode b_Mo_writes 58 = .ok (.iload_n 1, 1) := by decide +kernel
theorem d_Mo_writes_59 : decode b_Mo_writes 59 = .ok (.imul, 1) := by decide +kernel
theorem d_Mo_writes_60 : decode b_Mo_writes 60 = .ok (.iload_n 2, 1) := by decide +kernel
theorem d_Mo_writes_61 : decode b_Mo_writes 61 = .ok (.iadd, 1) := by decide +kernel
theorem d_Mo_writes_62 : decode b_Mo_writes 62 = .ok (.aload_n 0, 1) := by decide +kernel
theorem d_Mo_writes_63 : decode b_Mo_writes 63 = .ok (.getfield 44, 3) := by decide +kernel
theorem d_Mo_writes_66 : decode b_Mo_writes 66 = .ok (.iload_n 2, 1) := by decide +kernel
theorem d_Mo_writes_67 : decode b_Mo_writes 67 = .ok (.iaload, 1) := by decide +kernel
theorem d_Mo_writes_68 : decode b_Mo_writes 68 = .ok (.iastore, 1) := by decide +kernel
theorem d_Mo_writes_69 : decode b_Mo_writes 69 = .ok (.iinc 2 1, 3) := by decide +kernel
theorem d_Mo_writes_72 : decode b_Mo_writes 72 = .ok (.goto (-28), 3) := by decide +kernel
theorem d_Mo_writes_75 : decode b_Mo_writes 75 = .ok (.aload_n 0, 1) := by decide +kernel
theorem d_Mo_writes_76 : decode b_Mo_writes 76 = .ok (.getfield 249, 3) := by decide +kernel
theorem d_Mo_writes_79 : decode b_Mo_writes 79 = .ok (.ireturn, 1) := by decide +kernel
def B_Mo_writes_44 (k44 : Int32 → Int32 → Sto → Option (Int32 × Sto)) (v1 : Int32) (v2 : Int32) (σ : Sto) : Option (Int32 × Sto) :=
  (if (gI σ 48 19) ≤ v2 then some ((gI σ 48 19), σ)
 else (if inb v2 200 = true then (if inb (((60 : Int32) * v1) + v2) 240 = true then (lt1 (sI σ 71 (Int32.toNatClampNeg (((60 : Int32) * v1) + v2)) (gI σ 60 (Int32.toNatClampNeg v2))) fun σ3 => k44 v1 (v2 + (1 : Int32)) σ3) else none) else none))
set_option maxHeartbeats 4000000 in
set_option maxRecDepth 100000 in
theorem vB_Mo_writes_44 {X : Xt} {E : En} (g : GG X E 3 b_Mo_writes R_Mo 3) {k44 : Int32 → Int32 → Sto → Option (Int32 × Sto)} (hk44 : ∀ (v1 : Int32) (v2 : Int32) (σ : Sto), VV X E b_Mo_writes 3 eI 44 [(0, .ref (E.2.1 48)), (1, .int v1), (2, .int v2)] [] σ (k44 v1 v2 σ)) (v1 : Int32) (v2 : Int32) (σ : Sto) : VV X E b_Mo_writes 3 eI 44 [(0, .ref (E.2.1 48)), (1, .int v1), (2, .int v2)] [] σ (B_Mo_writes_44 k44 v1 v2 σ) := by
  unfold B_Mo_writes_44
  refine v_iload_n 2 g d_Mo_writes_44 rfl ?_
  refine v_aload_n 0 g d_Mo_writes_45 rfl ?_
  refine v_getI g ff_Mo_249 rfl rfl d_Mo_writes_46 ?_
  refine v_icmp_ge 75 g d_Mo_writes_49 (by decide) (fun _ => ?_) (fun _ => ?_)
  · refine v_aload_n 0 g d_Mo_writes_75 rfl ?_
    refine v_getI g ff_Mo_249 rfl rfl d_Mo_writes_76 ?_
    exact v_ret d_Mo_writes_79 rfl
  · refine v_aload_n 0 g d_Mo_writes_52 rfl ?_
    refine v_getR 71 g ff_Mo_77 rfl rfl rfl d_Mo_writes_53 ?_
    refine v_bipush (v := (60 : Int32)) g d_Mo_writes_56 (by decide +kernel) ?_
    refine v_iload_n 1 g d_Mo_writes_58 rfl ?_
    refine v_imul g d_Mo_writes_59 ?_
    refine v_iload_n 2 g d_Mo_writes_60 rfl ?_
    refine v_iadd g d_Mo_writes_61 ?_
    refine v_aload_n 0 g d_Mo_writes_62 rfl ?_
    refine v_getR 60 g ff_Mo_44 rfl rfl rfl d_Mo_writes_63 ?_
    refine v_iload_n 2 g d_Mo_writes_66 rfl ?_
    refine v_iald g rfl rfl d_Mo_writes_67 (fun _ => ?_)
    refine v_iast g rfl rfl d_Mo_writes_68 (fun _ => ?_)
    refine v_nlet (fun σ3 eσ3 => ?_)
    rw [← eσ3]
    refine v_iinc 2 [(2, .int (v2 + (1 : Int32))), (0, .ref (E.2.1 48)), (1, .int v1)] g d_Mo_writes_69 rfl (v := (1 : Int32)) (by decide +kernel) (by decide) rfl ?_
    refine v_goto 44 g d_Mo_writes_72 (by decide) ?_
    exact v_sub [1,2,0] rfl (hk44 v1 (v2 + (1 : Int32)) σ3)
def L_Mo_writes_44 : Nat → Int32 → Int32 → Sto → Option (Int32 × Sto)
  | 0, _, _, _ => none
  | fu + 1, v1, v2, σ => B_Mo_writes_44 (L_Mo_writes_44 fu) v1 v2 σ
theorem vL_Mo_writes_44 {X : Xt} {E : En} (g : GG X E 3 b_Mo_writes R_Mo 3) (fu : Nat) : ∀ (v1 : Int32) (v2 : Int32) (σ : Sto), VV X E b_Mo_writes 3 eI 44 [(0, .ref (E.2.1 48)), (1, .int v1), (2, .int v2)] [] σ (L_Mo_writes_44 fu v1 v2 σ) := by
  induction fu with
  | zero => intros; exact v_none
  | succ fu ih =>
    intro v1 v2 σ
    exact vB_Mo_writes_44 g ih v1 v2 σ
def B_Mo_writes_0 (a1 : Int32) (σ : Sto) : Option (Int32 × Sto) :=
  ((f_Mo_isSheet a1 σ).bind fun q1 => (if (b2i q1.1) = 0 then some ((-2 : Int32), q1.2)
 else (if (gI q1.2 48 19) = 0 then some ((-3 : Int32), q1.2)
  else (if (gI q1.2 48 19) ≤ (60 : Int32) then ((f_Mo_becomesRow a1 (1 : Int32) (gI q1.2 48 19) q1.2).bind fun q2 => L_Mo_writes_44 LF a1 (0 : Int32) q2.2)
   else some ((-4 : Int32), q1.2)))))
set_option maxHeartbeats 4000000 in
set_option maxRecDepth 100000 in
theorem vB_Mo_writes_0 {X : Xt} {E : En} (g : GG X E 3 b_Mo_writes R_Mo 3) (a1 : Int32) (σ : Sto) : VV X E b_Mo_writes 3 eI 0 [(0, .ref (E.2.1 48)), (1, .int a1)] [] σ (B_Mo_writes_0 a1 σ) := by
  unfold B_Mo_writes_0
  refine v_iload_n 1 g d_Mo_writes_0 rfl ?_
  refine v_callB (r_S (rest := []) [.int a1] g (m1 1401 (by decide +kernel) (by decide +kernel)) ys_Mo_isSheet (fun r σ1 h => sp_Mo_isSheet g.2.2.1  h) rfl rfl (by decide) (Nat.le_of_ble_eq_true rfl) d_Mo_writes_1) (fun q1 => ?_)
  refine v_if_ne 10 g d_Mo_writes_4 (by decide) (fun _ => ?_) (fun _ => ?_)
  · refine v_aload_n 0 g d_Mo_writes_10 rfl ?_
    refine v_getI g ff_Mo_249 rfl rfl d_Mo_writes_11 ?_
    refine v_if_ne 20 g d_Mo_writes_14 (by decide) (fun _ => ?_) (fun _ => ?_)
    · refine v_aload_n 0 g d_Mo_writes_20 rfl ?_
      refine v_getI g ff_Mo_249 rfl rfl d_Mo_writes_21 ?_
      refine v_bipush (v := (60 : Int32)) g d_Mo_writes_24 (by decide +kernel) ?_
      refine v_icmp_le 32 g d_Mo_writes_26 (by decide) (fun _ => ?_) (fun _ => ?_)
      · refine v_aload_n 0 g d_Mo_writes_32 rfl ?_
        refine v_iload_n 1 g d_Mo_writes_33 rfl ?_
        refine v_iconst (v := (1 : Int32)) g d_Mo_writes_34 (by decide +kernel) ?_
        refine v_aload_n 0 g d_Mo_writes_35 rfl ?_
        refine v_getI g ff_Mo_249 rfl rfl d_Mo_writes_36 ?_
        refine v_callU (r_V (rest := []) [.int a1, .int (1 : Int32), .int (gI q1.2 48 19)] g (m1 1412 (by decide +kernel) (by decide +kernel)) yv_Mo_becomesRow rfl (fun r σ1 h => sp_Mo_becomesRow g.2.2.1  h) rfl rfl (by decide) (Nat.le_of_ble_eq_true rfl) d_Mo_writes_39) (fun q2 => ?_)
        refine v_iconst (v := (0 : Int32)) g d_Mo_writes_42 (by decide +kernel) ?_
        refine v_istore_n [(2, .int (0 : Int32)), (0, .ref (E.2.1 48)), (1, .int a1)] g d_Mo_writes_43 (by decide) rfl ?_
        exact v_sub [1,2,0] rfl (vL_Mo_writes_44 g LF a1 (0 : Int32) q2.2)
      · refine v_bipush (v := (-4 : Int32)) g d_Mo_writes_29 (by decide +kernel) ?_
        exact v_ret d_Mo_writes_31 rfl
    · refine v_bipush (v := (-3 : Int32)) g d_Mo_writes_17 (by decide +kernel) ?_
      exact v_ret d_Mo_writes_19 rfl
  · refine v_bipush (v := (-2 : Int32)) g d_Mo_writes_7 (by decide +kernel) ?_
    exact v_ret d_Mo_writes_9 rfl
def f_Mo_writes (a1 : Int32) (σ : Sto) : Option (Int32 × Sto) := B_Mo_writes_0 a1 σ
theorem sp_Mo_writes {l : Launch} {E : En} (hE : Dj E) {a1 : Int32} {σ : Sto} {r : Int32} {σ' : Sto} (h : f_Mo_writes a1 σ = some (r, σ')) : Ct l E y_Mo_writes (wsM y_Mo_writes b_Mo_writes 3 (some .int)) 3 [.ref (E.2.1 48), .int a1] σ (eI r) σ' :=
  ct_of hE (by decide +kernel) (Nat.le_of_ble_eq_true rfl) (fun x => Or.inl ⟨rfl, x, rfl⟩) (fun X _ g => vB_Mo_writes_0 g a1 σ) r σ' h
/-! method FittingRingsModel.cover(IIIJ)I -/
theorem yv_Mo_cover : YV y_Mo_cover b_Mo_cover 10 (some .int) 4 10 := ⟨m1 1417 (by decide +kernel) (by decide +kernel), m1 1418 (by decide +kernel) (by decide +kernel), ini_Mo, m1 1419 (by decide +kernel) (by decide +kernel), ⟨by decide +kernel, by decide +kernel, by decide +kernel⟩, by decide, by decide, T_Mo, 39, rfl⟩
theorem d_Mo_cover_0 : decode b_Mo_cover 0 = .ok (.iload_n 1, 1) := by decide +kernel
theorem d_Mo_cover_1 : decode b_Mo_cover 1 = .ok (.invokestatic 259, 3) := by decide +kernel
theorem d_Mo_cover_4 : decode b_Mo_cover 4 = .ok (.ifCond .eq 26, 3) := by decide +kernel
theorem d_Mo_cover_7 : decode b_Mo_cover 7 = .ok (.iload_n 2, 1) := by decide +kernel
theorem d_Mo_cover_8 : decode b_Mo_cover 8 = .ok (.invokestatic 116, 3) := by decide +kernel
theorem d_Mo_cover_11 : decode b_Mo_cover 11 = .ok (.ifCond .eq 19, 3) := by decide +kernel
theorem d_Mo_cover_14 : decode b_Mo_cover 14 = .ok (.iload_n 3, 1) := by decide +kernel
theorem d_Mo_cover_15 : decode b_Mo_cover 15 = .ok (.invokestatic 116, 3) := by decide +kernel
theorem d_Mo_cover_18 : decode b_Mo_cover 18 = .ok (.ifCond .eq 12, 3) := by decide +kernel
theorem d_Mo_cover_21 : decode b_Mo_cover 21 = .ok (.aload_n 0, 1) := by decide +kernel
theorem d_Mo_cover_22 : decode b_Mo_cover 22 = .ok (.lload 4, 2) := by decide +kernel
theorem d_Mo_cover_24 : decode b_Mo_cover 24 = .ok (.invokevirtual 127, 3) := by decide +kernel
theorem d_Mo_cover_27 : decode b_Mo_cover 27 = .ok (.ifCond .ne 6, 3) := by decide +kernel
theorem d_Mo_cover_30 : decode b_Mo_cover 30 = .ok (.bipush (-2), 2) := by decide +kernel
theorem d_Mo_cover_32 : decode b_Mo_cover 32 = .ok (.ireturn, 1) := by decide +kernel
theorem d_Mo_cover_33 : decode b_Mo_cover 33 = .ok (.aload_n 0, 1) := by decide +kernel
theorem d_Mo_cover_34 : decode b_Mo_cover 34 = .ok (.getfield 71, 3) := by decide +kernel
theorem d_Mo_cover_37 : decode b_Mo_cover 37 = .ok (.iload_n 1, 1) := by decide +kernel
theorem d_Mo_cover_38 : decode b_Mo_cover 38 = .ok (.iaload, 1) := by decide +kernel
theorem d_Mo_cover_39 : decode b_Mo_cover 39 = .ok (.ifCond .ge 6, 3) := by decide +kernel
theorem d_Mo_cover_42 : decode b_Mo_cover 42 = .ok (.bipush (-11), 2) := by decide +kernel
theorem d_Mo_cover_44 : decode b_Mo_cover 44 = .ok (.ireturn, 1) := by decide +kernel
theorem d_Mo_cover_45 : decode b_Mo_cover 45 = .ok (.iconst 0, 1) := by decide +kernel
theorem d_Mo_cover_46 : decode b_Mo_cover 46 = .ok (.istore 6, 2) := by decide +kernel
theorem d_Mo_cover_48 : decode b_Mo_cover 48 = .ok (.iconst 0, 1) := by decide +kernel
theorem d_Mo_cover_49 : decode b_Mo_cover 49 = .ok (.istore 7, 2) := by decide +kernel
theorem d_Mo_cover_51 : decode b_Mo_cover 51 = .ok (.iload 7, 2) := by decide +kernel
theorem d_Mo_cover_53 : decode b_Mo_cover 53 = .ok (.aload_n 0, 1) := by decide +kernel
theorem d_Mo_cover_54 : decode b_Mo_cover 54 = .ok (.getfield 80, 3) := by decide +kernel
theorem d_Mo_cover_57 : decode b_Mo_cover 57 = .ok (.if_icmp .ge 187, 3) := by decide +kernel
theorem d_Mo_cover_60 : decode b_Mo_cover 60 = .ok (.lload 4, 2) := by decide +kernel
theorem d_Mo_cover_62 : decode b_Mo_cover 62 = .ok (.iload 7, 2) := by decide +kernel
theorem d_Mo_cover_64 : decode b_Mo_cover 64 = .ok (.invokestatic 119, 3) := by decide +kernel
theorem d_Mo_cover_67 : decode b_Mo_cover 67 = .ok (.ifCond .ne 6, 3) := by decide +kernel
theorem d_Mo_cover_70 : decode b_Mo_cover 70 = .ok (.goto 168, 3) := by decide +kernel
theorem d_Mo_cover_73 : decode b_Mo_cover 73 = .ok (.iload 7, 2) := by decide +kernel
theorem d_Mo_cover_75 : decode b_Mo_cover 75 = .ok (.aload_n 0, 1) := by decide +kernel
theorem d_Mo_cover_76 : decode b_Mo_cover 76 = .ok (.getfield 74, 3) := by decide +kernel
theorem d_Mo_cover_79 : decode b_Mo_cover 79 = .ok (.iload_n 1, 1) := by decide +kernel
theorem d_Mo_cover_80 : decode b_Mo_cover 80 = .ok (.iaload, 1) := by decide +kernel
theorem d_Mo_cover_81 : decode b_Mo_cover 81 = .ok (.if_icmp .ge 18, 3) := by decide +kernel
theorem d_Mo_cover_84 : decode b_Mo_cover 84 = .ok (.aload_n 0, 1) := by decide +kernel
theorem d_Mo_cover_85 : decode b_Mo_cover 85 = .ok (.getfield 77, 3) := by decide +kernel
theorem d_Mo_cover_88 : decode b_Mo_cover 88 = .ok (.bipush 60, 2) := by decide +kernel
theorem d_Mo_cover_90 : decode b_Mo_cover 90 = .ok (.iload_n 1, 1) := by decide +kernel
theorem d_Mo_cover_91 : decode b_Mo_cover 91 = .ok (.imul, 1) := by decide +kernel
theorem d_Mo_cover_92 : decode b_Mo_cover 92 = .ok (.iload 7, 2) := by decide +kernel
theorem d_Mo_cover_94 : decode b_Mo_cover 94 = .ok (.iadd, 1) := by decide +kernel
theorem d_Mo_cover_95 : decode b_Mo_cover 95 = .ok (.iaload, 1) := by decide +kernel
theorem d_Mo_cover_96 : decode b_Mo_cover 96 = .ok (.ifCond .ge 9, 3) := by decide +kernel
theorem d_Mo_cover_99 : decode b_Mo_cover 99 = .ok (.bipush (-100), 2) := by decide +kernel
theorem d_Mo_cover_101 : decode b_Mo_cover 101 = .ok (.iload 7, 2) := by decide +kernel
theorem d_Mo_cover_103 : decode b_Mo_cover 103 = .ok (.isub, 1) := by decide +kernel
theorem d_Mo_cover_104 : decode b_Mo_cover 104 = .ok (.ireturn, 1) := by decide +kernel
theorem d_Mo_cover_105 : decode b_Mo_cover 105 = .ok (.iconst (-1), 1) := by decide +kernel
theorem d_Mo_cover_106 : decode b_Mo_cover 106 = .ok (.istore 8, 2) := by decide +kernel
theorem d_Mo_cover_108 : decode b_Mo_cover 108 = .ok (.iconst 0, 1) := by decide +kernel
theorem d_Mo_cover_109 : decode b_Mo_cover 109 = .ok (.istore 9, 2) := by decide +kernel
theorem d_Mo_cover_111 : decode b_Mo_cover 111 = .ok (.iload 9, 2) := by decide +kernel
theorem d_Mo_cover_113 : decode b_Mo_cover 113 = .ok (.iload 7, 2) := by decide +kernel
theorem d_Mo_cover_115 : decode b_Mo_cover 115 = .ok (.if_icmp .ge 83, 3) := by decide +kernel
theorem d_Mo_cover_118 : decode b_Mo_cover 118 = .ok (.lload 4, 2) := by decide +kernel
theorem d_Mo_cover_120 : decode b_Mo_cover 120 = .ok (.iload 9, 2) := by decide +kernel
theorem d_Mo_cover_122 : decode b_Mo_cover 122 = .ok (.invokestatic 119, 3) := by decide +kernel
theorem d_Mo_cover_125 : decode b_Mo_cover 125 = .ok (.ifCond .eq 67, 3) := by decide +kernel
theorem d_Mo_cover_128 : decode b_Mo_cover 128 = .ok (.aload_n 0, 1) := by decide +kernel
theorem d_Mo_cover_129 : decode b_Mo_cover 129 = .ok (.getfield 77, 3) := by decide +kernel
theorem d_Mo_cover_132 : decode b_Mo_cover 132 = .ok (.bipush 60, 2) := by decide +kernel
theorem d_Mo_cover_134 : decode b_Mo_cover 134 = .ok (.iload_n 1, 1) := by decide +kernel
theorem d_Mo_cover_135 : decode b_Mo_cover 135 = .ok (.imul, 1) := by decide +kernel
theorem d_Mo_cover_136 : decode b_Mo_cover 136 = .ok (.iload 9, 2) := by decide +kernel
theorem d_Mo_cover_138 : decode b_Mo_cover 138 = .ok (.iadd, 1) := by decide +kernel
theorem d_Mo_cover_139 : decode b_Mo_cover 139 = .ok (.iaload, 1) := by decide +kernel
theorem d_Mo_cover_140 : decode b_Mo_cover 140 = .ok (.aload_n 0, 1) := by decide +kernel
theorem d_Mo_cover_141 : decode b_Mo_cover 141 = .ok (.getfield 77, 3) := by decide +kernel
theorem d_Mo_cover_144 : decode b_Mo_cover 144 = .ok (.bipush 60, 2) := by decide +kernel
theorem d_Mo_cover_146 : decode b_Mo_cover 146 = .ok (.iload_n 1, 1) := by decide +kernel
theorem d_Mo_cover_147 : decode b_Mo_cover 147 = .ok (.imul, 1) := by decide +kernel
theorem d_Mo_cover_148 : decode b_Mo_cover 148 = .ok (.iload 7, 2) := by decide +kernel
theorem d_Mo_cover_150 : decode b_Mo_cover 150 = .ok (.iadd, 1) := by decide +kernel
theorem d_Mo_cover_151 : decode b_Mo_cover 151 = .ok (.iaload, 1) := by decide +kernel
theorem d_Mo_cover_152 : decode b_Mo_cover 152 = .ok (.if_icmp .ne 40, 3) := by decide +kernel
theorem d_Mo_cover_155 : decode b_Mo_cover 155 = .ok (.aload_n 0, 1) := by decide +kernel
theorem d_Mo_cover_156 : decode b_Mo_cover 156 = .ok (.iload_n 2, 1) := by decide +kernel
theorem d_Mo_cover_157 : decode b_Mo_cover 157 = .ok (.iload 7, 2) := by decide +kernel
theorem d_Mo_cover_159 : decode b_Mo_cover 159 = .ok (.iload 9, 2) := by decide +kernel
theorem d_Mo_cover_161 : decode b_Mo_cover 161 = .ok (.invokestatic 110, 3) := by decide +kernel
theorem d_Mo_cover_164 : decode b_Mo_cover 164 = .ok (.invokevirtual 135, 3) := by decide +kernel
theorem d_Mo_cover_167 : decode b_Mo_cover 167 = .ok (.lconst 0, 1) := by decide +kernel
theorem d_Mo_cover_168 : decode b_Mo_cover 168 = .ok (.lcmp, 1) := by decide +kernel
theorem d_Mo_cover_169 : decode b_Mo_cover 169 = .ok (.ifCond .eq 9, 3) := by decide +kernel
theorem d_Mo_cover_172 : decode b_Mo_cover 172 = .ok (.bipush (-100), 2) := by decide +kernel
theorem d_Mo_cover_174 : decode b_Mo_cover 174 = .ok (.iload 7, 2) := by decide +kernel
theorem d_Mo_cover_176 : decode b_Mo_cover 176 = .ok (.isub, 1) := by decide +kernel
theorem d_Mo_cover_177 : decode b_Mo_cover 177 = .ok (.ireturn, 1) := by decide +kernel
theorem d_Mo_cover_178 : decode b_Mo_cover 178 = .ok (.iload 8, 2) := by decide +kernel
theorem d_Mo_cover_180 : decode b_Mo_cover 180 = .ok (.aload_n 0, 1) := by decide +kernel
theorem d_Mo_cover_181 : decode b_Mo_cover 181 = .ok (.iload_n 3, 1) := by decide +kernel
theorem d_Mo_cover_182 : decode b_Mo_cover 182 = .ok (.iload 9, 2) := by decide +kernel
theorem d_Mo_cover_184 : decode b_Mo_cover 184 = .ok (.invokevirtual 141, 3) := by decide +kernel
theorem d_Mo_cover_187 : decode b_Mo_cover 187 = .ok (.invokestatic 162, 3) := by decide +kernel
theorem d_Mo_cover_190 : decode b_Mo_cover 190 = .ok (.istore 8, 2) := by decide +kernel
theorem d_Mo_cover_192 : decode b_Mo_cover 192 = .ok (.iinc 9 1, 3) := by decide +kernel
theorem d_Mo_cover_195 : decode b_Mo_cover 195 = .ok (.goto (-84), 3) := by decide +kernel
theorem d_Mo_cover_198 : decode b_Mo_cover 198 = .ok (.aload_n 0, 1) := by decide +kernel
theorem d_Mo_cover_199 : decode b_Mo_cover 199 = .ok (.iload_n 3, 1) := by decide +kernel
theorem d_Mo_cover_200 : decode b_Mo_cover 200 = .ok (.iload 7, 2) := by decide +kernel
theorem d_Mo_cover_202 : decode b_Mo_cover 202 = .ok (.invokevirtual 141, 3) := by decide +kernel
theorem d_Mo_cover_205 : decode b_Mo_cover 205 = .ok (.istore 9, 2) := by decide +kernel
theorem d_Mo_cover_207 : decode b_Mo_cover 207 = .ok (.iload 6, 2) := by decide +kernel
theorem d_Mo_cover_209 : decode b_Mo_cover 209 = .ok (.iload 8, 2) := by decide +kernel
theorem d_Mo_cover_211 : decode b_Mo_cover 211 = .ok (.ifCond .ge 8, 3) := by decide +kernel
theorem d_Mo_cover_214 : decode b_Mo_cover 214 = .ok (.iload 9, 2) := by decide +kernel
theorem d_Mo_cover_216 : decode b_Mo_cover 216 = .ok (.goto 19, 3) := by decide +kernel
theorem d_Mo_cover_219 : decode b_Mo_cover 219 = .ok (.iload 9, 2) := by decide +kernel
theorem d_Mo_cover_221 : decode b_Mo_cover 221 = .ok (.iload 8, 2) := by decide +kernel
theorem d_Mo_cover_223 : decode b_Mo_cover 223 = .ok (.if_icmp .le 11, 3) := by decide +kernel
theorem d_Mo_cover_226 : decode b_Mo_cover 226 = .ok (.iload 9, 2) := by decide +kernel
theorem d_Mo_cover_228 : decode b_Mo_cover 228 = .ok (.iload 8, 2) := by decide +kernel
theorem d_Mo_cover_230 : decode b_Mo_cover 230 = .ok (.isub, 1) := by decide +kernel
theorem d_Mo_cover_231 : decode b_Mo_cover 231 = .ok (.goto 4, 3) := by decide +kernel
theorem d_Mo_cover_234 : decode b_Mo_cover 234 = .ok (.iconst 0, 1) := by decide +kernel
theorem d_Mo_cover_235 : decode b_Mo_cover 235 = .ok (.iadd, 1) := by decide +kernel
theorem d_Mo_cover_236 : decode b_Mo_cover 236 = .ok (.istore 6, 2) := by decide +kernel
theorem d_Mo_cover_238 : decode b_Mo_cover 238 = .ok (.iinc 7 1, 3) := by decide +kernel
theorem d_Mo_cover_241 : decode b_Mo_cover 241 = .ok (.goto (-190), 3) := by decide +kernel
theorem d_Mo_cover_244 : decode b_Mo_cover 244 = .ok (.iload 6, 2) := by decide +kernel
theorem d_Mo_cover_246 : decode b_Mo_cover 246 = .ok (.ireturn, 1) := by decide +kernel
def B_Mo_cover_111 (k51 : Int32 → Int32 → Int32 → Int64 → Int32 → Int32 → Sto → Option (Int32 × Sto)) (k111 : Int32 → Int32 → Int32 → Int64 → Int32 → Int32 → Int32 → Int32 → Sto → Option (Int32 × Sto)) (v1 : Int32) (v2 : Int32) (v3 : Int32) (v4 : Int64) (v6 : Int32) (v7 : Int32) (v8 : Int32) (v9 : Int32) (σ : Sto) : Option (Int32 × Sto) :=
  (if v7 ≤ v9 then ((f_Mo_worth v3 v7 σ).bind fun q6 => (if 0 ≤ v8 then (if q6.1 ≤ v8 then k51 v1 v2 v3 v4 (v6 + (0 : Int32)) (v7 + (1 : Int32)) q6.2
   else k51 v1 v2 v3 v4 (v6 + (q6.1 - v8)) (v7 + (1 : Int32)) q6.2)
  else k51 v1 v2 v3 v4 (v6 + q6.1) (v7 + (1 : Int32)) q6.2))
 else ((f_Mo_has v4 v9 σ).bind fun q7 => (if (b2i q7.1) = 0 then k111 v1 v2 v3 v4 v6 v7 v8 (v9 + (1 : Int32)) q7.2
  else (if inb (((60 : Int32) * v1) + v9) 240 = true then (if inb (((60 : Int32) * v1) + v7) 240 = true then (if (gI q7.2 71 (Int32.toNatClampNeg (((60 : Int32) * v1) + v9))) = (gI q7.2 71 (Int32.toNatClampNeg (((60 : Int32) * v1) + v7))) then ((f_Mo_bit v9 q7.2).bind fun q8 => ((f_Mo_fits v2 v7 q8.1 q8.2).bind fun q9 => (if q9.1 = (0 : Int64) then ((f_Mo_worth v3 v9 q9.2).bind fun q10 => ((f_Mo_most v8 q10.1 q10.2).bind fun q11 => k111 v1 v2 v3 v4 v6 v7 q11.1 (v9 + (1 : Int32)) q11.2))
    else some (((-100 : Int32) - v7), q9.2))))
   else k111 v1 v2 v3 v4 v6 v7 v8 (v9 + (1 : Int32)) q7.2) else none) else none))))
set_option maxHeartbeats 4000000 in
set_option maxRecDepth 100000 in
theorem vB_Mo_cover_111 {X : Xt} {E : En} (g : GG X E 4 b_Mo_cover R_Mo 10) {k51 : Int32 → Int32 → Int32 → Int64 → Int32 → Int32 → Sto → Option (Int32 × Sto)} {k111 : Int32 → Int32 → Int32 → Int64 → Int32 → Int32 → Int32 → Int32 → Sto → Option (Int32 × Sto)} (hk51 : ∀ (v1 : Int32) (v2 : Int32) (v3 : Int32) (v4 : Int64) (v6 : Int32) (v7 : Int32) (σ : Sto), VV X E b_Mo_cover 10 eI 51 [(0, .ref (E.2.1 48)), (1, .int v1), (2, .int v2), (3, .int v3), (4, .long v4), (6, .int v6), (7, .int v7)] [] σ (k51 v1 v2 v3 v4 v6 v7 σ)) (hk111 : ∀ (v1 : Int32) (v2 : Int32) (v3 : Int32) (v4 : Int64) (v6 : Int32) (v7 : Int32) (v8 : Int32) (v9 : Int32) (σ : Sto), VV X E b_Mo_cover 10 eI 111 [(0, .ref (E.2.1 48)), (1, .int v1), (2, .int v2), (3, .int v3), (4, .long v4), (6, .int v6), (7, .int v7), (8, .int v8), (9, .int v9)] [] σ (k111 v1 v2 v3 v4 v6 v7 v8 v9 σ)) (v1 : Int32) (v2 : Int32) (v3 : Int32) (v4 : Int64) (v6 : Int32) (v7 : Int32) (v8 : Int32) (v9 : Int32) (σ : Sto) : VV X E b_Mo_cover 10 eI 111 [(0, .ref (E.2.1 48)), (1, .int v1), (2, .int v2), (3, .int v3), (4, .long v4), (6, .int v6), (7, .int v7), (8, .int v8), (9, .int v9)] [] σ (B_Mo_cover_111 k51 k111 v1 v2 v3 v4 v6 v7 v8 v9 σ) := by
  unfold B_Mo_cover_111
  refine v_iload 8 g d_Mo_cover_111 rfl ?_
  refine v_iload 6 g d_Mo_cover_113 rfl ?_
  refine v_icmp_ge 198 g d_Mo_cover_115 (by decide) (fun _ => ?_) (fun _ => ?_)
  · refine v_aload_n 0 g d_Mo_cover_198 rfl ?_
    refine v_iload_n 3 g d_Mo_cover_199 rfl ?_
    refine v_iload 6 g d_Mo_cover_200 rfl ?_
    refine v_callI (r_V (rest := []) [.int v3, .int v7] g (m1 1246 (by decide +kernel) (by decide +kernel)) yv_Mo_worth rfl (fun r σ1 h => sp_Mo_worth g.2.2.1  h) rfl rfl (by decide) (Nat.le_of_ble_eq_true rfl) d_Mo_cover_202) (fun q6 => ?_)
    refine v_istore [(9, .int q6.1), (0, .ref (E.2.1 48)), (1, .int v1), (2, .int v2), (3, .int v3), (4, .long v4), (6, .int v6), (7, .int v7), (8, .int v8)] g d_Mo_cover_205 (by decide) rfl ?_
    refine v_iload 6 g d_Mo_cover_207 rfl ?_
    refine v_iload 8 g d_Mo_cover_209 rfl ?_
    refine v_if_ge 219 g d_Mo_cover_211 (by decide) (fun _ => ?_) (fun _ => ?_)
    · refine v_iload 0 g d_Mo_cover_219 rfl ?_
      refine v_iload 8 g d_Mo_cover_221 rfl ?_
      refine v_icmp_le 234 g d_Mo_cover_223 (by decide) (fun _ => ?_) (fun _ => ?_)
      · refine v_iconst (v := (0 : Int32)) g d_Mo_cover_234 (by decide +kernel) ?_
        refine v_iadd g d_Mo_cover_235 ?_
        refine v_istore [(6, .int (v6 + (0 : Int32))), (9, .int q6.1), (0, .ref (E.2.1 48)), (1, .int v1), (2, .int v2), (3, .int v3), (4, .long v4), (7, .int v7), (8, .int v8)] g d_Mo_cover_236 (by decide) rfl ?_
        refine v_iinc 7 [(7, .int (v7 + (1 : Int32))), (6, .int (v6 + (0 : Int32))), (9, .int q6.1), (0, .ref (E.2.1 48)), (1, .int v1), (2, .int v2), (3, .int v3), (4, .long v4), (8, .int v8)] g d_Mo_cover_238 rfl (v := (1 : Int32)) (by decide +kernel) (by decide) rfl ?_
        refine v_goto 51 g d_Mo_cover_241 (by decide) ?_
        exact v_sub [3,4,5,6,7,1,0] rfl (hk51 v1 v2 v3 v4 (v6 + (0 : Int32)) (v7 + (1 : Int32)) q6.2)
      · refine v_iload 0 g d_Mo_cover_226 rfl ?_
        refine v_iload 8 g d_Mo_cover_228 rfl ?_
        refine v_isub g d_Mo_cover_230 ?_
        refine v_goto 235 g d_Mo_cover_231 (by decide) ?_
        refine v_iadd g d_Mo_cover_235 ?_
        refine v_istore [(6, .int (v6 + (q6.1 - v8))), (9, .int q6.1), (0, .ref (E.2.1 48)), (1, .int v1), (2, .int v2), (3, .int v3), (4, .long v4), (7, .int v7), (8, .int v8)] g d_Mo_cover_236 (by decide) rfl ?_
        refine v_iinc 7 [(7, .int (v7 + (1 : Int32))), (6, .int (v6 + (q6.1 - v8))), (9, .int q6.1), (0, .ref (E.2.1 48)), (1, .int v1), (2, .int v2), (3, .int v3), (4, .long v4), (8, .int v8)] g d_Mo_cover_238 rfl (v := (1 : Int32)) (by decide +kernel) (by decide) rfl ?_
        refine v_goto 51 g d_Mo_cover_241 (by decide) ?_
        exact v_sub [3,4,5,6,7,1,0] rfl (hk51 v1 v2 v3 v4 (v6 + (q6.1 - v8)) (v7 + (1 : Int32)) q6.2)
    · refine v_iload 0 g d_Mo_cover_214 rfl ?_
      refine v_goto 235 g d_Mo_cover_216 (by decide) ?_
      refine v_iadd g d_Mo_cover_235 ?_
      refine v_istore [(6, .int (v6 + q6.1)), (9, .int q6.1), (0, .ref (E.2.1 48)), (1, .int v1), (2, .int v2), (3, .int v3), (4, .long v4), (7, .int v7), (8, .int v8)] g d_Mo_cover_236 (by decide) rfl ?_
      refine v_iinc 7 [(7, .int (v7 + (1 : Int32))), (6, .int (v6 + q6.1)), (9, .int q6.1), (0, .ref (E.2.1 48)), (1, .int v1), (2, .int v2), (3, .int v3), (4, .long v4), (8, .int v8)] g d_Mo_cover_238 rfl (v := (1 : Int32)) (by decide +kernel) (by decide) rfl ?_
      refine v_goto 51 g d_Mo_cover_241 (by decide) ?_
      exact v_sub [3,4,5,6,7,1,0] rfl (hk51 v1 v2 v3 v4 (v6 + q6.1) (v7 + (1 : Int32)) q6.2)
  · refine v_lload 4 g d_Mo_cover_118 rfl ?_
    refine v_iload 8 g d_Mo_cover_120 rfl ?_
    refine v_callB (r_S (rest := []) [.long v4, .int v9] g (m1 1206 (by decide +kernel) (by decide +kernel)) ys_Mo_has (fun r σ1 h => sp_Mo_has g.2.2.1  h) rfl rfl (by decide) (Nat.le_of_ble_eq_true rfl) d_Mo_cover_122) (fun q7 => ?_)
    refine v_if_eq 192 g d_Mo_cover_125 (by decide) (fun _ => ?_) (fun _ => ?_)
    · refine v_iinc 8 [(9, .int (v9 + (1 : Int32))), (0, .ref (E.2.1 48)), (1, .int v1), (2, .int v2), (3, .int v3), (4, .long v4), (6, .int v6), (7, .int v7), (8, .int v8)] g d_Mo_cover_192 rfl (v := (1 : Int32)) (by decide +kernel) (by decide) rfl ?_
      refine v_goto 111 g d_Mo_cover_195 (by decide) ?_
      exact v_sub [1,2,3,4,5,6,7,8,0] rfl (hk111 v1 v2 v3 v4 v6 v7 v8 (v9 + (1 : Int32)) q7.2)
    · refine v_aload_n 0 g d_Mo_cover_128 rfl ?_
      refine v_getR 71 g ff_Mo_77 rfl rfl rfl d_Mo_cover_129 ?_
      refine v_bipush (v := (60 : Int32)) g d_Mo_cover_132 (by decide +kernel) ?_
      refine v_iload_n 1 g d_Mo_cover_134 rfl ?_
      refine v_imul g d_Mo_cover_135 ?_
      refine v_iload 8 g d_Mo_cover_136 rfl ?_
      refine v_iadd g d_Mo_cover_138 ?_
      refine v_iald g rfl rfl d_Mo_cover_139 (fun _ => ?_)
      refine v_aload_n 0 g d_Mo_cover_140 rfl ?_
      refine v_getR 71 g ff_Mo_77 rfl rfl rfl d_Mo_cover_141 ?_
      refine v_bipush (v := (60 : Int32)) g d_Mo_cover_144 (by decide +kernel) ?_
      refine v_iload_n 1 g d_Mo_cover_146 rfl ?_
      refine v_imul g d_Mo_cover_147 ?_
      refine v_iload 6 g d_Mo_cover_148 rfl ?_
      refine v_iadd g d_Mo_cover_150 ?_
      refine v_iald g rfl rfl d_Mo_cover_151 (fun _ => ?_)
      refine v_icmp_ne 192 g d_Mo_cover_152 (by decide) (fun _ => ?_) (fun _ => ?_)
      · refine v_iinc 8 [(9, .int (v9 + (1 : Int32))), (0, .ref (E.2.1 48)), (1, .int v1), (2, .int v2), (3, .int v3), (4, .long v4), (6, .int v6), (7, .int v7), (8, .int v8)] g d_Mo_cover_192 rfl (v := (1 : Int32)) (by decide +kernel) (by decide) rfl ?_
        refine v_goto 111 g d_Mo_cover_195 (by decide) ?_
        exact v_sub [1,2,3,4,5,6,7,8,0] rfl (hk111 v1 v2 v3 v4 v6 v7 v8 (v9 + (1 : Int32)) q7.2)
      · refine v_aload_n 0 g d_Mo_cover_155 rfl ?_
        refine v_iload_n 2 g d_Mo_cover_156 rfl ?_
        refine v_iload 6 g d_Mo_cover_157 rfl ?_
        refine v_iload 8 g d_Mo_cover_159 rfl ?_
        refine v_callL (r_S (rest := [.int v7, .int v2, .ref (E.2.1 48)]) [.int v9] g (m1 1213 (by decide +kernel) (by decide +kernel)) ys_Mo_bit (fun r σ1 h => sp_Mo_bit g.2.2.1  h) rfl rfl (by decide) (Nat.le_of_ble_eq_true rfl) d_Mo_cover_161) (fun q8 => ?_)
        refine v_callL (r_V (rest := []) [.int v2, .int v7, .long q8.1] g (m1 1233 (by decide +kernel) (by decide +kernel)) yv_Mo_fits rfl (fun r σ1 h => sp_Mo_fits g.2.2.1  h) rfl rfl (by decide) (Nat.le_of_ble_eq_true rfl) d_Mo_cover_164) (fun q9 => ?_)
        refine v_lconst (v := (0 : Int64)) g d_Mo_cover_167 (by decide +kernel) ?_
        refine v_lcmp_eq 178 g d_Mo_cover_168 d_Mo_cover_169 (by decide) (fun _ => ?_) (fun _ => ?_)
        · refine v_iload 7 g d_Mo_cover_178 rfl ?_
          refine v_aload_n 0 g d_Mo_cover_180 rfl ?_
          refine v_iload_n 3 g d_Mo_cover_181 rfl ?_
          refine v_iload 8 g d_Mo_cover_182 rfl ?_
          refine v_callI (r_V (rest := [.int v8]) [.int v3, .int v9] g (m1 1246 (by decide +kernel) (by decide +kernel)) yv_Mo_worth rfl (fun r σ1 h => sp_Mo_worth g.2.2.1  h) rfl rfl (by decide) (Nat.le_of_ble_eq_true rfl) d_Mo_cover_184) (fun q10 => ?_)
          refine v_callI (r_S (rest := []) [.int v8, .int q10.1] g (m1 1270 (by decide +kernel) (by decide +kernel)) ys_Mo_most (fun r σ1 h => sp_Mo_most g.2.2.1  h) rfl rfl (by decide) (Nat.le_of_ble_eq_true rfl) d_Mo_cover_187) (fun q11 => ?_)
          refine v_istore [(8, .int q11.1), (0, .ref (E.2.1 48)), (1, .int v1), (2, .int v2), (3, .int v3), (4, .long v4), (6, .int v6), (7, .int v7), (9, .int v9)] g d_Mo_cover_190 (by decide) rfl ?_
          refine v_iinc 8 [(9, .int (v9 + (1 : Int32))), (8, .int q11.1), (0, .ref (E.2.1 48)), (1, .int v1), (2, .int v2), (3, .int v3), (4, .long v4), (6, .int v6), (7, .int v7)] g d_Mo_cover_192 rfl (v := (1 : Int32)) (by decide +kernel) (by decide) rfl ?_
          refine v_goto 111 g d_Mo_cover_195 (by decide) ?_
          exact v_sub [2,3,4,5,6,7,8,1,0] rfl (hk111 v1 v2 v3 v4 v6 v7 q11.1 (v9 + (1 : Int32)) q11.2)
        · refine v_bipush (v := (-100 : Int32)) g d_Mo_cover_172 (by decide +kernel) ?_
          refine v_iload 6 g d_Mo_cover_174 rfl ?_
          refine v_isub g d_Mo_cover_176 ?_
          exact v_ret d_Mo_cover_177 rfl
def L_Mo_cover_111 (k51 : Int32 → Int32 → Int32 → Int64 → Int32 → Int32 → Sto → Option (Int32 × Sto)) : Nat → Int32 → Int32 → Int32 → Int64 → Int32 → Int32 → Int32 → Int32 → Sto → Option (Int32 × Sto)
  | 0, _, _, _, _, _, _, _, _, _ => none
  | fu + 1, v1, v2, v3, v4, v6, v7, v8, v9, σ => B_Mo_cover_111 k51 (L_Mo_cover_111 k51 fu) v1 v2 v3 v4 v6 v7 v8 v9 σ
theorem vL_Mo_cover_111 {X : Xt} {E : En} (g : GG X E 4 b_Mo_cover R_Mo 10) {k51 : Int32 → Int32 → Int32 → Int64 → Int32 → Int32 → Sto → Option (Int32 × Sto)} (hk51 : ∀ (v1 : Int32) (v2 : Int32) (v3 : Int32) (v4 : Int64) (v6 : Int32) (v7 : Int32) (σ : Sto), VV X E b_Mo_cover 10 eI 51 [(0, .ref (E.2.1 48)), (1, .int v1), (2, .int v2), (3, .int v3), (4, .long v4), (6, .int v6), (7, .int v7)] [] σ (k51 v1 v2 v3 v4 v6 v7 σ)) (fu : Nat) : ∀ (v1 : Int32) (v2 : Int32) (v3 : Int32) (v4 : Int64) (v6 : Int32) (v7 : Int32) (v8 : Int32) (v9 : Int32) (σ : Sto), VV X E b_Mo_cover 10 eI 111 [(0, .ref (E.2.1 48)), (1, .int v1), (2, .int v2), (3, .int v3), (4, .long v4), (6, .int v6), (7, .int v7), (8, .int v8), (9, .int v9)] [] σ (L_Mo_cover_111 k51 fu v1 v2 v3 v4 v6 v7 v8 v9 σ) := by
  induction fu with
  | zero => intros; exact v_none
  | succ fu ih =>
    intro v1 v2 v3 v4 v6 v7 v8 v9 σ
    exact vB_Mo_cover_111 g hk51 ih v1 v2 v3 v4 v6 v7 v8 v9 σ
def B_Mo_cover_51 (k51 : Int32 → Int32 → Int32 → Int64 → Int32 → Int32 → Sto → Option (Int32 × Sto)) (v1 : Int32) (v2 : Int32) (v3 : Int32) (v4 : Int64) (v6 : Int32) (v7 : Int32) (σ : Sto) : Option (Int32 × Sto) :=
  (if (gI σ 48 0) ≤ v7 then some (v6, σ)
 else ((f_Mo_has v4 v7 σ).bind fun q5 => (if (b2i q5.1) = 0 then k51 v1 v2 v3 v4 v6 (v7 + (1 : Int32)) q5.2
  else (if inb v1 4 = true then (if (gI q5.2 70 (Int32.toNatClampNeg v1)) ≤ v7 then some (((-100 : Int32) - v7), q5.2)
   else (if inb (((60 : Int32) * v1) + v7) 240 = true then (if 0 ≤ (gI q5.2 71 (Int32.toNatClampNeg (((60 : Int32) * v1) + v7))) then L_Mo_cover_111 k51 LF v1 v2 v3 v4 v6 v7 (-1 : Int32) (0 : Int32) q5.2
    else some (((-100 : Int32) - v7), q5.2)) else none)) else none))))
set_option maxHeartbeats 4000000 in
set_option maxRecDepth 100000 in
theorem vB_Mo_cover_51 {X : Xt} {E : En} (g : GG X E 4 b_Mo_cover R_Mo 10) {k51 : Int32 → Int32 → Int32 → Int64 → Int32 → Int32 → Sto → Option (Int32 × Sto)} (hk51 : ∀ (v1 : Int32) (v2 : Int32) (v3 : Int32) (v4 : Int64) (v6 : Int32) (v7 : Int32) (σ : Sto), VV X E b_Mo_cover 10 eI 51 [(0, .ref (E.2.1 48)), (1, .int v1), (2, .int v2), (3, .int v3), (4, .long v4), (6, .int v6), (7, .int v7)] [] σ (k51 v1 v2 v3 v4 v6 v7 σ)) (v1 : Int32) (v2 : Int32) (v3 : Int32) (v4 : Int64) (v6 : Int32) (v7 : Int32) (σ : Sto) : VV X E b_Mo_cover 10 eI 51 [(0, .ref (E.2.1 48)), (1, .int v1), (2, .int v2), (3, .int v3), (4, .long v4), (6, .int v6), (7, .int v7)] [] σ (B_Mo_cover_51 k51 v1 v2 v3 v4 v6 v7 σ) := by
  unfold B_Mo_cover_51
  refine v_iload 6 g d_Mo_cover_51 rfl ?_
  refine v_aload_n 0 g d_Mo_cover_53 rfl ?_
  refine v_getI g ff_Mo_80 rfl rfl d_Mo_cover_54 ?_
  refine v_icmp_ge 244 g d_Mo_cover_57 (by decide) (fun _ => ?_) (fun _ => ?_)
  · refine v_iload 5 g d_Mo_cover_244 rfl ?_
    exact v_ret d_Mo_cover_246 rfl
  · refine v_lload 4 g d_Mo_cover_60 rfl ?_
    refine v_iload 6 g d_Mo_cover_62 rfl ?_
    refine v_callB (r_S (rest := []) [.long v4, .int v7] g (m1 1206 (by decide +kernel) (by decide +kernel)) ys_Mo_has (fun r σ1 h => sp_Mo_has g.2.2.1  h) rfl rfl (by decide) (Nat.le_of_ble_eq_true rfl) d_Mo_cover_64) (fun q5 => ?_)
    refine v_if_ne 73 g d_Mo_cover_67 (by decide) (fun _ => ?_) (fun _ => ?_)
    · refine v_iload 6 g d_Mo_cover_73 rfl ?_
      refine v_aload_n 0 g d_Mo_cover_75 rfl ?_
      refine v_getR 70 g ff_Mo_74 rfl rfl rfl d_Mo_cover_76 ?_
      refine v_iload_n 1 g d_Mo_cover_79 rfl ?_
      refine v_iald g rfl rfl d_Mo_cover_80 (fun _ => ?_)
      refine v_icmp_ge 99 g d_Mo_cover_81 (by decide) (fun _ => ?_) (fun _ => ?_)
      · refine v_bipush (v := (-100 : Int32)) g d_Mo_cover_99 (by decide +kernel) ?_
        refine v_iload 6 g d_Mo_cover_101 rfl ?_
        refine v_isub g d_Mo_cover_103 ?_
        exact v_ret d_Mo_cover_104 rfl
      · refine v_aload_n 0 g d_Mo_cover_84 rfl ?_
        refine v_getR 71 g ff_Mo_77 rfl rfl rfl d_Mo_cover_85 ?_
        refine v_bipush (v := (60 : Int32)) g d_Mo_cover_88 (by decide +kernel) ?_
        refine v_iload_n 1 g d_Mo_cover_90 rfl ?_
        refine v_imul g d_Mo_cover_91 ?_
        refine v_iload 6 g d_Mo_cover_92 rfl ?_
        refine v_iadd g d_Mo_cover_94 ?_
        refine v_iald g rfl rfl d_Mo_cover_95 (fun _ => ?_)
        refine v_if_ge 105 g d_Mo_cover_96 (by decide) (fun _ => ?_) (fun _ => ?_)
        · refine v_iconst (v := (-1 : Int32)) g d_Mo_cover_105 (by decide +kernel) ?_
          refine v_istore [(8, .int (-1 : Int32)), (0, .ref (E.2.1 48)), (1, .int v1), (2, .int v2), (3, .int v3), (4, .long v4), (6, .int v6), (7, .int v7)] g d_Mo_cover_106 (by decide) rfl ?_
          refine v_iconst (v := (0 : Int32)) g d_Mo_cover_108 (by decide +kernel) ?_
          refine v_istore [(9, .int (0 : Int32)), (8, .int (-1 : Int32)), (0, .ref (E.2.1 48)), (1, .int v1), (2, .int v2), (3, .int v3), (4, .long v4), (6, .int v6), (7, .int v7)] g d_Mo_cover_109 (by decide) rfl ?_
          exact v_sub [2,3,4,5,6,7,8,1,0] rfl (vL_Mo_cover_111 g hk51 LF v1 v2 v3 v4 v6 v7 (-1 : Int32) (0 : Int32) q5.2)
        · refine v_bipush (v := (-100 : Int32)) g d_Mo_cover_99 (by decide +kernel) ?_
          refine v_iload 6 g d_Mo_cover_101 rfl ?_
          refine v_isub g d_Mo_cover_103 ?_
          exact v_ret d_Mo_cover_104 rfl
    · refine v_goto 238 g d_Mo_cover_70 (by decide) ?_
      refine v_iinc 6 [(7, .int (v7 + (1 : Int32))), (0, .ref (E.2.1 48)), (1, .int v1), (2, .int v2), (3, .int v3), (4, .long v4), (6, .int v6)] g d_Mo_cover_238 rfl (v := (1 : Int32)) (by decide +kernel) (by decide) rfl ?_
      refine v_goto 51 g d_Mo_cover_241 (by decide) ?_
      exact v_sub [1,2,3,4,5,6,0] rfl (hk51 v1 v2 v3 v4 v6 (v7 + (1 : Int32)) q5.2)
def L_Mo_cover_51 : Nat → Int32 → Int32 → Int32 → Int64 → Int32 → Int32 → Sto → Option (Int32 × Sto)
  | 0, _, _, _, _, _, _, _ => none
  | fu + 1, v1, v2, v3, v4, v6, v7, σ => B_Mo_cover_51 (L_Mo_cover_51 fu) v1 v2 v3 v4 v6 v7 σ
theorem vL_Mo_cover_51 {X : Xt} {E : En} (g : GG X E 4 b_Mo_cover R_Mo 10) (fu : Nat) : ∀ (v1 : Int32) (v2 : Int32) (v3 : Int32) (v4 : Int64) (v6 : Int32) (v7 : Int32) (σ : Sto), VV X E b_Mo_cover 10 eI 51 [(0, .ref (E.2.1 48)), (1, .int v1), (2, .int v2), (3, .int v3), (4, .long v4), (6, .int v6), (7, .int v7)] [] σ (L_Mo_cover_51 fu v1 v2 v3 v4 v6 v7 σ) := by
  induction fu with
  | zero => intros; exact v_none
  | succ fu ih =>
    intro v1 v2 v3 v4 v6 v7 σ
    exact vB_Mo_cover_51 g ih v1 v2 v3 v4 v6 v7 σ
def B_Mo_cover_0 (a1 : Int32) (a2 : Int32) (a3 : Int32) (a4 : Int64) (σ : Sto) : Option (Int32 × Sto) :=
  ((f_Mo_isSheet a1 σ).bind fun q1 => (if (b2i q1.1) = 0 then some ((-2 : Int32), q1.2)
 else ((f_Mo_isOne a2 q1.2).bind fun q2 => (if (b2i q2.1) = 0 then some ((-2 : Int32), q2.2)
  else ((f_Mo_isOne a3 q2.2).bind fun q3 => (if (b2i q3.1) = 0 then some ((-2 : Int32), q3.2)
   else ((f_Mo_isSet a4 q3.2).bind fun q4 => (if (b2i q4.1) = 0 then some ((-2 : Int32), q4.2)
    else (if inb a1 4 = true then (if 0 ≤ (gI q4.2 69 (Int32.toNatClampNeg a1)) then L_Mo_cover_51 LF a1 a2 a3 a4 (0 : Int32) (0 : Int32) q4.2
     else some ((-11 : Int32), q4.2)) else none)))))))))
set_option maxHeartbeats 4000000 in
set_option maxRecDepth 100000 in
theorem vB_Mo_cover_0 {X : Xt} {E : En} (g : GG X E 4 b_Mo_cover R_Mo 10) (a1 : Int32) (a2 : Int32) (a3 : Int32) (a4 : Int64) (σ : Sto) : VV X E b_Mo_cover 10 eI 0 [(0, .ref (E.2.1 48)), (1, .int a1), (2, .int a2), (3, .int a3), (4, .long a4)] [] σ (B_Mo_cover_0 a1 a2 a3 a4 σ) := by
  unfold B_Mo_cover_0
  refine v_iload_n 1 g d_Mo_cover_0 rfl ?_
  refine v_callB (r_S (rest := []) [.int a1] g (m1 1401 (by decide +kernel) (by decide +kernel)) ys_Mo_isSheet (fun r σ1 h => sp_Mo_isSheet g.2.2.1  h) rfl rfl (by decide) (Nat.le_of_ble_eq_true rfl) d_Mo_cover_1) (fun q1 => ?_)
  refine v_if_eq 30 g d_Mo_cover_4 (by decide) (fun _ => ?_) (fun _ => ?_)
  · refine v_bipush (v := (-2 : Int32)) g d_Mo_cover_30 (by decide +kernel) ?_
    exact v_ret d_Mo_cover_32 rfl
  · refine v_iload_n 2 g d_Mo_cover_7 rfl ?_
    refine v_callB (r_S (rest := []) [.int a2] g (m1 1203 (by decide +kernel) (by decide +kernel)) ys_Mo_isOne (fun r σ1 h => sp_Mo_isOne g.2.2.1  h) rfl rfl (by decide) (Nat.le_of_ble_eq_true rfl) d_Mo_cover_8) (fun q2 => ?_)
    refine v_if_eq 30 g d_Mo_cover_11 (by decide) (fun _ => ?_) (fun _ => ?_)
    · refine v_bipush (v := (-2 : Int32)) g d_Mo_cover_30 (by decide +kernel) ?_
      exact v_ret d_Mo_cover_32 rfl
    · refine v_iload_n 3 g d_Mo_cover_14 rfl ?_
      refine v_callB (r_S (rest := []) [.int a3] g (m1 1203 (by decide +kernel) (by decide +kernel)) ys_Mo_isOne (fun r σ1 h => sp_Mo_isOne g.2.2.1  h) rfl rfl (by decide) (Nat.le_of_ble_eq_true rfl) d_Mo_cover_15) (fun q3 => ?_)
      refine v_if_eq 30 g d_Mo_cover_18 (by decide) (fun _ => ?_) (fun _ => ?_)
      · refine v_bipush (v := (-2 : Int32)) g d_Mo_cover_30 (by decide +kernel) ?_
        exact v_ret d_Mo_cover_32 rfl
      · refine v_aload_n 0 g d_Mo_cover_21 rfl ?_
        refine v_lload 4 g d_Mo_cover_22 rfl ?_
        refine v_callB (r_V (rest := []) [.long a4] g (m1 1221 (by decide +kernel) (by decide +kernel)) yv_Mo_isSet rfl (fun r σ1 h => sp_Mo_isSet g.2.2.1  h) rfl rfl (by decide) (Nat.le_of_ble_eq_true rfl) d_Mo_cover_24) (fun q4 => ?_)
        refine v_if_ne 33 g d_Mo_cover_27 (by decide) (fun _ => ?_) (fun _ => ?_)
        · refine v_aload_n 0 g d_Mo_cover_33 rfl ?_
          refine v_getR 69 g ff_Mo_71 rfl rfl rfl d_Mo_cover_34 ?_
          refine v_iload_n 1 g d_Mo_cover_37 rfl ?_
          refine v_iald g rfl rfl d_Mo_cover_38 (fun _ => ?_)
          refine v_if_ge 45 g d_Mo_cover_39 (by decide) (fun _ => ?_) (fun _ => ?_)
          · refine v_iconst (v := (0 : Int32)) g d_Mo_cover_45 (by decide +kernel) ?_
            refine v_istore [(6, .int (0 : Int32)), (0, .ref (E.2.1 48)), (1, .int a1), (2, .int a2), (3, .int a3), (4, .long a4)] g d_Mo_cover_46 (by decide) rfl ?_
            refine v_iconst (v := (0 : Int32)) g d_Mo_cover_48 (by decide +kernel) ?_
            refine v_istore [(7, .int (0 : Int32)), (6, .int (0 : Int32)), (0, .ref (E.2.1 48)), (1, .int a1), (2, .int a2), (3, .int a3), (4, .long a4)] g d_Mo_cover_49 (by decide) rfl ?_
            exact v_sub [2,3,4,5,6,1,0] rfl (vL_Mo_cover_51 g LF a1 a2 a3 a4 (0 : Int32) (0 : Int32) q4.2)
          · refine v_bipush (v := (-11 : Int32)) g d_Mo_cover_42 (by decide +kernel) ?_
            exact v_ret d_Mo_cover_44 rfl
        · refine v_bipush (v := (-2 : Int32)) g d_Mo_cover_30 (by decide +kernel) ?_
          exact v_ret d_Mo_cover_32 rfl
def f_Mo_cover (a1 : Int32) (a2 : Int32) (a3 : Int32) (a4 : Int64) (σ : Sto) : Option (Int32 × Sto) := B_Mo_cover_0 a1 a2 a3 a4 σ
theorem sp_Mo_cover {l : Launch} {E : En} (hE : Dj E) {a1 : Int32} {a2 : Int32} {a3 : Int32} {a4 : Int64} {σ : Sto} {r : Int32} {σ' : Sto} (h : f_Mo_cover a1 a2 a3 a4 σ = some (r, σ')) : Ct l E y_Mo_cover (wsM y_Mo_cover b_Mo_cover 10 (some .int)) 4 [.ref (E.2.1 48), .int a1, .int a2, .int a3, .long a4] σ (eI r) σ' :=
  ct_of hE (by decide +kernel) (Nat.le_of_ble_eq_true rfl) (fun x => Or.inl ⟨rfl, x, rfl⟩) (fun X _ g => vB_Mo_cover_0 g a1 a2 a3 a4 σ) r σ' h
/-! method FittingRingsModel.film(IIJ)I -/
theorem yv_Mo_film : YV y_Mo_film b_Mo_film 8 (some .int) 3 10 := ⟨m1 1421 (by decide +kernel) (by decide +kernel), m1 1422 (by decide +kernel) (by decide +kernel), ini_Mo, m1 1423 (by decide +kernel) (by decide +kernel), ⟨by decide +kernel, by decide +kernel, by decide +kernel⟩, by decide, by decide, T_Mo, 39, rfl⟩
theorem d_Mo_film_0 : decode b_Mo_film 0 = .ok (.iload_n 1, 1) := by decide +kernel
theorem d_Mo_film_1 : decode b_Mo_film 1 = .ok (.invokestatic 259, 3) := by decide +kernel
theorem d_Mo_film_4 : decode b_Mo_film 4 = .ok (.ifCond .eq 18, 3) := by decide +kernel
theorem d_Mo_film_7 : decode b_Mo_film 7 = .ok (.iload_n 2, 1) := by decide +kernel
theorem d_Mo_film_8 : decode b_Mo_film 8 = .ok (.invokestatic 116, 3) := by decide +kernel
theorem d_Mo_film_11 : decode b_Mo_film 11 = .ok (.ifCond .eq 11, 3) := by decide +kernel
theorem d_Mo_film_14 : decode b_Mo_film 14 = .ok (.aload_n 0, 1) := by decide +kernel
theorem d_Mo_film_15 : decode b_Mo_film 15 = .ok (.lload_n 3, 1) := by decide +kernel
theorem d_Mo_film_16 : decode b_Mo_film 16 = .ok (.invokevirtual 127, 3) := by decide +kernel
theorem d_Mo_film_19 : decode b_Mo_film 19 = .ok (.ifCond .ne 6, 3) := by decide +kernel
theorem d_Mo_film_22 : decode b_Mo_film 22 = .ok (.bipush (-2), 2) := by decide +kernel
theorem d_Mo_film_24 : decode b_Mo_film 24 = .ok (.ireturn, 1) := by decide +kernel
theorem d_Mo_film_25 : decode b_Mo_film 25 = .ok (.aload_n 0, 1) := by decide +kernel
theorem d_Mo_film_26 : decode b_Mo_film 26 = .ok (.iload_n 2, 1) := by decide +kernel
theorem d_Mo_film_27 : decode b_Mo_film 27 = .ok (.lload_n 3, 1) := by decide +kernel
theorem d_Mo_film_28 : decode b_Mo_film 28 = .ok (.invokevirtual 172, 3) := by decide +kernel
theorem d_Mo_film_31 : decode b_Mo_film 31 = .ok (.aload_n 0, 1) := by decide +kernel
theorem d_Mo_film_32 : decode b_Mo_film 32 = .ok (.iload_n 1, 1) := by decide +kernel
theorem d_Mo_film_33 : decode b_Mo_film 33 = .ok (.iconst 0, 1) := by decide +kernel
theorem d_Mo_film_34 : decode b_Mo_film 34 = .ok (.aload_n 0, 1) := by decide +kernel
theorem d_Mo_film_35 : decode b_Mo_film 35 = .ok (.getfield 80, 3) := by decide +kernel
theorem d_Mo_film_38 : decode b_Mo_film 38 = .ok (.invokevirtual 262, 3) := by decide +kernel
theorem d_Mo_film_41 : decode b_Mo_film 41 = .ok (.iconst 0, 1) := by decide +kernel
theorem d_Mo_film_42 : decode b_Mo_film 42 = .ok (.istore 5, 2) := by decide +kernel
theorem d_Mo_film_44 : decode b_Mo_film 44 = .ok (.iload 5, 2) := by decide +kernel
theorem d_Mo_film_46 : decode b_Mo_film 46 = .ok (.aload_n 0, 1) := by decide +kernel
theorem d_Mo_film_47 : decode b_Mo_film 47 = .ok (.getfield 80, 3) := by decide +kernel
theorem d_Mo_film_50 : decode b_Mo_film 50 = .ok (.if_icmp .ge 68, 3) := by decide +kernel
theorem d_Mo_film_53 : decode b_Mo_film 53 = .ok (.iconst (-1), 1) := by decide +kernel
theorem d_Mo_film_54 : decode b_Mo_film 54 = .ok (.istore 6, 2) := by decide +kernel
theorem d_Mo_film_56 : decode b_Mo_film 56 = .ok (.iconst 0, 1) := by decide +kernel
theorem d_Mo_film_57 : decode b_Mo_film 57 = .ok (.istore 7, 2) := by decide +kernel
theorem d_Mo_film_59 : decode b_Mo_film 59 = .ok (.iload 7, 2) := by decide +kernel
theorem d_Mo_film_61 : decode b_Mo_film 61 = .ok (.aload_n 0, 1) := by decide +kernel
theorem d_Mo_film_62 : decode b_Mo_film 62 = .ok (.getfield 169, 3) := by decide +kernel
theorem d_Mo_film_65 : decode b_Mo_film 65 = .ok (.if_icmp .ge 33, 3) := by decide +kernel
theorem d_Mo_film_68 : decode b_Mo_film 68 = .ok (.aload_n 0, 1) := by decide +kernel
theorem d_Mo_film_69 : decode b_Mo_film 69 = .ok (.getfield 32, 3) := by decide +kernel
theorem d_Mo_film_72 : decode b_Mo_film 72 = .ok (.iload 7, 2) := by decide +kernel
theorem d_Mo_film_74 : decode b_Mo_film 74 = .ok (.laload, 1) := by decide +kernel
theorem d_Mo_film_75 : decode b_Mo_film 75 = .ok (.iload 5, 2) := by decide +kernel
theorem d_Mo_film_77 : decode b_Mo_film 77 = .ok (.invokestatic 119, 3) := by decide +kernel
theorem d_Mo_film_80 : decode b_Mo_film 80 = .ok (.ifCond .eq 8, 3) := by decide +kernel
theorem d_Mo_film_83 : decode b_Mo_film 83 = .ok (.iload 7, 2) := by decide +kernel
theorem d_Mo_film_85 : decode b_Mo_film 85 = .ok (.goto 5, 3) := by decide +kernel
theorem d_Mo_film_88 : decode b_Mo_film 88 = .ok (.iload 6, 2) := by decide +kernel
theorem d_Mo_film_90 : decode b_Mo_film 90 = .ok (.istore 6, 2) := by decide +kernel
theorem d_Mo_film_92 : decode b_Mo_film 92 = .ok (.iinc 7 1, 3) := by decide +kernel
theorem d_Mo_film_95 : decode b_Mo_film 95 = .ok (.goto (-36), 3) := by decide +kernel
theorem d_Mo_film_98 : decode b_Mo_film 98 = .ok (.aload_n 0, 1) := by decide +kernel
theorem d_Mo_film_99 : decode b_Mo_film 99 = .ok (.getfield 77, 3) := by decide +kernel
theorem d_Mo_film_102 : decode b_Mo_film 102 = .ok (.bipush 60, 2) := by decide +kernel
theorem d_Mo_film_104 : decode b_Mo_film 104 = .ok (.iload_n 1, 1) := by decide +kernel
theorem d_Mo_film_105 : decode b_Mo_film 105 = .ok (.imul, 1) := by decide +kernel
theorem d_Mo_film_106 : decode b_Mo_film 106 = .ok (.iload 5, 2) := by decide +kernel
theorem d_Mo_film_108 : decode b_Mo_film 108 = .ok (.iadd, 1) := by decide +kernel
theorem d_Mo_film_109 : decode b_Mo_film 109 = .ok (.iload 6, 2) := by decide +kernel
theorem d_Mo_film_111 : decode b_Mo_film 111 = .ok (.iastore, 1) := by decide +kernel
theorem d_Mo_film_112 : decode b_Mo_film 112 = .ok (.iinc 5 1, 3) := by decide +kernel
theorem d_Mo_film_115 : decode b_Mo_film 115 = .ok (.goto (-71), 3) := by decide +kernel
theorem d_Mo_film_118 : decode b_Mo_film 118 = .ok (.aload_n 0, 1) := by decide +kernel
theorem d_Mo_film_119 : decode b_Mo_film 119 = .ok (.getfield 169, 3) := by decide +kernel
theorem d_Mo_film_122 : decode b_Mo_film 122 = .ok (.ireturn, 1) := by decide +kernel
def B_Mo_film_59 (k44 : Int32 → Int32 → Sto → Option (Int32 × Sto)) (k59 : Int32 → Int32 → Int32 → Int32 → Sto → Option (Int32 × Sto)) (v1 : Int32) (v5 : Int32) (v6 : Int32) (v7 : Int32) (σ : Sto) : Option (Int32 × Sto) :=
  (if (gI σ 48 13) ≤ v7 then (if inb (((60 : Int32) * v1) + v5) 240 = true then (lt1 (sI σ 71 (Int32.toNatClampNeg (((60 : Int32) * v1) + v5)) v6) fun σ6 => k44 v1 (v5 + (1 : Int32)) σ6) else none)
 else (if inb v7 40 = true then ((f_Mo_has (gL σ 56 (Int32.toNatClampNeg v7)) v5 σ).bind fun q7 => (if (b2i q7.1) = 0 then k59 v1 v5 v6 (v7 + (1 : Int32)) q7.2
  else k59 v1 v5 v7 (v7 + (1 : Int32)) q7.2)) else none))
set_option maxHeartbeats 4000000 in
set_option maxRecDepth 100000 in
theorem vB_Mo_film_59 {X : Xt} {E : En} (g : GG X E 5 b_Mo_film R_Mo 8) {k44 : Int32 → Int32 → Sto → Option (Int32 × Sto)} {k59 : Int32 → Int32 → Int32 → Int32 → Sto → Option (Int32 × Sto)} (hk44 : ∀ (v1 : Int32) (v5 : Int32) (σ : Sto), VV X E b_Mo_film 8 eI 44 [(0, .ref (E.2.1 48)), (1, .int v1), (5, .int v5)] [] σ (k44 v1 v5 σ)) (hk59 : ∀ (v1 : Int32) (v5 : Int32) (v6 : Int32) (v7 : Int32) (σ : Sto), VV X E b_Mo_film 8 eI 59 [(0, .ref (E.2.1 48)), (1, .int v1), (5, .int v5), (6, .int v6), (7, .int v7)] [] σ (k59 v1 v5 v6 v7 σ)) (v1 : Int32) (v5 : Int32) (v6 : Int32) (v7 : Int32) (σ : Sto) : VV X E b_Mo_film 8 eI 59 [(0, .ref (E.2.1 48)), (1, .int v1), (5, .int v5), (6, .int v6), (7, .int v7)] [] σ (B_Mo_film_59 k44 k59 v1 v5 v6 v7 σ) := by
  unfold B_Mo_film_59
  refine v_iload 4 g d_Mo_film_59 rfl ?_
  refine v_aload_n 0 g d_Mo_film_61 rfl ?_
  refine v_getI g ff_Mo_169 rfl rfl d_Mo_film_62 ?_
  refine v_icmp_ge 98 g d_Mo_film_65 (by decide) (fun _ => ?_) (fun _ => ?_)
  · refine v_aload_n 0 g d_Mo_film_98 rfl ?_
    refine v_getR 71 g ff_Mo_77 rfl rfl rfl d_Mo_film_99 ?_
    refine v_bipush (v := (60 : Int32)) g d_Mo_film_102 (by decide +kernel) ?_
    refine v_iload_n 1 g d_Mo_film_104 rfl ?_
    refine v_imul g d_Mo_film_105 ?_
    refine v_iload 2 g d_Mo_film_106 rfl ?_
    refine v_iadd g d_Mo_film_108 ?_
    refine v_iload 3 g d_Mo_film_109 rfl ?_
    refine v_iast g rfl rfl d_Mo_film_111 (fun _ => ?_)
    refine v_nlet (fun σ6 eσ6 => ?_)
    rw [← eσ6]
    refine v_iinc 2 [(5, .int (v5 + (1 : Int32))), (0, .ref (E.2.1 48)), (1, .int v1), (6, .int v6), (7, .int v7)] g d_Mo_film_112 rfl (v := (1 : Int32)) (by decide +kernel) (by decide) rfl ?_
    refine v_goto 44 g d_Mo_film_115 (by decide) ?_
    exact v_sub [1,2,0] rfl (hk44 v1 (v5 + (1 : Int32)) σ6)
  · refine v_aload_n 0 g d_Mo_film_68 rfl ?_
    refine v_getR 56 g ff_Mo_32 rfl rfl rfl d_Mo_film_69 ?_
    refine v_iload 4 g d_Mo_film_72 rfl ?_
    refine v_lald g rfl rfl d_Mo_film_74 (fun _ => ?_)
    refine v_iload 2 g d_Mo_film_75 rfl ?_
    refine v_callB (r_S (rest := []) [.long (gL σ 56 (Int32.toNatClampNeg v7)), .int v5] g (m1 1206 (by decide +kernel) (by decide +kernel)) ys_Mo_has (fun r σ1 h => sp_Mo_has g.2.2.1  h) rfl rfl (by decide) (Nat.le_of_ble_eq_true rfl) d_Mo_film_77) (fun q7 => ?_)
    refine v_if_eq 88 g d_Mo_film_80 (by decide) (fun _ => ?_) (fun _ => ?_)
    · refine v_iload 3 g d_Mo_film_88 rfl ?_
      refine v_istore [(6, .int v6), (0, .ref (E.2.1 48)), (1, .int v1), (5, .int v5), (7, .int v7)] g d_Mo_film_90 (by decide) rfl ?_
      refine v_iinc 4 [(7, .int (v7 + (1 : Int32))), (6, .int v6), (0, .ref (E.2.1 48)), (1, .int v1), (5, .int v5)] g d_Mo_film_92 rfl (v := (1 : Int32)) (by decide +kernel) (by decide) rfl ?_
      refine v_goto 59 g d_Mo_film_95 (by decide) ?_
      exact v_sub [2,3,4,1,0] rfl (hk59 v1 v5 v6 (v7 + (1 : Int32)) q7.2)
    · refine v_iload 4 g d_Mo_film_83 rfl ?_
      refine v_goto 90 g d_Mo_film_85 (by decide) ?_
      refine v_istore [(6, .int v7), (0, .ref (E.2.1 48)), (1, .int v1), (5, .int v5), (7, .int v7)] g d_Mo_film_90 (by decide) rfl ?_
      refine v_iinc 4 [(7, .int (v7 + (1 : Int32))), (6, .int v7), (0, .ref (E.2.1 48)), (1, .int v1), (5, .int v5)] g d_Mo_film_92 rfl (v := (1 : Int32)) (by decide +kernel) (by decide) rfl ?_
      refine v_goto 59 g d_Mo_film_95 (by decide) ?_
      exact v_sub [2,3,4,1,0] rfl (hk59 v1 v5 v7 (v7 + (1 : Int32)) q7.2)
def L_Mo_film_59 (k44 : Int32 → Int32 → Sto → Option (Int32 × Sto)) : Nat → Int32 → Int32 → Int32 → Int32 → Sto → Option (Int32 × Sto)
  | 0, _, _, _, _, _ => none
  | fu + 1, v1, v5, v6, v7, σ => B_Mo_film_59 k44 (L_Mo_film_59 k44 fu) v1 v5 v6 v7 σ
theorem vL_Mo_film_59 {X : Xt} {E : En} (g : GG X E 5 b_Mo_film R_Mo 8) {k44 : Int32 → Int32 → Sto → Option (Int32 × Sto)} (hk44 : ∀ (v1 : Int32) (v5 : Int32) (σ : Sto), VV X E b_Mo_film 8 eI 44 [(0, .ref (E.2.1 48)), (1, .int v1), (5, .int v5)] [] σ (k44 v1 v5 σ)) (fu : Nat) : ∀ (v1 : Int32) (v5 : Int32) (v6 : Int32) (v7 : Int32) (σ : Sto), VV X E b_Mo_film 8 eI 59 [(0, .ref (E.2.1 48)), (1, .int v1), (5, .int v5), (6, .int v6), (7, .int v7)] [] σ (L_Mo_film_59 k44 fu v1 v5 v6 v7 σ) := by
  induction fu with
  | zero => intros; exact v_none
  | succ fu ih =>
    intro v1 v5 v6 v7 σ
    exact vB_Mo_film_59 g hk44 ih v1 v5 v6 v7 σ
def B_Mo_film_44 (k44 : Int32 → Int32 → Sto → Option (Int32 × Sto)) (v1 : Int32) (v5 : Int32) (σ : Sto) : Option (Int32 × Sto) :=
  (if (gI σ 48 0) ≤ v5 then some ((gI σ 48 13), σ)
 else L_Mo_film_59 k44 LF v1 v5 (-1 : Int32) (0 : Int32) σ)
set_option maxHeartbeats 4000000 in
set_option maxRecDepth 100000 in
theorem vB_Mo_film_44 {X : Xt} {E : En} (g : GG X E 5 b_Mo_film R_Mo 8) {k44 : Int32 → Int32 → Sto → Option (Int32 × Sto)} (hk44 : ∀ (v1 : Int32) (v5 : Int32) (σ : Sto), VV X E b_Mo_film 8 eI 44 [(0, .ref (E.2.1 48)), (1, .int v1), (5, .int v5)] [] σ (k44 v1 v5 σ)) (v1 : Int32) (v5 : Int32) (σ : Sto) : VV X E b_Mo_film 8 eI 44 [(0, .ref (E.2.1 48)), (1, .int v1), (5, .int v5)] [] σ (B_Mo_film_44 k44 v1 v5 σ) := by
  unfold B_Mo_film_44
  refine v_iload 2 g d_Mo_film_44 rfl ?_
  refine v_aload_n 0 g d_Mo_film_46 rfl ?_
  refine v_getI g ff_Mo_80 rfl rfl d_Mo_film_47 ?_
  refine v_icmp_ge 118 g d_Mo_film_50 (by decide) (fun _ => ?_) (fun _ => ?_)
  · refine v_aload_n 0 g d_Mo_film_118 rfl ?_
    refine v_getI g ff_Mo_169 rfl rfl d_Mo_film_119 ?_
    exact v_ret d_Mo_film_122 rfl
  · refine v_iconst (v := (-1 : Int32)) g d_Mo_film_53 (by decide +kernel) ?_
    refine v_istore [(6, .int (-1 : Int32)), (0, .ref (E.2.1 48)), (1, .int v1), (5, .int v5)] g d_Mo_film_54 (by decide) rfl ?_
    refine v_iconst (v := (0 : Int32)) g d_Mo_film_56 (by decide +kernel) ?_
    refine v_istore [(7, .int (0 : Int32)), (6, .int (-1 : Int32)), (0, .ref (E.2.1 48)), (1, .int v1), (5, .int v5)] g d_Mo_film_57 (by decide) rfl ?_
    exact v_sub [2,3,4,1,0] rfl (vL_Mo_film_59 g hk44 LF v1 v5 (-1 : Int32) (0 : Int32) σ)
def L_Mo_film_44 : Nat → Int32 → Int32 → Sto → Option (Int32 × Sto)
  | 0, _, _, _ => none
  | fu + 1, v1, v5, σ => B_Mo_film_44 (L_Mo_film_44 fu) v1 v5 σ
theorem vL_Mo_film_44 {X : Xt} {E : En} (g : GG X E 5 b_Mo_film R_Mo 8) (fu : Nat) : ∀ (v1 : Int32) (v5 : Int32) (σ : Sto), VV X E b_Mo_film 8 eI 44 [(0, .ref (E.2.1 48)), (1, .int v1), (5, .int v5)] [] σ (L_Mo_film_44 fu v1 v5 σ) := by
  induction fu with
  | zero => intros; exact v_none
  | succ fu ih =>
    intro v1 v5 σ
    exact vB_Mo_film_44 g ih v1 v5 σ
def B_Mo_film_0 (a1 : Int32) (a2 : Int32) (a3 : Int64) (σ : Sto) : Option (Int32 × Sto) :=
  ((f_Mo_isSheet a1 σ).bind fun q1 => (if (b2i q1.1) = 0 then some ((-2 : Int32), q1.2)
 else ((f_Mo_isOne a2 q1.2).bind fun q2 => (if (b2i q2.1) = 0 then some ((-2 : Int32), q2.2)
  else ((f_Mo_isSet a3 q2.2).bind fun q3 => (if (b2i q3.1) = 0 then some ((-2 : Int32), q3.2)
   else ((f_Mo_parts a2 a3 q3.2).bind fun q4 => ((f_Mo_becomesRow a1 (0 : Int32) (gI q4.2 48 0) q4.2).bind fun q5 => L_Mo_film_44 LF a1 (0 : Int32) q5.2))))))))
set_option maxHeartbeats 4000000 in
set_option maxRecDepth 100000 in
theorem vB_Mo_film_0 {X : Xt} {E : En} (g : GG X E 5 b_Mo_film R_Mo 8) (a1 : Int32) (a2 : Int32) (a3 : Int64) (σ : Sto) : VV X E b_Mo_film 8 eI 0 [(0, .ref (E.2.1 48)), (1, .int a1), (2, .int a2), (3, .long a3)] [] σ (B_Mo_film_0 a1 a2 a3 σ) := by
  unfold B_Mo_film_0
  refine v_iload_n 1 g d_Mo_film_0 rfl ?_
  refine v_callB (r_S (rest := []) [.int a1] g (m1 1401 (by decide +kernel) (by decide +kernel)) ys_Mo_isSheet (fun r σ1 h => sp_Mo_isSheet g.2.2.1  h) rfl rfl (by decide) (Nat.le_of_ble_eq_true rfl) d_Mo_film_1) (fun q1 => ?_)
  refine v_if_eq 22 g d_Mo_film_4 (by decide) (fun _ => ?_) (fun _ => ?_)
  · refine v_bipush (v := (-2 : Int32)) g d_Mo_film_22 (by decide +kernel) ?_
    exact v_ret d_Mo_film_24 rfl
  · refine v_iload_n 2 g d_Mo_film_7 rfl ?_
    refine v_callB (r_S (rest := []) [.int a2] g (m1 1203 (by decide +kernel) (by decide +kernel)) ys_Mo_isOne (fun r σ1 h => sp_Mo_isOne g.2.2.1  h) rfl rfl (by decide) (Nat.le_of_ble_eq_true rfl) d_Mo_film_8) (fun q2 => ?_)
    refine v_if_eq 22 g d_Mo_film_11 (by decide) (fun _ => ?_) (fun _ => ?_)
    · refine v_bipush (v := (-2 : Int32)) g d_Mo_film_22 (by decide +kernel) ?_
      exact v_ret d_Mo_film_24 rfl
    · refine v_aload_n 0 g d_Mo_film_14 rfl ?_
      refine v_lload_n 3 g d_Mo_film_15 rfl ?_
      refine v_callB (r_V (rest := []) [.long a3] g (m1 1221 (by decide +kernel) (by decide +kernel)) yv_Mo_isSet rfl (fun r σ1 h => sp_Mo_isSet g.2.2.1  h) rfl rfl (by decide) (Nat.le_of_ble_eq_true rfl) d_Mo_film_16) (fun q3 => ?_)
      refine v_if_ne 25 g d_Mo_film_19 (by decide) (fun _ => ?_) (fun _ => ?_)
      · refine v_aload_n 0 g d_Mo_film_25 rfl ?_
        refine v_iload_n 2 g d_Mo_film_26 rfl ?_
        refine v_lload_n 3 g d_Mo_film_27 rfl ?_
        refine v_callU (r_V (rest := []) [.int a2, .long a3] g (m1 1277 (by decide +kernel) (by decide +kernel)) yv_Mo_parts rfl (fun r σ1 h => sp_Mo_parts g.2.2.1  h) rfl rfl (by decide) (Nat.le_of_ble_eq_true rfl) d_Mo_film_28) (fun q4 => ?_)
        refine v_aload_n 0 g d_Mo_film_31 rfl ?_
        refine v_iload_n 1 g d_Mo_film_32 rfl ?_
        refine v_iconst (v := (0 : Int32)) g d_Mo_film_33 (by decide +kernel) ?_
        refine v_aload_n 0 g d_Mo_film_34 rfl ?_
        refine v_getI g ff_Mo_80 rfl rfl d_Mo_film_35 ?_
        refine v_callU (r_V (rest := []) [.int a1, .int (0 : Int32), .int (gI q4.2 48 0)] g (m1 1412 (by decide +kernel) (by decide +kernel)) yv_Mo_becomesRow rfl (fun r σ1 h => sp_Mo_becomesRow g.2.2.1  h) rfl rfl (by decide) (Nat.le_of_ble_eq_true rfl) d_Mo_film_38) (fun q5 => ?_)
        refine v_iconst (v := (0 : Int32)) g d_Mo_film_41 (by decide +kernel) ?_
        refine v_istore [(5, .int (0 : Int32)), (0, .ref (E.2.1 48)), (1, .int a1), (2, .int a2), (3, .long a3)] g d_Mo_film_42 (by decide) rfl ?_
        exact v_sub [1,2,0] rfl (vL_Mo_film_44 g LF a1 (0 : Int32) q5.2)
      · refine v_bipush (v := (-2 : Int32)) g d_Mo_film_22 (by decide +kernel) ?_
        exact v_ret d_Mo_film_24 rfl
def f_Mo_film (a1 : Int32) (a2 : Int32) (a3 : Int64) (σ : Sto) : Option (Int32 × Sto) := B_Mo_film_0 a1 a2 a3 σ
theorem sp_Mo_film {l : Launch} {E : En} (hE : Dj E) {a1 : Int32} {a2 : Int32} {a3 : Int64} {σ : Sto} {r : Int32} {σ' : Sto} (h : f_Mo_film a1 a2 a3 σ = some (r, σ')) : Ct l E y_Mo_film (wsM y_Mo_film b_Mo_film 8 (some .int)) 5 [.ref (E.2.1 48), .int a1, .int a2, .long a3] σ (eI r) σ' :=
  ct_of hE (by decide +kernel) (Nat.le_of_ble_eq_true rfl) (fun x => Or.inl ⟨rfl, x, rfl⟩) (fun X _ g => vB_Mo_film_0 g a1 a2 a3 σ) r σ' h
/-! method FittingRingsModel.everybody()J -/
theorem yv_Mo_everybody : YV y_Mo_everybody b_Mo_everybody 1 (some .long) 0 10 := ⟨m1 1434 (by decide +kernel) (by decide +kernel), m1 55 (by decide +kernel) (by decide +kernel), ini_Mo, m1 1435 (by decide +kernel) (by decide +kernel), ⟨by decide +kernel, by decide +kernel, by decide +kernel⟩, by decide, by decide, T_Mo, 39, rfl⟩
theorem d_Mo_everybody_0 : decode b_Mo_everybody 0 = .ok (.lconst 1, 1) := by decide +kernel
theorem d_Mo_everybody_1 : decode b_Mo_everybody 1 = .ok (.aload_n 0, 1) := by decide +kernel
theorem d_Mo_everybody_2 : decode b_Mo_everybody 2 = .ok (.getfield 80, 3) := by decide +kernel
theorem d_Mo_everybody_5 : decode b_Mo_everybody 5 = .ok (.lshl, 1) := by decide +kernel
theorem d_Mo_everybody_6 : decode b_Mo_everybody 6 = .ok (.lconst 1, 1) := by decide +kernel
theorem d_Mo_everybody_7 : decode b_Mo_everybody 7 = .ok (.lsub, 1) := by decide +kernel
theorem d_Mo_everybody_8 : decode b_Mo_everybody 8 = .ok (.lreturn, 1) := by decide +kernel
def B_Mo_everybody_0 (σ : Sto) : Option (Int64 × Sto) :=
  some (((lsh (1 : Int64) (gI σ 48 0)) - (1 : Int64)), σ)
set_option maxHeartbeats 4000000 in
set_option maxRecDepth 100000 in
theorem vB_Mo_everybody_0 {X : Xt} {E : En} (g : GG X E 1 b_Mo_everybody R_Mo 1) (σ : Sto) : VV X E b_Mo_everybody 1 eL 0 [(0, .ref (E.2.1 48))] [] σ (B_Mo_everybody_0 σ) := by
  unfold B_Mo_everybody_0
  refine v_lconst (v := (1 : Int64)) g d_Mo_everybody_0 (by decide +kernel) ?_
  refine v_aload_n 0 g d_Mo_everybody_1 rfl ?_
  refine v_getI g ff_Mo_80 rfl rfl d_Mo_everybody_2 ?_
  refine v_lshl g d_Mo_everybody_5 ?_
  refine v_lconst (v := (1 : Int64)) g d_Mo_everybody_6 (by decide +kernel) ?_
  refine v_lsub g d_Mo_everybody_7 ?_
  exact v_ret d_Mo_everybody_8 rfl
def f_Mo_everybody (σ : Sto) : Option (Int64 × Sto) := B_Mo_everybody_0 σ
theorem sp_Mo_everybody {l : Launch} {E : En} (hE : Dj E) {σ : Sto} {r : Int64} {σ' : Sto} (h : f_Mo_everybody σ = some (r, σ')) : Ct l E y_Mo_everybody (wsM y_Mo_everybody b_Mo_everybody 1 (some .long)) 1 [.ref (E.2.1 48)] σ (eL r) σ' :=
  ct_of hE (by decide +kernel) (Nat.le_of_ble_eq_true rfl) (fun x => Or.inr (Or.inr (Or.inl ⟨rfl, x, rfl⟩))) (fun X _ g => vB_Mo_everybody_0 g σ) r σ' h
/-! method FittingRingsModel.isTold(II)Z -/
theorem yv_Mo_isTold : YV y_Mo_isTold b_Mo_isTold 4 (some .boolean) 2 10 := ⟨m1 1430 (by decide +kernel) (by decide +kernel), m1 54 (by decide +kernel) (by decide +kernel), ini_Mo, m1 1431 (by decide +kernel) (by decide +kernel), ⟨by decide +kernel, by decide +kernel, by decide +kernel⟩, by decide, by decide, T_Mo, 39, rfl⟩
theorem d_Mo_isTold_0 : decode b_Mo_isTold 0 = .ok (.iconst 0, 1) := by decide +kernel
theorem d_Mo_isTold_1 : decode b_Mo_isTold 1 = .ok (.istore_n 3, 1) := by decide +kernel
theorem d_Mo_isTold_2 : decode b_Mo_isTold 2 = .ok (.iload_n 3, 1) := by decide +kernel
theorem d_Mo_isTold_3 : decode b_Mo_isTold 3 = .ok (.aload_n 0, 1) := by decide +kernel
theorem d_Mo_isTold_4 : decode b_Mo_isTold 4 = .ok (.getfield 80, 3) := by decide +kernel
theorem d_Mo_isTold_7 : decode b_Mo_isTold 7 = .ok (.if_icmp .ge 38, 3) := by decide +kernel
theorem d_Mo_isTold_10 : decode b_Mo_isTold 10 = .ok (.aload_n 0, 1) := by decide +kernel
theorem d_Mo_isTold_11 : decode b_Mo_isTold 11 = .ok (.getfield 77, 3) := by decide +kernel
theorem d_Mo_isTold_14 : decode b_Mo_isTold 14 = .ok (.bipush 60, 2) := by decide +kernel
theorem d_Mo_isTold_16 : decode b_Mo_isTold 16 = .ok (.iload_n 1, 1) := by decide +kernel
theorem d_Mo_isTold_17 : decode b_Mo_isTold 17 = .ok (.imul, 1) := by decide +kernel
theorem d_Mo_isTold_18 : decode b_Mo_isTold 18 = .ok (.iload_n 3, 1) := by decide +kernel
theorem d_Mo_isTold_19 : decode b_Mo_isTold 19 = .ok (.iadd, 1) := by decide +kernel
theorem d_Mo_isTold_20 : decode b_Mo_isTold 20 = .ok (.iaload, 1) := by decide +kernel
theorem d_Mo_isTold_21 : decode b_Mo_isTold 21 = .ok (.aload_n 0, 1) := by decide +kernel
theorem d_Mo_isTold_22 : decode b_Mo_isTold 22 = .ok (.iload_n 2, 1) := by decide +kernel
theorem d_Mo_isTold_23 : decode b_Mo_isTold 23 = .ok (.iload_n 3, 1) := by decide +kernel
theorem d_Mo_isTold_24 : decode b_Mo_isTold 24 = .ok (.aload_n 0, 1) := by decide +kernel
theorem d_Mo_isTold_25 : decode b_Mo_isTold 25 = .ok (.invokevirtual 266, 3) := by decide +kernel
theorem d_Mo_isTold_28 : decode b_Mo_isTold 28 = .ok (.invokevirtual 135, 3) := by decide +kernel
theorem d_Mo_isTold_31 : decode b_Mo_isTold 31 = .ok (.invokestatic 96, 3) := by decide +kernel
theorem d_Mo_isTold_34 : decode b_Mo_isTold 34 = .ok (.if_icmp .eq 5, 3) := by decide +kernel
theorem d_Mo_isTold_37 : decode b_Mo_isTold 37 = .ok (.iconst 0, 1) := by decide +kernel
theorem d_Mo_isTold_38 : decode b_Mo_isTold 38 = .ok (.ireturn, 1) := by decide +kernel
theorem d_Mo_isTold_39 : decode b_Mo_isTold 39 = .ok (.iinc 3 1, 3) := by decide +kernel
theorem d_Mo_isTold_42 : decode b_Mo_isTold 42 = .ok (.goto (-40), 3) := by decide +kernel
theorem d_Mo_isTold_45 : decode b_Mo_isTold 45 = .ok (.iconst 1, 1) := by decide +kernel
theorem d_Mo_isTold_46 : decode b_Mo_isTold 46 = .ok (.ireturn, 1) := by decide +kernel
def B_Mo_isTold_2 (k2 : Int32 → Int32 → Int32 → Sto → Option (Bool × Sto)) (v1 : Int32) (v2 : Int32) (v3 : Int32) (σ : Sto) : Option (Bool × Sto) :=
  (if (gI σ 48 0) ≤ v3 then some (true, σ)
 else (if inb (((60 : Int32) * v1) + v3) 240 = true then ((f_Mo_everybody  σ).bind fun q1 => ((f_Mo_fits v2 v3 q1.1 q1.2).bind fun q2 => ((f_Mo_many q2.1 q2.2).bind fun q3 => (if (gI σ 71 (Int32.toNatClampNeg (((60 : Int32) * v1) + v3))) = q3.1 then k2 v1 v2 (v3 + (1 : Int32)) q3.2
  else some (false, q3.2))))) else none))
set_option maxHeartbeats 4000000 in
set_option maxRecDepth 100000 in
theorem vB_Mo_isTold_2 {X : Xt} {E : En} (g : GG X E 3 b_Mo_isTold R_Mo 4) {k2 : Int32 → Int32 → Int32 → Sto → Option (Bool × Sto)} (hk2 : ∀ (v1 : Int32) (v2 : Int32) (v3 : Int32) (σ : Sto), VV X E b_Mo_isTold 4 eB 2 [(0, .ref (E.2.1 48)), (1, .int v1), (2, .int v2), (3, .int v3)] [] σ (k2 v1 v2 v3 σ)) (v1 : Int32) (v2 : Int32) (v3 : Int32) (σ : Sto) : VV X E b_Mo_isTold 4 eB 2 [(0, .ref (E.2.1 48)), (1, .int v1), (2, .int v2), (3, .int v3)] [] σ (B_Mo_isTold_2 k2 v1 v2 v3 σ) := by
  unfold B_Mo_isTold_2
  refine v_iload_n 3 g d_Mo_isTold_2 rfl ?_
  refine v_aload_n 0 g d_Mo_isTold_3 rfl ?_
  refine v_getI g ff_Mo_80 rfl rfl d_Mo_isTold_4 ?_
  refine v_icmp_ge 45 g d_Mo_isTold_7 (by decide) (fun _ => ?_) (fun _ => ?_)
  · refine v_iconst (v := (1 : Int32)) g d_Mo_isTold_45 (by decide +kernel) ?_
    exact v_ret d_Mo_isTold_46 rfl
  · refine v_aload_n 0 g d_Mo_isTold_10 rfl ?_
    refine v_getR 71 g ff_Mo_77 rfl rfl rfl d_Mo_isTold_11 ?_
    refine v_bipush (v := (60 : Int32)) g d_Mo_isTold_14 (by decide +kernel) ?_
    refine v_iload_n 1 g d_Mo_isTold_16 rfl ?_
    refine v_imul g d_Mo_isTold_17 ?_
    refine v_iload_n 3 g d_Mo_isTold_18 rfl ?_
    refine v_iadd g d_Mo_isTold_19 ?_
    refine v_iald g rfl rfl d_Mo_isTold_20 (fun _ => ?_)
    refine v_aload_n 0 g d_Mo_isTold_21 rfl ?_
    refine v_iload_n 2 g d_Mo_isTold_22 rfl ?_
    refine v_iload_n 3 g d_Mo_isTold_23 rfl ?_
    refine v_aload_n 0 g d_Mo_isTold_24 rfl ?_
    refine v_callL (r_V (rest := [.int v3, .int v2, .ref (E.2.1 48), .int (gI σ 71 (Int32.toNatClampNeg (((60 : Int32) * v1) + v3)))]) [] g (m1 1432 (by decide +kernel) (by decide +kernel)) yv_Mo_everybody rfl (fun r σ1 h => sp_Mo_everybody g.2.2.1  h) rfl rfl (by decide) (Nat.le_of_ble_eq_true rfl) d_Mo_isTold_25) (fun q1 => ?_)
    refine v_callL (r_V (rest := [.int (gI σ 71 (Int32.toNatClampNeg (((60 : Int32) * v1) + v3)))]) [.int v2, .int v3, .long q1.1] g (m1 1233 (by decide +kernel) (by decide +kernel)) yv_Mo_fits rfl (fun r σ1 h => sp_Mo_fits g.2.2.1  h) rfl rfl (by decide) (Nat.le_of_ble_eq_true rfl) d_Mo_isTold_28) (fun q2 => ?_)
    refine v_callI (r_S (rest := [.int (gI σ 71 (Int32.toNatClampNeg (((60 : Int32) * v1) + v3)))]) [.long q2.1] g (m1 1188 (by decide +kernel) (by decide +kernel)) ys_Mo_many (fun r σ1 h => sp_Mo_many g.2.2.1  h) rfl rfl (by decide) (Nat.le_of_ble_eq_true rfl) d_Mo_isTold_31) (fun q3 => ?_)
    refine v_icmp_eq 39 g d_Mo_isTold_34 (by decide) (fun _ => ?_) (fun _ => ?_)
    · refine v_iinc 3 [(3, .int (v3 + (1 : Int32))), (0, .ref (E.2.1 48)), (1, .int v1), (2, .int v2)] g d_Mo_isTold_39 rfl (v := (1 : Int32)) (by decide +kernel) (by decide) rfl ?_
      refine v_goto 2 g d_Mo_isTold_42 (by decide) ?_
      exact v_sub [1,2,3,0] rfl (hk2 v1 v2 (v3 + (1 : Int32)) q3.2)
    · refine v_iconst (v := (0 : Int32)) g d_Mo_isTold_37 (by decide +kernel) ?_
      exact v_ret d_Mo_isTold_38 rfl
def L_Mo_isTold_2 : Nat → Int32 → Int32 → Int32 → Sto → Option (Bool × Sto)
  | 0, _, _, _, _ => none
  | fu + 1, v1, v2, v3, σ => B_Mo_isTold_2 (L_Mo_isTold_2 fu) v1 v2 v3 σ
theorem vL_Mo_isTold_2 {X : Xt} {E : En} (g : GG X E 3 b_Mo_isTold R_Mo 4) (fu : Nat) : ∀ (v1 : Int32) (v2 : Int32) (v3 : Int32) (σ : Sto), VV X E b_Mo_isTold 4 eB 2 [(0, .ref (E.2.1 48)), (1, .int v1), (2, .int v2), (3, .int v3)] [] σ (L_Mo_isTold_2 fu v1 v2 v3 σ) := by
  induction fu with
  | zero => intros; exact v_none
  | succ fu ih =>
    intro v1 v2 v3 σ
    exact vB_Mo_isTold_2 g ih v1 v2 v3 σ
def B_Mo_isTold_0 (a1 : Int32) (a2 : Int32) (σ : Sto) : Option (Bool × Sto) :=
  L_Mo_isTold_2 LF a1 a2 (0 : Int32) σ
set_option maxHeartbeats 4000000 in
set_option maxRecDepth 100000 in
theorem vB_Mo_isTold_0 {X : Xt} {E : En} (g : GG X E 3 b_Mo_isTold R_Mo 4) (a1 : Int32) (a2 : Int32) (σ : Sto) : VV X E b_Mo_isTold 4 eB 0 [(0, .ref (E.2.1 48)), (1, .int a1), (2, .int a2)] [] σ (B_Mo_isTold_0 a1 a2 σ) := by
  unfold B_Mo_isTold_0
  refine v_iconst (v := (0 : Int32)) g d_Mo_isTold_0 (by decide +kernel) ?_
  refine v_istore_n [(3, .int (0 : Int32)), (0, .ref (E.2.1 48)), (1, .int a1), (2, .int a2)] g d_Mo_isTold_1 (by decide) rfl ?_
  exact v_sub [1,2,3,0] rfl (vL_Mo_isTold_2 g LF a1 a2 (0 : Int32) σ)
def f_Mo_isTold (a1 : Int32) (a2 : Int32) (σ : Sto) : Option (Bool × Sto) := B_Mo_isTold_0 a1 a2 σ
theorem sp_Mo_isTold {l : Launch} {E : En} (hE : Dj E) {a1 : Int32} {a2 : Int32} {σ : Sto} {r : Bool} {σ' : Sto} (h : f_Mo_isTold a1 a2 σ = some (r, σ')) : Ct l E y_Mo_isTold (wsM y_Mo_isTold b_Mo_isTold 4 (some .boolean)) 3 [.ref (E.2.1 48), .int a1, .int a2] σ (eB r) σ' :=
  ct_of hE (by decide +kernel) (Nat.le_of_ble_eq_true rfl) (fun b => Or.inr (Or.inl ⟨rfl, b, rfl⟩)) (fun X _ g => vB_Mo_isTold_0 g a1 a2 σ) r σ' h
/-! method FittingRingsModel.slip(II)I -/
theorem yv_Mo_slip : YV y_Mo_slip b_Mo_slip 6 (some .int) 2 10 := ⟨m1 1425 (by decide +kernel) (by decide +kernel), m1 1426 (by decide +kernel) (by decide +kernel), ini_Mo, m1 1427 (by decide +kernel) (by decide +kernel), ⟨by decide +kernel, by decide +kernel, by decide +kernel⟩, by decide, by decide, T_Mo, 39, rfl⟩
theorem d_Mo_slip_0 : decode b_Mo_slip 0 = .ok (.iload_n 1, 1) := by decide +kernel
theorem d_Mo_slip_1 : decode b_Mo_slip 1 = .ok (.invokestatic 259, 3) := by decide +kernel
theorem d_Mo_slip_4 : decode b_Mo_slip 4 = .ok (.ifCond .eq 10, 3) := by decide +kernel
theorem d_Mo_slip_7 : decode b_Mo_slip 7 = .ok (.iload_n 2, 1) := by decide +kernel
theorem d_Mo_slip_8 : decode b_Mo_slip 8 = .ok (.invokestatic 116, 3) := by decide +kernel
theorem d_Mo_slip_11 : decode b_Mo_slip 11 = .ok (.ifCond .ne 6, 3) := by decide +kernel
theorem d_Mo_slip_14 : decode b_Mo_slip 14 = .ok (.bipush (-2), 2) := by decide +kernel
theorem d_Mo_slip_16 : decode b_Mo_slip 16 = .ok (.ireturn, 1) := by decide +kernel
theorem d_Mo_slip_17 : decode b_Mo_slip 17 = .ok (.aload_n 0, 1) := by decide +kernel
theorem d_Mo_slip_18 : decode b_Mo_slip 18 = .ok (.getfield 71, 3) := by decide +kernel
theorem d_Mo_slip_21 : decode b_Mo_slip 21 = .ok (.iload_n 1, 1) := by decide +kernel
theorem d_Mo_slip_22 : decode b_Mo_slip 22 = .ok (.iaload, 1) := by decide +kernel
theorem d_Mo_slip_23 : decode b_Mo_slip 23 = .ok (.ifCond .ge 6, 3) := by decide +kernel
theorem d_Mo_slip_26 : decode b_Mo_slip 26 = .ok (.bipush (-11), 2) := by decide +kernel
theorem d_Mo_slip_28 : decode b_Mo_slip 28 = .ok (.ireturn, 1) := by decide +kernel
theorem d_Mo_slip_29 : decode b_Mo_slip 29 = .ok (.aload_n 0, 1) := by decide +kernel
theorem d_Mo_slip_30 : decode b_Mo_slip 30 = .ok (.getfield 74, 3) := by decide +kernel
theorem d_Mo_slip_33 : decode b_Mo_slip 33 = .ok (.iload_n 1, 1) := by decide +kernel
theorem d_Mo_slip_34 : decode b_Mo_slip 34 = .ok (.iaload, 1) := by decide +kernel
theorem d_Mo_slip_35 : decode b_Mo_slip 35 = .ok (.aload_n 0, 1) := by decide +kernel
theorem d_Mo_slip_36 : decode b_Mo_slip 36 = .ok (.getfield 80, 3) := by decide +kernel
theorem d_Mo_slip_39 : decode b_Mo_slip 39 = .ok (.if_icmp .ge 6, 3) := by decide +kernel
theorem d_Mo_slip_42 : decode b_Mo_slip 42 = .ok (.bipush (-12), 2) := by decide +kernel
theorem d_Mo_slip_44 : decode b_Mo_slip 44 = .ok (.ireturn, 1) := by decide +kernel
theorem d_Mo_slip_45 : decode b_Mo_slip 45 = .ok (.aload_n 0, 1) := by decide +kernel
theorem d_Mo_slip_46 : decode b_Mo_slip 46 = .ok (.iload_n 1, 1) := by decide +kernel
theorem d_Mo_slip_47 : decode b_Mo_slip 47 = .ok (.iload_n 2, 1) := by decide +kernel
theorem d_Mo_slip_48 : decode b_Mo_slip 48 = .ok (.invokevirtual 270, 3) := by decide +kernel
theorem d_Mo_slip_51 : decode b_Mo_slip 51 = .ok (.ifCond .eq 5, 3) := by decide +kernel
theorem d_Mo_slip_54 : decode b_Mo_slip 54 = .ok (.iconst (-1), 1) := by decide +kernel
theorem d_Mo_slip_55 : decode b_Mo_slip 55 = .ok (.ireturn, 1) := by decide +kernel
theorem d_Mo_slip_56 : decode b_Mo_slip 56 = .ok (.iconst 0, 1) := by decide +kernel
theorem d_Mo_slip_57 : decode b_Mo_slip 57 = .ok (.istore_n 3, 1) := by decide +kernel
theorem d_Mo_slip_58 : decode b_Mo_slip 58 = .ok (.iload_n 3, 1) := by decide +kernel
theorem d_Mo_slip_59 : decode b_Mo_slip 59 = .ok (.aload_n 0, 1) := by decide +kernel
theorem d_Mo_slip_60 : decode b_Mo_slip 60 = .ok (.getfield 80, 3) := by decide +kernel
theorem d_Mo_slip_63 : decode b_Mo_slip 63 = .ok (.if_icmp .ge 64, 3) := by decide +kernel
theorem d_Mo_slip_66 : decode b_Mo_slip 66 = .ok (.iload_n 3, 1) := by decide +kernel
theorem d_Mo_slip_67 : decode b_Mo_slip 67 = .ok (.iconst 1, 1) := by decide +kernel
theorem d_Mo_slip_68 : decode b_Mo_slip 68 = .ok (.iadd, 1) := by decide +kernel
theorem d_Mo_slip_69 : decode b_Mo_slip 69 = .ok (.istore 4, 2) := by decide +kernel
theorem d_Mo_slip_71 : decode b_Mo_slip 71 = .ok (.iload 4, 2) := by decide +kernel
theorem d_Mo_slip_73 : decode b_Mo_slip 73 = .ok (.aload_n 0, 1) := by decide +kernel
theorem d_Mo_slip_74 : decode b_Mo_slip 74 = .ok (.getfield 80, 3) := by decide +kernel
theorem d_Mo_slip_77 : decode b_Mo_slip 77 = .ok (.if_icmp .ge 44, 3) := by decide +kernel
theorem d_Mo_slip_80 : decode b_Mo_slip 80 = .ok (.aload_n 0, 1) := by decide +kernel
theorem d_Mo_slip_81 : decode b_Mo_slip 81 = .ok (.iload_n 3, 1) := by decide +kernel
theorem d_Mo_slip_82 : decode b_Mo_slip 82 = .ok (.iload 4, 2) := by decide +kernel
theorem d_Mo_slip_84 : decode b_Mo_slip 84 = .ok (.invokevirtual 131, 3) := by decide +kernel
theorem d_Mo_slip_87 : decode b_Mo_slip 87 = .ok (.aload_n 0, 1) := by decide +kernel
theorem d_Mo_slip_88 : decode b_Mo_slip 88 = .ok (.iload_n 1, 1) := by decide +kernel
theorem d_Mo_slip_89 : decode b_Mo_slip 89 = .ok (.iload_n 2, 1) := by decide +kernel
theorem d_Mo_slip_90 : decode b_Mo_slip 90 = .ok (.invokevirtual 270, 3) := by decide +kernel
theorem d_Mo_slip_93 : decode b_Mo_slip 93 = .ok (.istore 5, 2) := by decide +kernel
theorem d_Mo_slip_95 : decode b_Mo_slip 95 = .ok (.aload_n 0, 1) := by decide +kernel
theorem d_Mo_slip_96 : decode b_Mo_slip 96 = .ok (.iload_n 3, 1) := by decide +kernel
theorem d_Mo_slip_97 : decode b_Mo_slip 97 = .ok (.iload 4, 2) := by decide +kernel
theorem d_Mo_slip_99 : decode b_Mo_slip 99 = .ok (.invokevirtual 131, 3) := by decide +kernel
theorem d_Mo_slip_102 : decode b_Mo_slip 102 = .ok (.iload 5, 2) := by decide +kernel
theorem d_Mo_slip_104 : decode b_Mo_slip 104 = .ok (.ifCond .eq 11, 3) := by decide +kernel
theorem d_Mo_slip_107 : decode b_Mo_slip 107 = .ok (.bipush 40, 2) := by decide +kernel
theorem d_Mo_slip_109 : decode b_Mo_slip 109 = .ok (.iload_n 3, 1) := by decide +kernel
theorem d_Mo_slip_110 : decode b_Mo_slip 110 = .ok (.imul, 1) := by decide +kernel
theorem d_Mo_slip_111 : decode b_Mo_slip 111 = .ok (.iload 4, 2) := by decide +kernel
theorem d_Mo_slip_113 : decode b_Mo_slip 113 = .ok (.iadd, 1) := by decide +kernel
theorem d_Mo_slip_114 : decode b_Mo_slip 114 = .ok (.ireturn, 1) := by decide +kernel
theorem d_Mo_slip_115 : decode b_Mo_slip 115 = .ok (.iinc 4 1, 3) := by decide +kernel
theorem d_Mo_slip_118 : decode b_Mo_slip 118 = .ok (.goto (-47), 3) := by decide +kernel
theorem d_Mo_slip_121 : decode b_Mo_slip 121 = .ok (.iinc 3 1, 3) := by decide +kernel
theorem d_Mo_slip_124 : decode b_Mo_slip 124 = .ok (.goto (-66), 3) := by decide +kernel
theorem d_Mo_slip_127 : decode b_Mo_slip 127 = .ok (.bipush (-3), 2) := by decide +kernel
theorem d_Mo_slip_129 : decode b_Mo_slip 129 = .ok (.ireturn, 1) := by decide +kernel
def B_Mo_slip_71 (k58 : Int32 → Int32 → Int32 → Sto → Option (Int32 × Sto)) (k71 : Int32 → Int32 → Int32 → Int32 → Sto → Option (Int32 × Sto)) (v1 : Int32) (v2 : Int32) (v3 : Int32) (v4 : Int32) (σ : Sto) : Option (Int32 × Sto) :=
  (if (gI σ 48 0) ≤ v4 then k58 v1 v2 (v3 + (1 : Int32)) σ
 else ((f_Mo_flips v3 v4 σ).bind fun q4 => ((f_Mo_isTold v1 v2 q4.2).bind fun q5 => ((f_Mo_flips v3 v4 q5.2).bind fun q6 => (if (b2i q5.1) = 0 then k71 v1 v2 v3 (v4 + (1 : Int32)) q6.2
  else some ((((40 : Int32) * v3) + v4), q6.2))))))
set_option maxHeartbeats 4000000 in
set_option maxRecDepth 100000 in
theorem vB_Mo_slip_71 {X : Xt} {E : En} (g : GG X E 4 b_Mo_slip R_Mo 6) {k58 : Int32 → Int32 → Int32 → Sto → Option (Int32 × Sto)} {k71 : Int32 → Int32 → Int32 → Int32 → Sto → Option (Int32 × Sto)} (hk58 : ∀ (v1 : Int32) (v2 : Int32) (v3 : Int32) (σ : Sto), VV X E b_Mo_slip 6 eI 58 [(0, .ref (E.2.1 48)), (1, .int v1), (2, .int v2), (3, .int v3)] [] σ (k58 v1 v2 v3 σ)) (hk71 : ∀ (v1 : Int32) (v2 : Int32) (v3 : Int32) (v4 : Int32) (σ : Sto), VV X E b_Mo_slip 6 eI 71 [(0, .ref (E.2.1 48)), (1, .int v1), (2, .int v2), (3, .int v3), (4, .int v4)] [] σ (k71 v1 v2 v3 v4 σ)) (v1 : Int32) (v2 : Int32) (v3 : Int32) (v4 : Int32) (σ : Sto) : VV X E b_Mo_slip 6 eI 71 [(0, .ref (E.2.1 48)), (1, .int v1), (2, .int v2), (3, .int v3), (4, .int v4)] [] σ (B_Mo_slip_71 k58 k71 v1 v2 v3 v4 σ) := by
  unfold B_Mo_slip_71
  refine v_iload 4 g d_Mo_slip_71 rfl ?_
  refine v_aload_n 0 g d_Mo_slip_73 rfl ?_
  refine v_getI g ff_Mo_80 rfl rfl d_Mo_slip_74 ?_
  refine v_icmp_ge 121 g d_Mo_slip_77 (by decide) (fun _ => ?_) (fun _ => ?_)
  · refine v_iinc 3 [(3, .int (v3 + (1 : Int32))), (0, .ref (E.2.1 48)), (1, .int v1), (2, .int v2), (4, .int v4)] g d_Mo_slip_121 rfl (v := (1 : Int32)) (by decide +kernel) (by decide) rfl ?_
    refine v_goto 58 g d_Mo_slip_124 (by decide) ?_
    exact v_sub [1,2,3,0] rfl (hk58 v1 v2 (v3 + (1 : Int32)) σ)
  · refine v_aload_n 0 g d_Mo_slip_80 rfl ?_
    refine v_iload_n 3 g d_Mo_slip_81 rfl ?_
    refine v_iload 4 g d_Mo_slip_82 rfl ?_
    refine v_callU (r_V (rest := []) [.int v3, .int v4] g (m1 1225 (by decide +kernel) (by decide +kernel)) yv_Mo_flips rfl (fun r σ1 h => sp_Mo_flips g.2.2.1  h) rfl rfl (by decide) (Nat.le_of_ble_eq_true rfl) d_Mo_slip_84) (fun q4 => ?_)
    refine v_aload_n 0 g d_Mo_slip_87 rfl ?_
    refine v_iload_n 1 g d_Mo_slip_88 rfl ?_
    refine v_iload_n 2 g d_Mo_slip_89 rfl ?_
    refine v_callB (r_V (rest := []) [.int v1, .int v2] g (m1 1428 (by decide +kernel) (by decide +kernel)) yv_Mo_isTold rfl (fun r σ1 h => sp_Mo_isTold g.2.2.1  h) rfl rfl (by decide) (Nat.le_of_ble_eq_true rfl) d_Mo_slip_90) (fun q5 => ?_)
    refine v_istore [(5, .int (b2i q5.1)), (0, .ref (E.2.1 48)), (1, .int v1), (2, .int v2), (3, .int v3), (4, .int v4)] g d_Mo_slip_93 (by decide) rfl ?_
    refine v_aload_n 1 g d_Mo_slip_95 rfl ?_
    refine v_iload_n 4 g d_Mo_slip_96 rfl ?_
    refine v_iload 5 g d_Mo_slip_97 rfl ?_
    refine v_callU (r_V (rest := []) [.int v3, .int v4] g (m1 1225 (by decide +kernel) (by decide +kernel)) yv_Mo_flips rfl (fun r σ1 h => sp_Mo_flips g.2.2.1  h) rfl rfl (by decide) (Nat.le_of_ble_eq_true rfl) d_Mo_slip_99) (fun q6 => ?_)
    refine v_iload 0 g d_Mo_slip_102 rfl ?_
    refine v_if_eq 115 g d_Mo_slip_104 (by decide) (fun _ => ?_) (fun _ => ?_)
    · refine v_iinc 5 [(4, .int (v4 + (1 : Int32))), (5, .int (b2i q5.1)), (0, .ref (E.2.1 48)), (1, .int v1), (2, .int v2), (3, .int v3)] g d_Mo_slip_115 rfl (v := (1 : Int32)) (by decide +kernel) (by decide) rfl ?_
      refine v_goto 71 g d_Mo_slip_118 (by decide) ?_
      exact v_sub [2,3,4,5,0] rfl (hk71 v1 v2 v3 (v4 + (1 : Int32)) q6.2)
    · refine v_bipush (v := (40 : Int32)) g d_Mo_slip_107 (by decide +kernel) ?_
      refine v_iload_n 4 g d_Mo_slip_109 rfl ?_
      refine v_imul g d_Mo_slip_110 ?_
      refine v_iload 5 g d_Mo_slip_111 rfl ?_
      refine v_iadd g d_Mo_slip_113 ?_
      exact v_ret d_Mo_slip_114 rfl
def L_Mo_slip_71 (k58 : Int32 → Int32 → Int32 → Sto → Option (Int32 × Sto)) : Nat → Int32 → Int32 → Int32 → Int32 → Sto → Option (Int32 × Sto)
  | 0, _, _, _, _, _ => none
  | fu + 1, v1, v2, v3, v4, σ => B_Mo_slip_71 k58 (L_Mo_slip_71 k58 fu) v1 v2 v3 v4 σ
theorem vL_Mo_slip_71 {X : Xt} {E : En} (g : GG X E 4 b_Mo_slip R_Mo 6) {k58 : Int32 → Int32 → Int32 → Sto → Option (Int32 × Sto)} (hk58 : ∀ (v1 : Int32) (v2 : Int32) (v3 : Int32) (σ : Sto), VV X E b_Mo_slip 6 eI 58 [(0, .ref (E.2.1 48)), (1, .int v1), (2, .int v2), (3, .int v3)] [] σ (k58 v1 v2 v3 σ)) (fu : Nat) : ∀ (v1 : Int32) (v2 : Int32) (v3 : Int32) (v4 : Int32) (σ : Sto), VV X E b_Mo_slip 6 eI 71 [(0, .ref (E.2.1 48)), (1, .int v1), (2, .int v2), (3, .int v3), (4, .int v4)] [] σ (L_Mo_slip_71 k58 fu v1 v2 v3 v4 σ) := by
  induction fu with
  | zero => intros; exact v_none
  | succ fu ih =>
    intro v1 v2 v3 v4 σ
    exact vB_Mo_slip_71 g hk58 ih v1 v2 v3 v4 σ
def B_Mo_slip_58 (k58 : Int32 → Int32 → Int32 → Sto → Option (Int32 × Sto)) (v1 : Int32) (v2 : Int32) (v3 : Int32) (σ : Sto) : Option (Int32 × Sto) :=
  (if (gI σ 48 0) ≤ v3 then some ((-3 : Int32), σ)
 else L_Mo_slip_71 k58 LF v1 v2 v3 (v3 + (1 : Int32)) σ)
set_option maxHeartbeats 4000000 in
set_option maxRecDepth 100000 in
theorem vB_Mo_slip_58 {X : Xt} {E : En} (g : GG X E 4 b_Mo_slip R_Mo 6) {k58 : Int32 → Int32 → Int32 → Sto → Option (Int32 × Sto)} (hk58 : ∀ (v1 : Int32) (v2 : Int32) (v3 : Int32) (σ : Sto), VV X E b_Mo_slip 6 eI 58 [(0, .ref (E.2.1 48)), (1, .int v1), (2, .int v2), (3, .int v3)] [] σ (k58 v1 v2 v3 σ)) (v1 : Int32) (v2 : Int32) (v3 : Int32) (σ : Sto) : VV X E b_Mo_slip 6 eI 58 [(0, .ref (E.2.1 48)), (1, .int v1), (2, .int v2), (3, .int v3)] [] σ (B_Mo_slip_58 k58 v1 v2 v3 σ) := by
  unfold B_Mo_slip_58
  refine v_iload_n 3 g d_Mo_slip_58 rfl ?_
  refine v_aload_n 0 g d_Mo_slip_59 rfl ?_
  refine v_getI g ff_Mo_80 rfl rfl d_Mo_slip_60 ?_
  refine v_icmp_ge 127 g d_Mo_slip_63 (by decide) (fun _ => ?_) (fun _ => ?_)
  · refine v_bipush (v := (-3 : Int32)) g d_Mo_slip_127 (by decide +kernel) ?_
    exact v_ret d_Mo_slip_129 rfl
  · refine v_iload_n 3 g d_Mo_slip_66 rfl ?_
    refine v_iconst (v := (1 : Int32)) g d_Mo_slip_67 (by decide +kernel) ?_
    refine v_iadd g d_Mo_slip_68 ?_
    refine v_istore [(4, .int (v3 + (1 : Int32))), (0, .ref (E.2.1 48)), (1, .int v1), (2, .int v2), (3, .int v3)] g d_Mo_slip_69 (by decide) rfl ?_
    exact v_sub [1,2,3,4,0] rfl (vL_Mo_slip_71 g hk58 LF v1 v2 v3 (v3 + (1 : Int32)) σ)
def L_Mo_slip_58 : Nat → Int32 → Int32 → Int32 → Sto → Option (Int32 × Sto)
  | 0, _, _, _, _ => none
  | fu + 1, v1, v2, v3, σ => B_Mo_slip_58 (L_Mo_slip_58 fu) v1 v2 v3 σ
theorem vL_Mo_slip_58 {X : Xt} {E : En} (g : GG X E 4 b_Mo_slip R_Mo 6) (fu : Nat) : ∀ (v1 : Int32) (v2 : Int32) (v3 : Int32) (σ : Sto), VV X E b_Mo_slip 6 eI 58 [(0, .ref (E.2.1 48)), (1, .int v1), (2, .int v2), (3, .int v3)] [] σ (L_Mo_slip_58 fu v1 v2 v3 σ) := by
  induction fu with
  | zero => intros; exact v_none
  | succ fu ih =>
    intro v1 v2 v3 σ
    exact vB_Mo_slip_58 g ih v1 v2 v3 σ
def B_Mo_slip_0 (a1 : Int32) (a2 : Int32) (σ : Sto) : Option (Int32 × Sto) :=
  ((f_Mo_isSheet a1 σ).bind fun q1 => (if (b2i q1.1) = 0 then some ((-2 : Int32), q1.2)
 else ((f_Mo_isOne a2 q1.2).bind fun q2 => (if (b2i q2.1) = 0 then some ((-2 : Int32), q2.2)
  else (if inb a1 4 = true then (if 0 ≤ (gI q2.2 69 (Int32.toNatClampNeg a1)) then (if inb a1 4 = true then (if (gI q2.2 48 0) ≤ (gI q2.2 70 (Int32.toNatClampNeg a1)) then ((f_Mo_isTold a1 a2 q2.2).bind fun q3 => (if (b2i q3.1) = 0 then L_Mo_slip_58 LF a1 a2 (0 : Int32) q3.2
     else some ((-1 : Int32), q3.2)))
    else some ((-12 : Int32), q2.2)) else none)
   else some ((-11 : Int32), q2.2)) else none)))))
set_option maxHeartbeats 4000000 in
set_option maxRecDepth 100000 in
theorem vB_Mo_slip_0 {X : Xt} {E : En} (g : GG X E 4 b_Mo_slip R_Mo 6) (a1 : Int32) (a2 : Int32) (σ : Sto) : VV X E b_Mo_slip 6 eI 0 [(0, .ref (E.2.1 48)), (1, .int a1), (2, .int a2)] [] σ (B_Mo_slip_0 a1 a2 σ) := by
  unfold B_Mo_slip_0
  refine v_iload_n 1 g d_Mo_slip_0 rfl ?_
  refine v_callB (r_S (rest := []) [.int a1] g (m1 1401 (by decide +kernel) (by decide +kernel)) ys_Mo_isSheet (fun r σ1 h => sp_Mo_isSheet g.2.2.1  h) rfl rfl (by decide) (Nat.le_of_ble_eq_true rfl) d_Mo_slip_1) (fun q1 => ?_)
  refine v_if_eq 14 g d_Mo_slip_4 (by decide) (fun _ => ?_) (fun _ => ?_)
  · refine v_bipush (v := (-2 : Int32)) g d_Mo_slip_14 (by decide +kernel) ?_
    exact v_ret d_Mo_slip_16 rfl
  · refine v_iload_n 2 g d_Mo_slip_7 rfl ?_
    refine v_callB (r_S (rest := []) [.int a2] g (m1 1203 (by decide +kernel) (by decide +kernel)) ys_Mo_isOne (fun r σ1 h => sp_Mo_isOne g.2.2.1  h) rfl rfl (by decide) (Nat.le_of_ble_eq_true rfl) d_Mo_slip_8) (fun q2 => ?_)
    refine v_if_ne 17 g d_Mo_slip_11 (by decide) (fun _ => ?_) (fun _ => ?_)
    · refine v_aload_n 0 g d_Mo_slip_17 rfl ?_
      refine v_getR 69 g ff_Mo_71 rfl rfl rfl d_Mo_slip_18 ?_
      refine v_iload_n 1 g d_Mo_slip_21 rfl ?_
      refine v_iald g rfl rfl d_Mo_slip_22 (fun _ => ?_)
      refine v_if_ge 29 g d_Mo_slip_23 (by decide) (fun _ => ?_) (fun _ => ?_)
      · refine v_aload_n 0 g d_Mo_slip_29 rfl ?_
        refine v_getR 70 g ff_Mo_74 rfl rfl rfl d_Mo_slip_30 ?_
        refine v_iload_n 1 g d_Mo_slip_33 rfl ?_
        refine v_iald g rfl rfl d_Mo_slip_34 (fun _ => ?_)
        refine v_aload_n 0 g d_Mo_slip_35 rfl ?_
        refine v_getI g ff_Mo_80 rfl rfl d_Mo_slip_36 ?_
        refine v_icmp_ge 45 g d_Mo_slip_39 (by decide) (fun _ => ?_) (fun _ => ?_)
        · refine v_aload_n 0 g d_Mo_slip_45 rfl ?_
          refine v_iload_n 1 g d_Mo_slip_46 rfl ?_
          refine v_iload_n 2 g d_Mo_slip_47 rfl ?_
          refine v_callB (r_V (rest := []) [.int a1, .int a2] g (m1 1428 (by decide +kernel) (by decide +kernel)) yv_Mo_isTold rfl (fun r σ1 h => sp_Mo_isTold g.2.2.1  h) rfl rfl (by decide) (Nat.le_of_ble_eq_true rfl) d_Mo_slip_48) (fun q3 => ?_)
          refine v_if_eq 56 g d_Mo_slip_51 (by decide) (fun _ => ?_) (fun _ => ?_)
          · refine v_iconst (v := (0 : Int32)) g d_Mo_slip_56 (by decide +kernel) ?_
            refine v_istore_n [(3, .int (0 : Int32)), (0, .ref (E.2.1 48)), (1, .int a1), (2, .int a2)] g d_Mo_slip_57 (by decide) rfl ?_
            exact v_sub [1,2,3,0] rfl (vL_Mo_slip_58 g LF a1 a2 (0 : Int32) q3.2)
          · refine v_iconst (v := (-1 : Int32)) g d_Mo_slip_54 (by decide +kernel) ?_
            exact v_ret d_Mo_slip_55 rfl
        · refine v_bipush (v := (-12 : Int32)) g d_Mo_slip_42 (by decide +kernel) ?_
          exact v_ret d_Mo_slip_44 rfl
      · refine v_bipush (v := (-11 : Int32)) g d_Mo_slip_26 (by decide +kernel) ?_
        exact v_ret d_Mo_slip_28 rfl
    · refine v_bipush (v := (-2 : Int32)) g d_Mo_slip_14 (by decide +kernel) ?_
      exact v_ret d_Mo_slip_16 rfl
def f_Mo_slip (a1 : Int32) (a2 : Int32) (σ : Sto) : Option (Int32 × Sto) := B_Mo_slip_0 a1 a2 σ
theorem sp_Mo_slip {l : Launch} {E : En} (hE : Dj E) {a1 : Int32} {a2 : Int32} {σ : Sto} {r : Int32} {σ' : Sto} (h : f_Mo_slip a1 a2 σ = some (r, σ')) : Ct l E y_Mo_slip (wsM y_Mo_slip b_Mo_slip 6 (some .int)) 4 [.ref (E.2.1 48), .int a1, .int a2] σ (eI r) σ' :=
  ct_of hE (by decide +kernel) (Nat.le_of_ble_eq_true rfl) (fun x => Or.inl ⟨rfl, x, rfl⟩) (fun X _ g => vB_Mo_slip_0 g a1 a2 σ) r σ' h
/-! method FittingRingsModel.feed(IJ)I -/
theorem yv_Mo_feed : YV y_Mo_feed b_Mo_feed 5 (some .int) 2 10 := ⟨m1 1437 (by decide +kernel) (by decide +kernel), m1 1438 (by decide +kernel) (by decide +kernel), ini_Mo, m1 1439 (by decide +kernel) (by decide +kernel), ⟨by decide +kernel, by decide +kernel, by decide +kernel⟩, by decide, by decide, T_Mo, 39, rfl⟩
theorem d_Mo_feed_0 : decode b_Mo_feed 0 = .ok (.iload_n 1, 1) := by decide +kernel
theorem d_Mo_feed_1 : decode b_Mo_feed 1 = .ok (.i2l, 1) := by decide +kernel
theorem d_Mo_feed_2 : decode b_Mo_feed 2 = .ok (.lconst 1, 1) := by decide +kernel
theorem d_Mo_feed_3 : decode b_Mo_feed 3 = .ok (.ldc2_w 274, 3) := by decide +kernel
theorem d_Mo_feed_6 : decode b_Mo_feed 6 = .ok (.invokestatic 84, 3) := by decide +kernel
theorem d_Mo_feed_9 : decode b_Mo_feed 9 = .ok (.ifCond .ne 6, 3) := by decide +kernel
theorem d_Mo_feed_12 : decode b_Mo_feed 12 = .ok (.bipush (-2), 2) := by decide +kernel
theorem d_Mo_feed_14 : decode b_Mo_feed 14 = .ok (.ireturn, 1) := by decide +kernel
theorem d_Mo_feed_15 : decode b_Mo_feed 15 = .ok (.aload_n 0, 1) := by decide +kernel
theorem d_Mo_feed_16 : decode b_Mo_feed 16 = .ok (.getfield 276, 3) := by decide +kernel
theorem d_Mo_feed_19 : decode b_Mo_feed 19 = .ok (.iload_n 1, 1) := by decide +kernel
theorem d_Mo_feed_20 : decode b_Mo_feed 20 = .ok (.iadd, 1) := by decide +kernel
theorem d_Mo_feed_21 : decode b_Mo_feed 21 = .ok (.sipush 160, 3) := by decide +kernel
theorem d_Mo_feed_24 : decode b_Mo_feed 24 = .ok (.if_icmp .le 6, 3) := by decide +kernel
theorem d_Mo_feed_27 : decode b_Mo_feed 27 = .ok (.bipush (-4), 2) := by decide +kernel
theorem d_Mo_feed_29 : decode b_Mo_feed 29 = .ok (.ireturn, 1) := by decide +kernel
theorem d_Mo_feed_30 : decode b_Mo_feed 30 = .ok (.iconst 0, 1) := by decide +kernel
theorem d_Mo_feed_31 : decode b_Mo_feed 31 = .ok (.istore 4, 2) := by decide +kernel
theorem d_Mo_feed_33 : decode b_Mo_feed 33 = .ok (.iload 4, 2) := by decide +kernel
theorem d_Mo_feed_35 : decode b_Mo_feed 35 = .ok (.iload_n 1, 1) := by decide +kernel
theorem d_Mo_feed_36 : decode b_Mo_feed 36 = .ok (.if_icmp .ge 43, 3) := by decide +kernel
theorem d_Mo_feed_39 : decode b_Mo_feed 39 = .ok (.aload_n 0, 1) := by decide +kernel
theorem d_Mo_feed_40 : decode b_Mo_feed 40 = .ok (.getfield 50, 3) := by decide +kernel
theorem d_Mo_feed_43 : decode b_Mo_feed 43 = .ok (.aload_n 0, 1) := by decide +kernel
theorem d_Mo_feed_44 : decode b_Mo_feed 44 = .ok (.getfield 276, 3) := by decide +kernel
theorem d_Mo_feed_47 : decode b_Mo_feed 47 = .ok (.lload_n 2, 1) := by decide +kernel
theorem d_Mo_feed_48 : decode b_Mo_feed 48 = .ok (.bipush 56, 2) := by decide +kernel
theorem d_Mo_feed_50 : decode b_Mo_feed 50 = .ok (.bipush 8, 2) := by decide +kernel
theorem d_Mo_feed_52 : decode b_Mo_feed 52 = .ok (.iload 4, 2) := by decide +kernel
theorem d_Mo_feed_54 : decode b_Mo_feed 54 = .ok (.imul, 1) := by decide +kernel
theorem d_Mo_feed_55 : decode b_Mo_feed 55 = .ok (.isub, 1) := by decide +kernel
theorem d_Mo_feed_56 : decode b_Mo_feed 56 = .ok (.lushr, 1) := by decide +kernel
theorem d_Mo_feed_57 : decode b_Mo_feed 57 = .ok (.ldc2_w 279, 3) := by decide +kernel
theorem d_Mo_feed_60 : decode b_Mo_feed 60 = .ok (.land, 1) := by decide +kernel
theorem d_Mo_feed_61 : decode b_Mo_feed 61 = .ok (.l2i, 1) := by decide +kernel
theorem d_Mo_feed_62 : decode b_Mo_feed 62 = .ok (.iastore, 1) := by decide +kernel
theorem d_Mo_feed_63 : decode b_Mo_feed 63 = .ok (.aload_n 0, 1) := by decide +kernel
theorem d_Mo_feed_64 : decode b_Mo_feed 64 = .ok (.dup, 1) := by decide +kernel
theorem d_Mo_feed_65 : decode b_Mo_feed 65 = .ok (.getfield 276, 3) := by decide +kernel
theorem d_Mo_feed_68 : decode b_Mo_feed 68 = .ok (.iconst 1, 1) := by decide +kernel
theorem d_Mo_feed_69 : decode b_Mo_feed 69 = .ok (.iadd, 1) := by decide +kernel
theorem d_Mo_feed_70 : decode b_Mo_feed 70 = .ok (.putfield 276, 3) := by decide +kernel
theorem d_Mo_feed_73 : decode b_Mo_feed 73 = .ok (.iinc 4 1, 3) := by decide +kernel
theorem d_Mo_feed_76 : decode b_Mo_feed 76 = .ok (.goto (-43), 3) := by decide +kernel
theorem d_Mo_feed_79 : decode b_Mo_feed 79 = .ok (.aload_n 0, 1) := by decide +kernel
theorem d_Mo_feed_80 : decode b_Mo_feed 80 = .ok (.getfield 276, 3) := by decide +kernel
theorem d_Mo_feed_83 : decode b_Mo_feed 83 = .ok (.ireturn, 1) := by decide +kernel
def B_Mo_feed_33 (k33 : Int32 → Int64 → Int32 → Sto → Option (Int32 × Sto)) (v1 : Int32) (v2 : Int64) (v4 : Int32) (σ : Sto) : Option (Int32 × Sto) :=
  (if v1 ≤ v4 then some ((gI σ 48 24), σ)
 else (if inb (gI σ 48 24) 160 = true then (lt1 (sI σ 62 (Int32.toNatClampNeg (gI σ 48 24)) (Int64.toInt32 ((lur v2 ((56 : Int32) - ((8 : Int32) * v4))) &&& (255 : Int64)))) fun σ2 => k33 v1 v2 (v4 + (1 : Int32)) (sI σ2 48 24 ((gI σ2 48 24) + (1 : Int32)))) else none))
set_option maxHeartbeats 4000000 in
set_option maxRecDepth 100000 in
theorem vB_Mo_feed_33 {X : Xt} {E : En} (g : GG X E 2 b_Mo_feed R_Mo 5) {k33 : Int32 → Int64 → Int32 → Sto → Option (Int32 × Sto)} (hk33 : ∀ (v1 : Int32) (v2 : Int64) (v4 : Int32) (σ : Sto), VV X E b_Mo_feed 5 eI 33 [(0, .ref (E.2.1 48)), (1, .int v1), (2, .long v2), (4, .int v4)] [] σ (k33 v1 v2 v4 σ)) (v1 : Int32) (v2 : Int64) (v4 : Int32) (σ : Sto) : VV X E b_Mo_feed 5 eI 33 [(0, .ref (E.2.1 48)), (1, .int v1), (2, .long v2), (4, .int v4)] [] σ (B_Mo_feed_33 k33 v1 v2 v4 σ) := by
  unfold B_Mo_feed_33
  refine v_iload 3 g d_Mo_feed_33 rfl ?_
  refine v_iload_n 1 g d_Mo_feed_35 rfl ?_
  refine v_icmp_ge 79 g d_Mo_feed_36 (by decide) (fun _ => ?_) (fun _ => ?_)
  · refine v_aload_n 0 g d_Mo_feed_79 rfl ?_
    refine v_getI g ff_Mo_276 rfl rfl d_Mo_feed_80 ?_
    exact v_ret d_Mo_feed_83 rfl
  · refine v_aload_n 0 g d_Mo_feed_39 rfl ?_
    refine v_getR 62 g ff_Mo_50 rfl rfl rfl d_Mo_feed_40 ?_
    refine v_aload_n 0 g d_Mo_feed_43 rfl ?_
    refine v_getI g ff_Mo_276 rfl rfl d_Mo_feed_44 ?_
    refine v_lload_n 2 g d_Mo_feed_47 rfl ?_
    refine v_bipush (v := (56 : Int32)) g d_Mo_feed_48 (by decide +kernel) ?_
    refine v_bipush (v := (8 : Int32)) g d_Mo_feed_50 (by decide +kernel) ?_
    refine v_iload 3 g d_Mo_feed_52 rfl ?_
    refine v_imul g d_Mo_feed_54 ?_
    refine v_isub g d_Mo_feed_55 ?_
    refine v_lushr g d_Mo_feed_56 ?_
    refine v_ldc2 (v := (255 : Int64)) g (m1 1441 (by decide +kernel) (by decide +kernel)) d_Mo_feed_57 ?_
    refine v_land g d_Mo_feed_60 ?_
    refine v_l2i g d_Mo_feed_61 ?_
    refine v_iast g rfl rfl d_Mo_feed_62 (fun _ => ?_)
    refine v_nlet (fun σ2 eσ2 => ?_)
    rw [← eσ2]
    refine v_aload_n 0 g d_Mo_feed_63 rfl ?_
    refine v_dup g d_Mo_feed_64 rfl ?_
    refine v_getI g ff_Mo_276 rfl rfl d_Mo_feed_65 ?_
    refine v_iconst (v := (1 : Int32)) g d_Mo_feed_68 (by decide +kernel) ?_
    refine v_iadd g d_Mo_feed_69 ?_
    refine v_putI g fp_Mo_276 rfl rfl d_Mo_feed_70 ?_
    refine v_iinc 3 [(4, .int (v4 + (1 : Int32))), (0, .ref (E.2.1 48)), (1, .int v1), (2, .long v2)] g d_Mo_feed_73 rfl (v := (1 : Int32)) (by decide +kernel) (by decide) rfl ?_
    refine v_goto 33 g d_Mo_feed_76 (by decide) ?_
    exact v_sub [1,2,3,0] rfl (hk33 v1 v2 (v4 + (1 : Int32)) (sI σ2 48 24 ((gI σ2 48 24) + (1 : Int32))))
def L_Mo_feed_33 : Nat → Int32 → Int64 → Int32 → Sto → Option (Int32 × Sto)
  | 0, _, _, _, _ => none
  | fu + 1, v1, v2, v4, σ => B_Mo_feed_33 (L_Mo_feed_33 fu) v1 v2 v4 σ
theorem vL_Mo_feed_33 {X : Xt} {E : En} (g : GG X E 2 b_Mo_feed R_Mo 5) (fu : Nat) : ∀ (v1 : Int32) (v2 : Int64) (v4 : Int32) (σ : Sto), VV X E b_Mo_feed 5 eI 33 [(0, .ref (E.2.1 48)), (1, .int v1), (2, .long v2), (4, .int v4)] [] σ (L_Mo_feed_33 fu v1 v2 v4 σ) := by
  induction fu with
  | zero => intros; exact v_none
  | succ fu ih =>
    intro v1 v2 v4 σ
    exact vB_Mo_feed_33 g ih v1 v2 v4 σ
def B_Mo_feed_0 (a1 : Int32) (a2 : Int64) (σ : Sto) : Option (Int32 × Sto) :=
  ((f_Mo_in (Int32.toInt64 a1) (1 : Int64) (8 : Int64) σ).bind fun q1 => (if (b2i q1.1) = 0 then some ((-2 : Int32), q1.2)
 else (if ((gI q1.2 48 24) + a1) ≤ (160 : Int32) then L_Mo_feed_33 LF a1 a2 (0 : Int32) q1.2
  else some ((-4 : Int32), q1.2))))
set_option maxHeartbeats 4000000 in
set_option maxRecDepth 100000 in
theorem vB_Mo_feed_0 {X : Xt} {E : En} (g : GG X E 2 b_Mo_feed R_Mo 5) (a1 : Int32) (a2 : Int64) (σ : Sto) : VV X E b_Mo_feed 5 eI 0 [(0, .ref (E.2.1 48)), (1, .int a1), (2, .long a2)] [] σ (B_Mo_feed_0 a1 a2 σ) := by
  unfold B_Mo_feed_0
  refine v_iload_n 1 g d_Mo_feed_0 rfl ?_
  refine v_i2l g d_Mo_feed_1 ?_
  refine v_lconst (v := (1 : Int64)) g d_Mo_feed_2 (by decide +kernel) ?_
  refine v_ldc2 (v := (8 : Int64)) g (m1 1440 (by decide +kernel) (by decide +kernel)) d_Mo_feed_3 ?_
  refine v_callB (r_S (rest := []) [.long (Int32.toInt64 a1), .long (1 : Int64), .long (8 : Int64)] g (m1 1167 (by decide +kernel) (by decide +kernel)) ys_Mo_in (fun r σ1 h => sp_Mo_in g.2.2.1  h) rfl rfl (by decide) (Nat.le_of_ble_eq_true rfl) d_Mo_feed_6) (fun q1 => ?_)
  refine v_if_ne 15 g d_Mo_feed_9 (by decide) (fun _ => ?_) (fun _ => ?_)
  · refine v_aload_n 0 g d_Mo_feed_15 rfl ?_
    refine v_getI g ff_Mo_276 rfl rfl d_Mo_feed_16 ?_
    refine v_iload_n 1 g d_Mo_feed_19 rfl ?_
    refine v_iadd g d_Mo_feed_20 ?_
    refine v_sipush (v := (160 : Int32)) g d_Mo_feed_21 (by decide +kernel) ?_
    refine v_icmp_le 30 g d_Mo_feed_24 (by decide) (fun _ => ?_) (fun _ => ?_)
    · refine v_iconst (v := (0 : Int32)) g d_Mo_feed_30 (by decide +kernel) ?_
      refine v_istore [(4, .int (0 : Int32)), (0, .ref (E.2.1 48)), (1, .int a1), (2, .long a2)] g d_Mo_feed_31 (by decide) rfl ?_
      exact v_sub [1,2,3,0] rfl (vL_Mo_feed_33 g LF a1 a2 (0 : Int32) q1.2)
    · refine v_bipush (v := (-4 : Int32)) g d_Mo_feed_27 (by decide +kernel) ?_
      exact v_ret d_Mo_feed_29 rfl
  · refine v_bipush (v := (-2 : Int32)) g d_Mo_feed_12 (by decide +kernel) ?_
    exact v_ret d_Mo_feed_14 rfl
def f_Mo_feed (a1 : Int32) (a2 : Int64) (σ : Sto) : Option (Int32 × Sto) := B_Mo_feed_0 a1 a2 σ
theorem sp_Mo_feed {l : Launch} {E : En} (hE : Dj E) {a1 : Int32} {a2 : Int64} {σ : Sto} {r : Int32} {σ' : Sto} (h : f_Mo_feed a1 a2 σ = some (r, σ')) : Ct l E y_Mo_feed (wsM y_Mo_feed b_Mo_feed 5 (some .int)) 2 [.ref (E.2.1 48), .int a1, .long a2] σ (eI r) σ' :=
  ct_of hE (by decide +kernel) (Nat.le_of_ble_eq_true rfl) (fun x => Or.inl ⟨rfl, x, rfl⟩) (fun X _ g => vB_Mo_feed_0 g a1 a2 σ) r σ' h
/-! method FittingRingsModel.isAt(III)Z -/
theorem yv_Mo_isAt : YV y_Mo_isAt b_Mo_isAt 4 (some .boolean) 3 10 := ⟨m1 1459 (by decide +kernel) (by decide +kernel), m1 58 (by decide +kernel) (by decide +kernel), ini_Mo, m1 1460 (by decide +kernel) (by decide +kernel), ⟨by decide +kernel, by decide +kernel, by decide +kernel⟩, by decide, by decide, T_Mo, 39, rfl⟩
theorem d_Mo_isAt_0 : decode b_Mo_isAt 0 = .ok (.iload_n 1, 1) := by decide +kernel
theorem d_Mo_isAt_1 : decode b_Mo_isAt 1 = .ok (.aload_n 0, 1) := by decide +kernel
theorem d_Mo_isAt_2 : decode b_Mo_isAt 2 = .ok (.getfield 276, 3) := by decide +kernel
theorem d_Mo_isAt_5 : decode b_Mo_isAt 5 = .ok (.if_icmp .ge 24, 3) := by decide +kernel
theorem d_Mo_isAt_8 : decode b_Mo_isAt 8 = .ok (.aload_n 0, 1) := by decide +kernel
theorem d_Mo_isAt_9 : decode b_Mo_isAt 9 = .ok (.getfield 50, 3) := by decide +kernel
theorem d_Mo_isAt_12 : decode b_Mo_isAt 12 = .ok (.iload_n 1, 1) := by decide +kernel
theorem d_Mo_isAt_13 : decode b_Mo_isAt 13 = .ok (.iaload, 1) := by decide +kernel
theorem d_Mo_isAt_14 : decode b_Mo_isAt 14 = .ok (.i2l, 1) := by decide +kernel
theorem d_Mo_isAt_15 : decode b_Mo_isAt 15 = .ok (.iload_n 2, 1) := by decide +kernel
theorem d_Mo_isAt_16 : decode b_Mo_isAt 16 = .ok (.i2l, 1) := by decide +kernel
theorem d_Mo_isAt_17 : decode b_Mo_isAt 17 = .ok (.iload_n 3, 1) := by decide +kernel
theorem d_Mo_isAt_18 : decode b_Mo_isAt 18 = .ok (.i2l, 1) := by decide +kernel
theorem d_Mo_isAt_19 : decode b_Mo_isAt 19 = .ok (.invokestatic 84, 3) := by decide +kernel
theorem d_Mo_isAt_22 : decode b_Mo_isAt 22 = .ok (.ifCond .eq 7, 3) := by decide +kernel
theorem d_Mo_isAt_25 : decode b_Mo_isAt 25 = .ok (.iconst 1, 1) := by decide +kernel
theorem d_Mo_isAt_26 : decode b_Mo_isAt 26 = .ok (.goto 4, 3) := by decide +kernel
theorem d_Mo_isAt_29 : decode b_Mo_isAt 29 = .ok (.iconst 0, 1) := by decide +kernel
theorem d_Mo_isAt_30 : decode b_Mo_isAt 30 = .ok (.ireturn, 1) := by decide +kernel
def B_Mo_isAt_0 (a1 : Int32) (a2 : Int32) (a3 : Int32) (σ : Sto) : Option (Bool × Sto) :=
  (if (gI σ 48 24) ≤ a1 then some (false, σ)
 else (if inb a1 160 = true then ((f_Mo_in (Int32.toInt64 (gI σ 62 (Int32.toNatClampNeg a1))) (Int32.toInt64 a2) (Int32.toInt64 a3) σ).bind fun q1 => (if (b2i q1.1) = 0 then some (false, q1.2)
  else some (true, q1.2))) else none))
set_option maxHeartbeats 4000000 in
set_option maxRecDepth 100000 in
theorem vB_Mo_isAt_0 {X : Xt} {E : En} (g : GG X E 2 b_Mo_isAt R_Mo 4) (a1 : Int32) (a2 : Int32) (a3 : Int32) (σ : Sto) : VV X E b_Mo_isAt 4 eB 0 [(0, .ref (E.2.1 48)), (1, .int a1), (2, .int a2), (3, .int a3)] [] σ (B_Mo_isAt_0 a1 a2 a3 σ) := by
  unfold B_Mo_isAt_0
  refine v_iload_n 1 g d_Mo_isAt_0 rfl ?_
  refine v_aload_n 0 g d_Mo_isAt_1 rfl ?_
  refine v_getI g ff_Mo_276 rfl rfl d_Mo_isAt_2 ?_
  refine v_icmp_ge 29 g d_Mo_isAt_5 (by decide) (fun _ => ?_) (fun _ => ?_)
  · refine v_iconst (v := (0 : Int32)) g d_Mo_isAt_29 (by decide +kernel) ?_
    exact v_ret d_Mo_isAt_30 rfl
  · refine v_aload_n 0 g d_Mo_isAt_8 rfl ?_
    refine v_getR 62 g ff_Mo_50 rfl rfl rfl d_Mo_isAt_9 ?_
    refine v_iload_n 1 g d_Mo_isAt_12 rfl ?_
    refine v_iald g rfl rfl d_Mo_isAt_13 (fun _ => ?_)
    refine v_i2l g d_Mo_isAt_14 ?_
    refine v_iload_n 2 g d_Mo_isAt_15 rfl ?_
    refine v_i2l g d_Mo_isAt_16 ?_
    refine v_iload_n 3 g d_Mo_isAt_17 rfl ?_
    refine v_i2l g d_Mo_isAt_18 ?_
    refine v_callB (r_S (rest := []) [.long (Int32.toInt64 (gI σ 62 (Int32.toNatClampNeg a1))), .long (Int32.toInt64 a2), .long (Int32.toInt64 a3)] g (m1 1167 (by decide +kernel) (by decide +kernel)) ys_Mo_in (fun r σ1 h => sp_Mo_in g.2.2.1  h) rfl rfl (by decide) (Nat.le_of_ble_eq_true rfl) d_Mo_isAt_19) (fun q1 => ?_)
    refine v_if_eq 29 g d_Mo_isAt_22 (by decide) (fun _ => ?_) (fun _ => ?_)
    · refine v_iconst (v := (0 : Int32)) g d_Mo_isAt_29 (by decide +kernel) ?_
      exact v_ret d_Mo_isAt_30 rfl
    · refine v_iconst (v := (1 : Int32)) g d_Mo_isAt_25 (by decide +kernel) ?_
      refine v_goto 30 g d_Mo_isAt_26 (by decide) ?_
      exact v_ret d_Mo_isAt_30 rfl
def f_Mo_isAt (a1 : Int32) (a2 : Int32) (a3 : Int32) (σ : Sto) : Option (Bool × Sto) := B_Mo_isAt_0 a1 a2 a3 σ
theorem sp_Mo_isAt {l : Launch} {E : En} (hE : Dj E) {a1 : Int32} {a2 : Int32} {a3 : Int32} {σ : Sto} {r : Bool} {σ' : Sto} (h : f_Mo_isAt a1 a2 a3 σ = some (r, σ')) : Ct l E y_Mo_isAt (wsM y_Mo_isAt b_Mo_isAt 4 (some .boolean)) 2 [.ref (E.2.1 48), .int a1, .int a2, .int a3] σ (eB r) σ' :=
  ct_of hE (by decide +kernel) (Nat.le_of_ble_eq_true rfl) (fun b => Or.inr (Or.inl ⟨rfl, b, rfl⟩)) (fun X _ g => vB_Mo_isAt_0 g a1 a2 a3 σ) r σ' h
/-! method FittingRingsModel.next()V -/
theorem yv_Mo_next : YV y_Mo_next b_Mo_next 1 (none) 0 10 := ⟨m1 1455 (by decide +kernel) (by decide +kernel), m1 57 (by decide +kernel) (by decide +kernel), ini_Mo, m1 1456 (by decide +kernel) (by decide +kernel), ⟨by decide +kernel, by decide +kernel, by decide +kernel⟩, by decide, by decide, T_Mo, 39, rfl⟩
theorem d_Mo_next_0 : decode b_Mo_next 0 = .ok (.aload_n 0, 1) := by decide +kernel
theorem d_Mo_next_1 : decode b_Mo_next 1 = .ok (.aload_n 0, 1) := by decide +kernel
theorem d_Mo_next_2 : decode b_Mo_next 2 = .ok (.getfield 281, 3) := by decide +kernel
theorem d_Mo_next_5 : decode b_Mo_next 5 = .ok (.putfield 284, 3) := by decide +kernel
theorem d_Mo_next_8 : decode b_Mo_next 8 = .ok (.aload_n 0, 1) := by decide +kernel
theorem d_Mo_next_9 : decode b_Mo_next 9 = .ok (.aload_n 0, 1) := by decide +kernel
theorem d_Mo_next_10 : decode b_Mo_next 10 = .ok (.getfield 284, 3) := by decide +kernel
theorem d_Mo_next_13 : decode b_Mo_next 13 = .ok (.bipush 32, 2) := by decide +kernel
theorem d_Mo_next_15 : decode b_Mo_next 15 = .ok (.bipush 32, 2) := by decide +kernel
theorem d_Mo_next_17 : decode b_Mo_next 17 = .ok (.invokevirtual 287, 3) := by decide +kernel
theorem d_Mo_next_20 : decode b_Mo_next 20 = .ok (.ifCond .eq 16, 3) := by decide +kernel
theorem d_Mo_next_23 : decode b_Mo_next 23 = .ok (.aload_n 0, 1) := by decide +kernel
theorem d_Mo_next_24 : decode b_Mo_next 24 = .ok (.dup, 1) := by decide +kernel
theorem d_Mo_next_25 : decode b_Mo_next 25 = .ok (.getfield 284, 3) := by decide +kernel
theorem d_Mo_next_28 : decode b_Mo_next 28 = .ok (.iconst 1, 1) := by decide +kernel
theorem d_Mo_next_29 : decode b_Mo_next 29 = .ok (.iadd, 1) := by decide +kernel
theorem d_Mo_next_30 : decode b_Mo_next 30 = .ok (.putfield 284, 3) := by decide +kernel
theorem d_Mo_next_33 : decode b_Mo_next 33 = .ok (.goto (-25), 3) := by decide +kernel
theorem d_Mo_next_36 : decode b_Mo_next 36 = .ok (.aload_n 0, 1) := by decide +kernel
theorem d_Mo_next_37 : decode b_Mo_next 37 = .ok (.aload_n 0, 1) := by decide +kernel
theorem d_Mo_next_38 : decode b_Mo_next 38 = .ok (.getfield 284, 3) := by decide +kernel
theorem d_Mo_next_41 : decode b_Mo_next 41 = .ok (.putfield 281, 3) := by decide +kernel
theorem d_Mo_next_44 : decode b_Mo_next 44 = .ok (.aload_n 0, 1) := by decide +kernel
theorem d_Mo_next_45 : decode b_Mo_next 45 = .ok (.aload_n 0, 1) := by decide +kernel
theorem d_Mo_next_46 : decode b_Mo_next 46 = .ok (.getfield 284, 3) := by decide +kernel
theorem d_Mo_next_49 : decode b_Mo_next 49 = .ok (.aload_n 0, 1) := by decide +kernel
theorem d_Mo_next_50 : decode b_Mo_next 50 = .ok (.getfield 276, 3) := by decide +kernel
theorem d_Mo_next_53 : decode b_Mo_next 53 = .ok (.if_icmp .ne 7, 3) := by decide +kernel
theorem d_Mo_next_56 : decode b_Mo_next 56 = .ok (.iconst 0, 1) := by decide +kernel
theorem d_Mo_next_57 : decode b_Mo_next 57 = .ok (.goto 61, 3) := by decide +kernel
theorem d_Mo_next_60 : decode b_Mo_next 60 = .ok (.aload_n 0, 1) := by decide +kernel
theorem d_Mo_next_61 : decode b_Mo_next 61 = .ok (.aload_n 0, 1) := by decide +kernel
theorem d_Mo_next_62 : decode b_Mo_next 62 = .ok (.getfield 284, 3) := by decide +kernel
theorem d_Mo_next_65 : decode b_Mo_next 65 = .ok (.bipush 97, 2) := by decide +kernel
theorem d_Mo_next_67 : decode b_Mo_next 67 = .ok (.bipush 122, 2) := by decide +kernel
theorem d_Mo_next_69 : decode b_Mo_next 69 = .ok (.invokevirtual 287, 3) := by decide +kernel
theorem d_Mo_next_72 : decode b_Mo_next 72 = .ok (.ifCond .eq 7, 3) := by decide +kernel
theorem d_Mo_next_75 : decode b_Mo_next 75 = .ok (.iconst 1, 1) := by decide +kernel
theorem d_Mo_next_76 : decode b_Mo_next 76 = .ok (.goto 42, 3) := by decide +kernel
theorem d_Mo_next_79 : decode b_Mo_next 79 = .ok (.aload_n 0, 1) := by decide +kernel
theorem d_Mo_next_80 : decode b_Mo_next 80 = .ok (.aload_n 0, 1) := by decide +kernel
theorem d_Mo_next_81 : decode b_Mo_next 81 = .ok (.getfield 284, 3) := by decide +kernel
theorem d_Mo_next_84 : decode b_Mo_next 84 = .ok (.bipush 48, 2) := by decide +kernel
theorem d_Mo_next_86 : decode b_Mo_next 86 = .ok (.bipush 57, 2) := by decide +kernel
theorem d_Mo_next_88 : decode b_Mo_next 88 = .ok (.invokevirtual 287, 3) := by decide +kernel
theorem d_Mo_next_91 : decode b_Mo_next 91 = .ok (.ifCond .eq 7, 3) := by decide +kernel
theorem d_Mo_next_94 : decode b_Mo_next 94 = .ok (.iconst 2, 1) := by decide +kernel
theorem d_Mo_next_95 : decode b_Mo_next 95 = .ok (.goto 23, 3) := by decide +kernel
theorem d_Mo_next_98 : decode b_Mo_next 98 = .ok (.aload_n 0, 1) := by decide +kernel
theorem d_Mo_next_99 : decode b_Mo_next 99 = .ok (.aload_n 0, 1) := by decide +kernel
theorem d_Mo_next_100 : decode b_Mo_next 100 = .ok (.getfield 284, 3) := by decide +kernel
theorem d_Mo_next_103 : decode b_Mo_next 103 = .ok (.bipush 59, 2) := by decide +kernel
theorem d_Mo_next_105 : decode b_Mo_next 105 = .ok (.bipush 59, 2) := by decide +kernel
theorem d_Mo_next_107 : decode b_Mo_next 107 = .ok (.invokevirtual 287, 3) := by decide +kernel
theorem d_Mo_next_110 : decode b_Mo_next 110 = .ok (.ifCond .eq 7, 3) := by decide +kernel
theorem d_Mo_next_113 : decode b_Mo_next 113 = .ok (.iconst 3, 1) := by decide +kernel
theorem d_Mo_next_114 : decode b_Mo_next 114 = .ok (.goto 4, 3) := by decide +kernel
theorem d_Mo_next_117 : decode b_Mo_next 117 = .ok (.iconst 4, 1) := by decide +kernel
theorem d_Mo_next_118 : decode b_Mo_next 118 = .ok (.putfield 290, 3) := by decide +kernel
theorem d_Mo_next_121 : decode b_Mo_next 121 = .ok (.aload_n 0, 1) := by decide +kernel
theorem d_Mo_next_122 : decode b_Mo_next 122 = .ok (.iconst 0, 1) := by decide +kernel
theorem d_Mo_next_123 : decode b_Mo_next 123 = .ok (.putfield 293, 3) := by decide +kernel
theorem d_Mo_next_126 : decode b_Mo_next 126 = .ok (.aload_n 0, 1) := by decide +kernel
theorem d_Mo_next_127 : decode b_Mo_next 127 = .ok (.getfield 290, 3) := by decide +kernel
theorem d_Mo_next_130 : decode b_Mo_next 130 = .ok (.iconst 2, 1) := by decide +kernel
theorem d_Mo_next_131 : decode b_Mo_next 131 = .ok (.if_icmp .le 13, 3) := by decide +kernel
theorem d_Mo_next_134 : decode b_Mo_next 134 = .ok (.aload_n 0, 1) := by decide +kernel
theorem d_Mo_next_135 : decode b_Mo_next 135 = .ok (.dup, 1) := by decide +kernel
theorem d_Mo_next_136 : decode b_Mo_next 136 = .ok (.getfield 281, 3) := by decide +kernel
theorem d_Mo_next_139 : decode b_Mo_next 139 = .ok (.iconst 1, 1) := by decide +kernel
theorem d_Mo_next_140 : decode b_Mo_next 140 = .ok (.iadd, 1) := by decide +kernel
theorem d_Mo_next_141 : decode b_Mo_next 141 = .ok (.putfield 281, 3) := by decide +kernel
theorem d_Mo_next_144 : decode b_Mo_next 144 = .ok (.aload_n 0, 1) := by decide +kernel
theorem d_Mo_next_145 : decode b_Mo_next 145 = .ok (.getfield 290, 3) := by decide +kernel
theorem d_Mo_next_148 : decode b_Mo_next 148 = .ok (.iconst 1, 1) := by decide +kernel
theorem d_Mo_next_149 : decode b_Mo_next 149 = .ok (.if_icmp .ne 31, 3) := by decide +kernel
theorem d_Mo_next_152 : decode b_Mo_next 152 = .ok (.aload_n 0, 1) := by decide +kernel
theorem d_Mo_next_153 : decode b_Mo_next 153 = .ok (.aload_n 0, 1) := by decide +kernel
theorem d_Mo_next_154 : decode b_Mo_next 154 = .ok (.getfield 281, 3) := by decide +kernel
theorem d_Mo_next_157 : decode b_Mo_next 157 = .ok (.bipush 97, 2) := by decide +kernel
theorem d_Mo_next_159 : decode b_Mo_next 159 = .ok (.bipush 122, 2) := by decide +kernel
theorem d_Mo_next_161 : decode b_Mo_next 161 = .ok (.invokevirtual 287, 3) := by decide +kernel
theorem d_Mo_next_164 : decode b_Mo_next 164 = .ok (.ifCond .eq 16, 3) := by decide +kernel
theorem d_Mo_next_167 : decode b_Mo_next 167 = .ok (.aload_n 0, 1) := by decide +kernel
theorem d_Mo_next_168 : decode b_Mo_next 168 = .ok (.dup, 1) := by decide +kernel
theorem d_Mo_next_169 : decode b_Mo_next 169 = .ok (.getfield 281, 3) := by decide +kernel
theorem d_Mo_next_172 : decode b_Mo_next 172 = .ok (.iconst 1, 1) := by decide +kernel
theorem d_Mo_next_173 : decode b_Mo_next 173 = .ok (.iadd, 1) := by decide +kernel
theorem d_Mo_next_174 : decode b_Mo_next 174 = .ok (.putfield 281, 3) := by decide +kernel
theorem d_Mo_next_177 : decode b_Mo_next 177 = .ok (.goto (-33), 3) := by decide +kernel
theorem d_Mo_next_180 : decode b_Mo_next 180 = .ok (.aload_n 0, 1) := by decide +kernel
theorem d_Mo_next_181 : decode b_Mo_next 181 = .ok (.getfield 290, 3) := by decide +kernel
theorem d_Mo_next_184 : decode b_Mo_next 184 = .ok (.iconst 2, 1) := by decide +kernel
theorem d_Mo_next_185 : decode b_Mo_next 185 = .ok (.if_icmp .ne 74, 3) := by decide +kernel
theorem d_Mo_next_188 : decode b_Mo_next 188 = .ok (.aload_n 0, 1) := by decide +kernel
theorem d_Mo_next_189 : decode b_Mo_next 189 = .ok (.aload_n 0, 1) := by decide +kernel
theorem d_Mo_next_190 : decode b_Mo_next 190 = .ok (.getfield 281, 3) := by decide +kernel
theorem d_Mo_next_193 : decode b_Mo_next 193 = .ok (.bipush 48, 2) := by decide +kernel
theorem d_Mo_next_195 : decode b_Mo_next 195 = .ok (.bipush 57, 2) := by decide +kernel
theorem d_Mo_next_197 : decode b_Mo_next 197 = .ok (.invokevirtual 287, 3) := by decide +kernel
theorem d_Mo_next_200 : decode b_Mo_next 200 = .ok (.ifCond .eq 59, 3) := by decide +kernel
theorem d_Mo_next_203 : decode b_Mo_next 203 = .ok (.aload_n 0, 1) := by decide +kernel
theorem d_Mo_next_204 : decode b_Mo_next 204 = .ok (.aload_n 0, 1) := by decide +kernel
theorem d_Mo_next_205 : decode b_Mo_next 205 = .ok (.getfield 281, 3) := by decide +kernel
theorem d_Mo_next_208 : decode b_Mo_next 208 = .ok (.aload_n 0, 1) := by decide +kernel
theorem d_Mo_next_209 : decode b_Mo_next 209 = .ok (.getfield 284, 3) := by decide +kernel
theorem d_Mo_next_212 : decode b_Mo_next 212 = .ok (.isub, 1) := by decide +kernel
theorem d_Mo_next_213 : decode b_Mo_next 213 = .ok (.iconst 2, 1) := by decide +kernel
theorem d_Mo_next_214 : decode b_Mo_next 214 = .ok (.if_icmp .ge 26, 3) := by decide +kernel
theorem d_Mo_next_217 : decode b_Mo_next 217 = .ok (.bipush 10, 2) := by decide +kernel
theorem d_Mo_next_219 : decode b_Mo_next 219 = .ok (.aload_n 0, 1) := by decide +kernel
theorem d_Mo_next_220 : decode b_Mo_next 220 = .ok (.getfield 293, 3) := by decide +kernel
theorem d_Mo_next_223 : decode b_Mo_next 223 = .ok (.imul, 1) := by decide +kernel
theorem d_Mo_next_224 : decode b_Mo_next 224 = .ok (.aload_n 0, 1) := by decide +kernel
theorem d_Mo_next_225 : decode b_Mo_next 225 = .ok (.getfield 50, 3) := by decide +kernel
theorem d_Mo_next_228 : decode b_Mo_next 228 = .ok (.aload_n 0, 1) := by decide +kernel
theorem d_Mo_next_229 : decode b_Mo_next 229 = .ok (.getfield 281, 3) := by decide +kernel
theorem d_Mo_next_232 : decode b_Mo_next 232 = .ok (.iaload, 1) := by decide +kernel
theorem d_Mo_next_233 : decode b_Mo_next 233 = .ok (.iadd, 1) := by decide +kernel
theorem d_Mo_next_234 : decode b_Mo_next 234 = .ok (.bipush 48, 2) := by decide +kernel
theorem d_Mo_next_236 : decode b_Mo_next 236 = .ok (.isub, 1) := by decide +kernel
theorem d_Mo_next_237 : decode b_Mo_next 237 = .ok (.goto 6, 3) := by decide +kernel
theorem d_Mo_next_240 : decode b_Mo_next 240 = .ok (.sipush 999, 3) := by decide +kernel
theorem d_Mo_next_243 : decode b_Mo_next 243 = .ok (.putfield 293, 3) := by decide +kernel
theorem d_Mo_next_246 : decode b_Mo_next 246 = .ok (.aload_n 0, 1) := by decide +kernel
theorem d_Mo_next_247 : decode b_Mo_next 247 = .ok (.dup, 1) := by decide +kernel
theorem d_Mo_next_248 : decode b_Mo_next 248 = .ok (.getfield 281, 3) := by decide +kernel
theorem d_Mo_next_251 : decode b_Mo_next 251 = .ok (.iconst 1, 1) := by decide +kernel
theorem d_Mo_next_252 : decode b_Mo_next 252 = .ok (.iadd, 1) := by decide +kernel
theorem d_Mo_next_253 : decode b_Mo_next 253 = .ok (.putfield 281, 3) := by decide +kernel
theorem d_Mo_next_256 : decode b_Mo_next 256 = .ok (.goto (-76), 3) := by decide +kernel
theorem d_Mo_next_259 : decode b_Mo_next 259 = .ok (.return_, 1) := by decide +kernel
def B_Mo_next_180 (k180 : Sto → Option (Unit × Sto)) (σ : Sto) : Option (Unit × Sto) :=
  (if (gI σ 48 25) = (2 : Int32) then ((f_Mo_isAt (gI σ 48 27) (48 : Int32) (57 : Int32) σ).bind fun q11 => (if (b2i q11.1) = 0 then some ((), q11.2)
  else (if (2 : Int32) ≤ ((gI q11.2 48 27) - (gI q11.2 48 26)) then (lt1 (sI (sI q11.2 48 28 (999 : Int32)) 48 27 ((gI (sI q11.2 48 28 (999 : Int32)) 48 27) + (1 : Int32))) fun σ12 => k180 σ12)
   else (if inb (gI q11.2 48 27) 160 = true then (lt1 (sI q11.2 48 28 ((((10 : Int32) * (gI q11.2 48 28)) + (gI q11.2 62 (Int32.toNatClampNeg (gI q11.2 48 27)))) - (48 : Int32))) fun σ13 => k180 (sI σ13 48 27 ((gI σ13 48 27) + (1 : Int32)))) else none))))
 else some ((), σ))
set_option maxHeartbeats 4000000 in
set_option maxRecDepth 100000 in
theorem vB_Mo_next_180 {X : Xt} {E : En} (g : GG X E 3 b_Mo_next R_Mo 1) {k180 : Sto → Option (Unit × Sto)} (hk180 : ∀ (σ : Sto), VV X E b_Mo_next 1 eU 180 [(0, .ref (E.2.1 48))] [] σ (k180  σ)) (σ : Sto) : VV X E b_Mo_next 1 eU 180 [(0, .ref (E.2.1 48))] [] σ (B_Mo_next_180 k180 σ) := by
  unfold B_Mo_next_180
  refine v_aload_n 0 g d_Mo_next_180 rfl ?_
  refine v_getI g ff_Mo_290 rfl rfl d_Mo_next_181 ?_
  refine v_iconst (v := (2 : Int32)) g d_Mo_next_184 (by decide +kernel) ?_
  refine v_icmp_ne 259 g d_Mo_next_185 (by decide) (fun _ => ?_) (fun _ => ?_)
  · exact v_ret d_Mo_next_259 rfl
  · refine v_aload_n 0 g d_Mo_next_188 rfl ?_
    refine v_aload_n 0 g d_Mo_next_189 rfl ?_
    refine v_getI g ff_Mo_281 rfl rfl d_Mo_next_190 ?_
    refine v_bipush (v := (48 : Int32)) g d_Mo_next_193 (by decide +kernel) ?_
    refine v_bipush (v := (57 : Int32)) g d_Mo_next_195 (by decide +kernel) ?_
    refine v_callB (r_V (rest := []) [.int (gI σ 48 27), .int (48 : Int32), .int (57 : Int32)] g (m1 1457 (by decide +kernel) (by decide +kernel)) yv_Mo_isAt rfl (fun r σ1 h => sp_Mo_isAt g.2.2.1  h) rfl rfl (by decide) (Nat.le_of_ble_eq_true rfl) d_Mo_next_197) (fun q11 => ?_)
    refine v_if_eq 259 g d_Mo_next_200 (by decide) (fun _ => ?_) (fun _ => ?_)
    · exact v_ret d_Mo_next_259 rfl
    · refine v_aload_n 0 g d_Mo_next_203 rfl ?_
      refine v_aload_n 0 g d_Mo_next_204 rfl ?_
      refine v_getI g ff_Mo_281 rfl rfl d_Mo_next_205 ?_
      refine v_aload_n 0 g d_Mo_next_208 rfl ?_
      refine v_getI g ff_Mo_284 rfl rfl d_Mo_next_209 ?_
      refine v_isub g d_Mo_next_212 ?_
      refine v_iconst (v := (2 : Int32)) g d_Mo_next_213 (by decide +kernel) ?_
      refine v_icmp_ge 240 g d_Mo_next_214 (by decide) (fun _ => ?_) (fun _ => ?_)
      · refine v_sipush (v := (999 : Int32)) g d_Mo_next_240 (by decide +kernel) ?_
        refine v_putI g fp_Mo_293 rfl rfl d_Mo_next_243 ?_
        refine v_aload_n 0 g d_Mo_next_246 rfl ?_
        refine v_dup g d_Mo_next_247 rfl ?_
        refine v_getI g ff_Mo_281 rfl rfl d_Mo_next_248 ?_
        refine v_iconst (v := (1 : Int32)) g d_Mo_next_251 (by decide +kernel) ?_
        refine v_iadd g d_Mo_next_252 ?_
        refine v_putI g fp_Mo_281 rfl rfl d_Mo_next_253 ?_
        refine v_nlet (fun σ12 eσ12 => ?_)
        rw [← eσ12]
        refine v_goto 180 g d_Mo_next_256 (by decide) ?_
        exact v_sub [0] rfl (hk180 σ12)
      · refine v_bipush (v := (10 : Int32)) g d_Mo_next_217 (by decide +kernel) ?_
        refine v_aload_n 0 g d_Mo_next_219 rfl ?_
        refine v_getI g ff_Mo_293 rfl rfl d_Mo_next_220 ?_
        refine v_imul g d_Mo_next_223 ?_
        refine v_aload_n 0 g d_Mo_next_224 rfl ?_
        refine v_getR 62 g ff_Mo_50 rfl rfl rfl d_Mo_next_225 ?_
        refine v_aload_n 0 g d_Mo_next_228 rfl ?_
        refine v_getI g ff_Mo_281 rfl rfl d_Mo_next_229 ?_
        refine v_iald g rfl rfl d_Mo_next_232 (fun _ => ?_)
        refine v_iadd g d_Mo_next_233 ?_
        refine v_bipush (v := (48 : Int32)) g d_Mo_next_234 (by decide +kernel) ?_
        refine v_isub g d_Mo_next_236 ?_
        refine v_goto 243 g d_Mo_next_237 (by decide) ?_
        refine v_putI g fp_Mo_293 rfl rfl d_Mo_next_243 ?_
        refine v_nlet (fun σ13 eσ13 => ?_)
        rw [← eσ13]
        refine v_aload_n 0 g d_Mo_next_246 rfl ?_
        refine v_dup g d_Mo_next_247 rfl ?_
        refine v_getI g ff_Mo_281 rfl rfl d_Mo_next_248 ?_
        refine v_iconst (v := (1 : Int32)) g d_Mo_next_251 (by decide +kernel) ?_
        refine v_iadd g d_Mo_next_252 ?_
        refine v_putI g fp_Mo_281 rfl rfl d_Mo_next_253 ?_
        refine v_goto 180 g d_Mo_next_256 (by decide) ?_
        exact v_sub [0] rfl (hk180 (sI σ13 48 27 ((gI σ13 48 27) + (1 : Int32))))
def L_Mo_next_180 : Nat → Sto → Option (Unit × Sto)
  | 0, _ => none
  | fu + 1, σ => B_Mo_next_180 (L_Mo_next_180 fu) σ
theorem vL_Mo_next_180 {X : Xt} {E : En} (g : GG X E 3 b_Mo_next R_Mo 1) (fu : Nat) : ∀ (σ : Sto), VV X E b_Mo_next 1 eU 180 [(0, .ref (E.2.1 48))] [] σ (L_Mo_next_180 fu σ) := by
  induction fu with
  | zero => intros; exact v_none
  | succ fu ih =>
    intro σ
    exact vB_Mo_next_180 g ih σ
def B_Mo_next_144 (k144 : Sto → Option (Unit × Sto)) (σ : Sto) : Option (Unit × Sto) :=
  (if (gI σ 48 25) = (1 : Int32) then ((f_Mo_isAt (gI σ 48 27) (97 : Int32) (122 : Int32) σ).bind fun q10 => (if (b2i q10.1) = 0 then L_Mo_next_180 LF q10.2
  else k144 (sI q10.2 48 27 ((gI q10.2 48 27) + (1 : Int32)))))
 else L_Mo_next_180 LF σ)
set_option maxHeartbeats 4000000 in
set_option maxRecDepth 100000 in
theorem vB_Mo_next_144 {X : Xt} {E : En} (g : GG X E 3 b_Mo_next R_Mo 1) {k144 : Sto → Option (Unit × Sto)} (hk144 : ∀ (σ : Sto), VV X E b_Mo_next 1 eU 144 [(0, .ref (E.2.1 48))] [] σ (k144  σ)) (σ : Sto) : VV X E b_Mo_next 1 eU 144 [(0, .ref (E.2.1 48))] [] σ (B_Mo_next_144 k144 σ) := by
  unfold B_Mo_next_144
  refine v_aload_n 0 g d_Mo_next_144 rfl ?_
  refine v_getI g ff_Mo_290 rfl rfl d_Mo_next_145 ?_
  refine v_iconst (v := (1 : Int32)) g d_Mo_next_148 (by decide +kernel) ?_
  refine v_icmp_ne 180 g d_Mo_next_149 (by decide) (fun _ => ?_) (fun _ => ?_)
  · exact v_sub [0] rfl (vL_Mo_next_180 g LF σ)
  · refine v_aload_n 0 g d_Mo_next_152 rfl ?_
    refine v_aload_n 0 g d_Mo_next_153 rfl ?_
    refine v_getI g ff_Mo_281 rfl rfl d_Mo_next_154 ?_
    refine v_bipush (v := (97 : Int32)) g d_Mo_next_157 (by decide +kernel) ?_
    refine v_bipush (v := (122 : Int32)) g d_Mo_next_159 (by decide +kernel) ?_
    refine v_callB (r_V (rest := []) [.int (gI σ 48 27), .int (97 : Int32), .int (122 : Int32)] g (m1 1457 (by decide +kernel) (by decide +kernel)) yv_Mo_isAt rfl (fun r σ1 h => sp_Mo_isAt g.2.2.1  h) rfl rfl (by decide) (Nat.le_of_ble_eq_true rfl) d_Mo_next_161) (fun q10 => ?_)
    refine v_if_eq 180 g d_Mo_next_164 (by decide) (fun _ => ?_) (fun _ => ?_)
    · exact v_sub [0] rfl (vL_Mo_next_180 g LF q10.2)
    · refine v_aload_n 0 g d_Mo_next_167 rfl ?_
      refine v_dup g d_Mo_next_168 rfl ?_
      refine v_getI g ff_Mo_281 rfl rfl d_Mo_next_169 ?_
      refine v_iconst (v := (1 : Int32)) g d_Mo_next_172 (by decide +kernel) ?_
      refine v_iadd g d_Mo_next_173 ?_
      refine v_putI g fp_Mo_281 rfl rfl d_Mo_next_174 ?_
      refine v_goto 144 g d_Mo_next_177 (by decide) ?_
      exact v_sub [0] rfl (hk144 (sI q10.2 48 27 ((gI q10.2 48 27) + (1 : Int32))))
def L_Mo_next_144 : Nat → Sto → Option (Unit × Sto)
  | 0, _ => none
  | fu + 1, σ => B_Mo_next_144 (L_Mo_next_144 fu) σ
theorem vL_Mo_next_144 {X : Xt} {E : En} (g : GG X E 3 b_Mo_next R_Mo 1) (fu : Nat) : ∀ (σ : Sto), VV X E b_Mo_next 1 eU 144 [(0, .ref (E.2.1 48))] [] σ (L_Mo_next_144 fu σ) := by
  induction fu with
  | zero => intros; exact v_none
  | succ fu ih =>
    intro σ
    exact vB_Mo_next_144 g ih σ
def B_Mo_next_8 (k8 : Sto → Option (Unit × Sto)) (σ : Sto) : Option (Unit × Sto) :=
  ((f_Mo_isAt (gI σ 48 26) (32 : Int32) (32 : Int32) σ).bind fun q1 => (if (b2i q1.1) = 0 then (if (gI (sI q1.2 48 27 (gI q1.2 48 26)) 48 26) = (gI (sI q1.2 48 27 (gI q1.2 48 26)) 48 24) then (lt1 (sI (sI (sI q1.2 48 27 (gI q1.2 48 26)) 48 25 (0 : Int32)) 48 28 (0 : Int32)) fun σ9 => (if (gI σ9 48 25) ≤ (2 : Int32) then L_Mo_next_144 LF σ9
   else L_Mo_next_144 LF (sI σ9 48 27 ((gI σ9 48 27) + (1 : Int32)))))
  else ((f_Mo_isAt (gI (sI q1.2 48 27 (gI q1.2 48 26)) 48 26) (97 : Int32) (122 : Int32) (sI q1.2 48 27 (gI q1.2 48 26))).bind fun q2 => (if (b2i q2.1) = 0 then ((f_Mo_isAt (gI q2.2 48 26) (48 : Int32) (57 : Int32) q2.2).bind fun q3 => (if (b2i q3.1) = 0 then ((f_Mo_isAt (gI q3.2 48 26) (59 : Int32) (59 : Int32) q3.2).bind fun q4 => (if (b2i q4.1) = 0 then (if (gI (sI (sI q4.2 48 25 (4 : Int32)) 48 28 (0 : Int32)) 48 25) ≤ (2 : Int32) then L_Mo_next_144 LF (sI (sI q4.2 48 25 (4 : Int32)) 48 28 (0 : Int32))
      else (lt1 (sI (sI (sI q4.2 48 25 (4 : Int32)) 48 28 (0 : Int32)) 48 27 ((gI (sI (sI q4.2 48 25 (4 : Int32)) 48 28 (0 : Int32)) 48 27) + (1 : Int32))) fun σ5 => L_Mo_next_144 LF σ5))
     else (if (gI (sI (sI q4.2 48 25 (3 : Int32)) 48 28 (0 : Int32)) 48 25) ≤ (2 : Int32) then L_Mo_next_144 LF (sI (sI q4.2 48 25 (3 : Int32)) 48 28 (0 : Int32))
      else (lt1 (sI (sI (sI q4.2 48 25 (3 : Int32)) 48 28 (0 : Int32)) 48 27 ((gI (sI (sI q4.2 48 25 (3 : Int32)) 48 28 (0 : Int32)) 48 27) + (1 : Int32))) fun σ6 => L_Mo_next_144 LF σ6))))
    else (if (gI (sI (sI q3.2 48 25 (2 : Int32)) 48 28 (0 : Int32)) 48 25) ≤ (2 : Int32) then L_Mo_next_144 LF (sI (sI q3.2 48 25 (2 : Int32)) 48 28 (0 : Int32))
     else (lt1 (sI (sI (sI q3.2 48 25 (2 : Int32)) 48 28 (0 : Int32)) 48 27 ((gI (sI (sI q3.2 48 25 (2 : Int32)) 48 28 (0 : Int32)) 48 27) + (1 : Int32))) fun σ7 => L_Mo_next_144 LF σ7))))
   else (if (gI (sI (sI q2.2 48 25 (1 : Int32)) 48 28 (0 : Int32)) 48 25) ≤ (2 : Int32) then L_Mo_next_144 LF (sI (sI q2.2 48 25 (1 : Int32)) 48 28 (0 : Int32))
    else (lt1 (sI (sI (sI q2.2 48 25 (1 : Int32)) 48 28 (0 : Int32)) 48 27 ((gI (sI (sI q2.2 48 25 (1 : Int32)) 48 28 (0 : Int32)) 48 27) + (1 : Int32))) fun σ8 => L_Mo_next_144 LF σ8)))))
 else k8 (sI q1.2 48 26 ((gI q1.2 48 26) + (1 : Int32)))))
set_option maxHeartbeats 4000000 in
set_option maxRecDepth 100000 in
theorem vB_Mo_next_8 {X : Xt} {E : En} (g : GG X E 3 b_Mo_next R_Mo 1) {k8 : Sto → Option (Unit × Sto)} (hk8 : ∀ (σ : Sto), VV X E b_Mo_next 1 eU 8 [(0, .ref (E.2.1 48))] [] σ (k8  σ)) (σ : Sto) : VV X E b_Mo_next 1 eU 8 [(0, .ref (E.2.1 48))] [] σ (B_Mo_next_8 k8 σ) := by
  unfold B_Mo_next_8
  refine v_aload_n 0 g d_Mo_next_8 rfl ?_
  refine v_aload_n 0 g d_Mo_next_9 rfl ?_
  refine v_getI g ff_Mo_284 rfl rfl d_Mo_next_10 ?_
  refine v_bipush (v := (32 : Int32)) g d_Mo_next_13 (by decide +kernel) ?_
  refine v_bipush (v := (32 : Int32)) g d_Mo_next_15 (by decide +kernel) ?_
  refine v_callB (r_V (rest := []) [.int (gI σ 48 26), .int (32 : Int32), .int (32 : Int32)] g (m1 1457 (by decide +kernel) (by decide +kernel)) yv_Mo_isAt rfl (fun r σ1 h => sp_Mo_isAt g.2.2.1  h) rfl rfl (by decide) (Nat.le_of_ble_eq_true rfl) d_Mo_next_17) (fun q1 => ?_)
  refine v_if_eq 36 g d_Mo_next_20 (by decide) (fun _ => ?_) (fun _ => ?_)
  · refine v_aload_n 0 g d_Mo_next_36 rfl ?_
    refine v_aload_n 0 g d_Mo_next_37 rfl ?_
    refine v_getI g ff_Mo_284 rfl rfl d_Mo_next_38 ?_
    refine v_putI g fp_Mo_281 rfl rfl d_Mo_next_41 ?_
    refine v_aload_n 0 g d_Mo_next_44 rfl ?_
    refine v_aload_n 0 g d_Mo_next_45 rfl ?_
    refine v_getI g ff_Mo_284 rfl rfl d_Mo_next_46 ?_
    refine v_aload_n 0 g d_Mo_next_49 rfl ?_
    refine v_getI g ff_Mo_276 rfl rfl d_Mo_next_50 ?_
    refine v_icmp_ne 60 g d_Mo_next_53 (by decide) (fun _ => ?_) (fun _ => ?_)
    · refine v_aload_n 0 g d_Mo_next_60 rfl ?_
      refine v_aload_n 0 g d_Mo_next_61 rfl ?_
      refine v_getI g ff_Mo_284 rfl rfl d_Mo_next_62 ?_
      refine v_bipush (v := (97 : Int32)) g d_Mo_next_65 (by decide +kernel) ?_
      refine v_bipush (v := (122 : Int32)) g d_Mo_next_67 (by decide +kernel) ?_
      refine v_callB (r_V (rest := [.ref (E.2.1 48)]) [.int (gI (sI q1.2 48 27 (gI q1.2 48 26)) 48 26), .int (97 : Int32), .int (122 : Int32)] g (m1 1457 (by decide +kernel) (by decide +kernel)) yv_Mo_isAt rfl (fun r σ1 h => sp_Mo_isAt g.2.2.1  h) rfl rfl (by decide) (Nat.le_of_ble_eq_true rfl) d_Mo_next_69) (fun q2 => ?_)
      refine v_if_eq 79 g d_Mo_next_72 (by decide) (fun _ => ?_) (fun _ => ?_)
      · refine v_aload_n 0 g d_Mo_next_79 rfl ?_
        refine v_aload_n 0 g d_Mo_next_80 rfl ?_
        refine v_getI g ff_Mo_284 rfl rfl d_Mo_next_81 ?_
        refine v_bipush (v := (48 : Int32)) g d_Mo_next_84 (by decide +kernel) ?_
        refine v_bipush (v := (57 : Int32)) g d_Mo_next_86 (by decide +kernel) ?_
        refine v_callB (r_V (rest := [.ref (E.2.1 48)]) [.int (gI q2.2 48 26), .int (48 : Int32), .int (57 : Int32)] g (m1 1457 (by decide +kernel) (by decide +kernel)) yv_Mo_isAt rfl (fun r σ1 h => sp_Mo_isAt g.2.2.1  h) rfl rfl (by decide) (Nat.le_of_ble_eq_true rfl) d_Mo_next_88) (fun q3 => ?_)
        refine v_if_eq 98 g d_Mo_next_91 (by decide) (fun _ => ?_) (fun _ => ?_)
        · refine v_aload_n 0 g d_Mo_next_98 rfl ?_
          refine v_aload_n 0 g d_Mo_next_99 rfl ?_
          refine v_getI g ff_Mo_284 rfl rfl d_Mo_next_100 ?_
          refine v_bipush (v := (59 : Int32)) g d_Mo_next_103 (by decide +kernel) ?_
          refine v_bipush (v := (59 : Int32)) g d_Mo_next_105 (by decide +kernel) ?_
          refine v_callB (r_V (rest := [.ref (E.2.1 48)]) [.int (gI q3.2 48 26), .int (59 : Int32), .int (59 : Int32)] g (m1 1457 (by decide +kernel) (by decide +kernel)) yv_Mo_isAt rfl (fun r σ1 h => sp_Mo_isAt g.2.2.1  h) rfl rfl (by decide) (Nat.le_of_ble_eq_true rfl) d_Mo_next_107) (fun q4 => ?_)
          refine v_if_eq 117 g d_Mo_next_110 (by decide) (fun _ => ?_) (fun _ => ?_)
          · refine v_iconst (v := (4 : Int32)) g d_Mo_next_117 (by decide +kernel) ?_
            refine v_putI g fp_Mo_290 rfl rfl d_Mo_next_118 ?_
            refine v_aload_n 0 g d_Mo_next_121 rfl ?_
            refine v_iconst (v := (0 : Int32)) g d_Mo_next_122 (by decide +kernel) ?_
            refine v_putI g fp_Mo_293 rfl rfl d_Mo_next_123 ?_
            refine v_aload_n 0 g d_Mo_next_126 rfl ?_
            refine v_getI g ff_Mo_290 rfl rfl d_Mo_next_127 ?_
            refine v_iconst (v := (2 : Int32)) g d_Mo_next_130 (by decide +kernel) ?_
            refine v_icmp_le 144 g d_Mo_next_131 (by decide) (fun _ => ?_) (fun _ => ?_)
            · exact v_sub [0] rfl (vL_Mo_next_144 g LF (sI (sI q4.2 48 25 (4 : Int32)) 48 28 (0 : Int32)))
            · refine v_aload_n 0 g d_Mo_next_134 rfl ?_
              refine v_dup g d_Mo_next_135 rfl ?_
              refine v_getI g ff_Mo_281 rfl rfl d_Mo_next_136 ?_
              refine v_iconst (v := (1 : Int32)) g d_Mo_next_139 (by decide +kernel) ?_
              refine v_iadd g d_Mo_next_140 ?_
              refine v_putI g fp_Mo_281 rfl rfl d_Mo_next_141 ?_
              refine v_nlet (fun σ5 eσ5 => ?_)
              rw [← eσ5]
              exact v_sub [0] rfl (vL_Mo_next_144 g LF σ5)
          · refine v_iconst (v := (3 : Int32)) g d_Mo_next_113 (by decide +kernel) ?_
            refine v_goto 118 g d_Mo_next_114 (by decide) ?_
            refine v_putI g fp_Mo_290 rfl rfl d_Mo_next_118 ?_
            refine v_aload_n 0 g d_Mo_next_121 rfl ?_
            refine v_iconst (v := (0 : Int32)) g d_Mo_next_122 (by decide +kernel) ?_
            refine v_putI g fp_Mo_293 rfl rfl d_Mo_next_123 ?_
            refine v_aload_n 0 g d_Mo_next_126 rfl ?_
            refine v_getI g ff_Mo_290 rfl rfl d_Mo_next_127 ?_
            refine v_iconst (v := (2 : Int32)) g d_Mo_next_130 (by decide +kernel) ?_
            refine v_icmp_le 144 g d_Mo_next_131 (by decide) (fun _ => ?_) (fun _ => ?_)
            · exact v_sub [0] rfl (vL_Mo_next_144 g LF (sI (sI q4.2 48 25 (3 : Int32)) 48 28 (0 : Int32)))
            · refine v_aload_n 0 g d_Mo_next_134 rfl ?_
              refine v_dup g d_Mo_next_135 rfl ?_
              refine v_getI g ff_Mo_281 rfl rfl d_Mo_next_136 ?_
              refine v_iconst (v := (1 : Int32)) g d_Mo_next_139 (by decide +kernel) ?_
              refine v_iadd g d_Mo_next_140 ?_
              refine v_putI g fp_Mo_281 rfl rfl d_Mo_next_141 ?_
              refine v_nlet (fun σ6 eσ6 => ?_)
              rw [← eσ6]
              exact v_sub [0] rfl (vL_Mo_next_144 g LF σ6)
        · refine v_iconst (v := (2 : Int32)) g d_Mo_next_94 (by decide +kernel) ?_
          refine v_goto 118 g d_Mo_next_95 (by decide) ?_
          refine v_putI g fp_Mo_290 rfl rfl d_Mo_next_118 ?_
          refine v_aload_n 0 g d_Mo_next_121 rfl ?_
          refine v_iconst (v := (0 : Int32)) g d_Mo_next_122 (by decide +kernel) ?_
          refine v_putI g fp_Mo_293 rfl rfl d_Mo_next_123 ?_
          refine v_aload_n 0 g d_Mo_next_126 rfl ?_
          refine v_getI g ff_Mo_290 rfl rfl d_Mo_next_127 ?_
          refine v_iconst (v := (2 : Int32)) g d_Mo_next_130 (by decide +kernel) ?_
          refine v_icmp_le 144 g d_Mo_next_131 (by decide) (fun _ => ?_) (fun _ => ?_)
          · exact v_sub [0] rfl (vL_Mo_next_144 g LF (sI (sI q3.2 48 25 (2 : Int32)) 48 28 (0 : Int32)))
          · refine v_aload_n 0 g d_Mo_next_134 rfl ?_
            refine v_dup g d_Mo_next_135 rfl ?_
            refine v_getI g ff_Mo_281 rfl rfl d_Mo_next_136 ?_
            refine v_iconst (v := (1 : Int32)) g d_Mo_next_139 (by decide +kernel) ?_
            refine v_iadd g d_Mo_next_140 ?_
            refine v_putI g fp_Mo_281 rfl rfl d_Mo_next_141 ?_
            refine v_nlet (fun σ7 eσ7 => ?_)
            rw [← eσ7]
            exact v_sub [0] rfl (vL_Mo_next_144 g LF σ7)
      · refine v_iconst (v := (1 : Int32)) g d_Mo_next_75 (by decide +kernel) ?_
        refine v_goto 118 g d_Mo_next_76 (by decide) ?_
        refine v_putI g fp_Mo_290 rfl rfl d_Mo_next_118 ?_
        refine v_aload_n 0 g d_Mo_next_121 rfl ?_
        refine v_iconst (v := (0 : Int32)) g d_Mo_next_122 (by decide +kernel) ?_
        refine v_putI g fp_Mo_293 rfl rfl d_Mo_next_123 ?_
        refine v_aload_n 0 g d_Mo_next_126 rfl ?_
        refine v_getI g ff_Mo_290 rfl rfl d_Mo_next_127 ?_
        refine v_iconst (v := (2 : Int32)) g d_Mo_next_130 (by decide +kernel) ?_
        refine v_icmp_le 144 g d_Mo_next_131 (by decide) (fun _ => ?_) (fun _ => ?_)
        · exact v_sub [0] rfl (vL_Mo_next_144 g LF (sI (sI q2.2 48 25 (1 : Int32)) 48 28 (0 : Int32)))
        · refine v_aload_n 0 g d_Mo_next_134 rfl ?_
          refine v_dup g d_Mo_next_135 rfl ?_
          refine v_getI g ff_Mo_281 rfl rfl d_Mo_next_136 ?_
          refine v_iconst (v := (1 : Int32)) g d_Mo_next_139 (by decide +kernel) ?_
          refine v_iadd g d_Mo_next_140 ?_
          refine v_putI g fp_Mo_281 rfl rfl d_Mo_next_141 ?_
          refine v_nlet (fun σ8 eσ8 => ?_)
          rw [← eσ8]
          exact v_sub [0] rfl (vL_Mo_next_144 g LF σ8)
    · refine v_iconst (v := (0 : Int32)) g d_Mo_next_56 (by decide +kernel) ?_
      refine v_goto 118 g d_Mo_next_57 (by decide) ?_
      refine v_putI g fp_Mo_290 rfl rfl d_Mo_next_118 ?_
      refine v_aload_n 0 g d_Mo_next_121 rfl ?_
      refine v_iconst (v := (0 : Int32)) g d_Mo_next_122 (by decide +kernel) ?_
      refine v_putI g fp_Mo_293 rfl rfl d_Mo_next_123 ?_
      refine v_nlet (fun σ9 eσ9 => ?_)
      rw [← eσ9]
      refine v_aload_n 0 g d_Mo_next_126 rfl ?_
      refine v_getI g ff_Mo_290 rfl rfl d_Mo_next_127 ?_
      refine v_iconst (v := (2 : Int32)) g d_Mo_next_130 (by decide +kernel) ?_
      refine v_icmp_le 144 g d_Mo_next_131 (by decide) (fun _ => ?_) (fun _ => ?_)
      · exact v_sub [0] rfl (vL_Mo_next_144 g LF σ9)
      · refine v_aload_n 0 g d_Mo_next_134 rfl ?_
        refine v_dup g d_Mo_next_135 rfl ?_
        refine v_getI g ff_Mo_281 rfl rfl d_Mo_next_136 ?_
        refine v_iconst (v := (1 : Int32)) g d_Mo_next_139 (by decide +kernel) ?_
        refine v_iadd g d_Mo_next_140 ?_
        refine v_putI g fp_Mo_281 rfl rfl d_Mo_next_141 ?_
        exact v_sub [0] rfl (vL_Mo_next_144 g LF (sI σ9 48 27 ((gI σ9 48 27) + (1 : Int32))))
  · refine v_aload_n 0 g d_Mo_next_23 rfl ?_
    refine v_dup g d_Mo_next_24 rfl ?_
    refine v_getI g ff_Mo_284 rfl rfl d_Mo_next_25 ?_
    refine v_iconst (v := (1 : Int32)) g d_Mo_next_28 (by decide +kernel) ?_
    refine v_iadd g d_Mo_next_29 ?_
    refine v_putI g fp_Mo_284 rfl rfl d_Mo_next_30 ?_
    refine v_goto 8 g d_Mo_next_33 (by decide) ?_
    exact v_sub [0] rfl (hk8 (sI q1.2 48 26 ((gI q1.2 48 26) + (1 : Int32))))
def L_Mo_next_8 : Nat → Sto → Option (Unit × Sto)
  | 0, _ => none
  | fu + 1, σ => B_Mo_next_8 (L_Mo_next_8 fu) σ
theorem vL_Mo_next_8 {X : Xt} {E : En} (g : GG X E 3 b_Mo_next R_Mo 1) (fu : Nat) : ∀ (σ : Sto), VV X E b_Mo_next 1 eU 8 [(0, .ref (E.2.1 48))] [] σ (L_Mo_next_8 fu σ) := by
  induction fu with
  | zero => intros; exact v_none
  | succ fu ih =>
    intro σ
    exact vB_Mo_next_8 g ih σ
def B_Mo_next_0 (σ : Sto) : Option (Unit × Sto) :=
  L_Mo_next_8 LF (sI σ 48 26 (gI σ 48 27))
set_option maxHeartbeats 4000000 in
set_option maxRecDepth 100000 in
theorem vB_Mo_next_0 {X : Xt} {E : En} (g : GG X E 3 b_Mo_next R_Mo 1) (σ : Sto) : VV X E b_Mo_next 1 eU 0 [(0, .ref (E.2.1 48))] [] σ (B_Mo_next_0 σ) := by
  unfold B_Mo_next_0
  refine v_aload_n 0 g d_Mo_next_0 rfl ?_
  refine v_aload_n 0 g d_Mo_next_1 rfl ?_
  refine v_getI g ff_Mo_281 rfl rfl d_Mo_next_2 ?_
  refine v_putI g fp_Mo_284 rfl rfl d_Mo_next_5 ?_
  exact v_sub [0] rfl (vL_Mo_next_8 g LF (sI σ 48 26 (gI σ 48 27)))
def f_Mo_next (σ : Sto) : Option (Unit × Sto) := B_Mo_next_0 σ
theorem sp_Mo_next {l : Launch} {E : En} (hE : Dj E) {σ : Sto} {r : Unit} {σ' : Sto} (h : f_Mo_next σ = some (r, σ')) : Ct l E y_Mo_next (wsM y_Mo_next b_Mo_next 1 (none)) 3 [.ref (E.2.1 48)] σ (eU r) σ' :=
  ct_of hE (by decide +kernel) (Nat.le_of_ble_eq_true rfl) (fun _ => Or.inr (Or.inr (Or.inr (Or.inl ⟨rfl, rfl⟩)))) (fun X _ g => vB_Mo_next_0 g σ) r σ' h
/-! method FittingRingsModel.isWord(CCCCC)Z -/
theorem yv_Mo_isWord : YV y_Mo_isWord b_Mo_isWord 8 (some .boolean) 5 10 := ⟨m1 1471 (by decide +kernel) (by decide +kernel), m1 61 (by decide +kernel) (by decide +kernel), ini_Mo, m1 1472 (by decide +kernel) (by decide +kernel), ⟨by decide +kernel, by decide +kernel, by decide +kernel⟩, by decide, by decide, T_Mo, 39, rfl⟩
theorem d_Mo_isWord_0 : decode b_Mo_isWord 0 = .ok (.iload 5, 2) := by decide +kernel
theorem d_Mo_isWord_2 : decode b_Mo_isWord 2 = .ok (.bipush 32, 2) := by decide +kernel
theorem d_Mo_isWord_4 : decode b_Mo_isWord 4 = .ok (.if_icmp .eq 7, 3) := by decide +kernel
theorem d_Mo_isWord_7 : decode b_Mo_isWord 7 = .ok (.iconst 5, 1) := by decide +kernel
theorem d_Mo_isWord_8 : decode b_Mo_isWord 8 = .ok (.goto 15, 3) := by decide +kernel
theorem d_Mo_isWord_11 : decode b_Mo_isWord 11 = .ok (.iload 4, 2) := by decide +kernel
theorem d_Mo_isWord_13 : decode b_Mo_isWord 13 = .ok (.bipush 32, 2) := by decide +kernel
theorem d_Mo_isWord_15 : decode b_Mo_isWord 15 = .ok (.if_icmp .eq 7, 3) := by decide +kernel
theorem d_Mo_isWord_18 : decode b_Mo_isWord 18 = .ok (.iconst 4, 1) := by decide +kernel
theorem d_Mo_isWord_19 : decode b_Mo_isWord 19 = .ok (.goto 4, 3) := by decide +kernel
theorem d_Mo_isWord_22 : decode b_Mo_isWord 22 = .ok (.iconst 3, 1) := by decide +kernel
theorem d_Mo_isWord_23 : decode b_Mo_isWord 23 = .ok (.istore 6, 2) := by decide +kernel
theorem d_Mo_isWord_25 : decode b_Mo_isWord 25 = .ok (.aload_n 0, 1) := by decide +kernel
theorem d_Mo_isWord_26 : decode b_Mo_isWord 26 = .ok (.getfield 290, 3) := by decide +kernel
theorem d_Mo_isWord_29 : decode b_Mo_isWord 29 = .ok (.iconst 1, 1) := by decide +kernel
theorem d_Mo_isWord_30 : decode b_Mo_isWord 30 = .ok (.if_icmp .ne 64, 3) := by decide +kernel
theorem d_Mo_isWord_33 : decode b_Mo_isWord 33 = .ok (.aload_n 0, 1) := by decide +kernel
theorem d_Mo_isWord_34 : decode b_Mo_isWord 34 = .ok (.getfield 281, 3) := by decide +kernel
theorem d_Mo_isWord_37 : decode b_Mo_isWord 37 = .ok (.aload_n 0, 1) := by decide +kernel
theorem d_Mo_isWord_38 : decode b_Mo_isWord 38 = .ok (.getfield 284, 3) := by decide +kernel
theorem d_Mo_isWord_41 : decode b_Mo_isWord 41 = .ok (.isub, 1) := by decide +kernel
theorem d_Mo_isWord_42 : decode b_Mo_isWord 42 = .ok (.iload 6, 2) := by decide +kernel
theorem d_Mo_isWord_44 : decode b_Mo_isWord 44 = .ok (.if_icmp .ne 50, 3) := by decide +kernel
theorem d_Mo_isWord_47 : decode b_Mo_isWord 47 = .ok (.aload_n 0, 1) := by decide +kernel
theorem d_Mo_isWord_48 : decode b_Mo_isWord 48 = .ok (.getfield 50, 3) := by decide +kernel
theorem d_Mo_isWord_51 : decode b_Mo_isWord 51 = .ok (.aload_n 0, 1) := by decide +kernel
theorem d_Mo_isWord_52 : decode b_Mo_isWord 52 = .ok (.getfield 284, 3) := by decide +kernel
theorem d_Mo_isWord_55 : decode b_Mo_isWord 55 = .ok (.iaload, 1) := by decide +kernel
theorem d_Mo_isWord_56 : decode b_Mo_isWord 56 = .ok (.iload_n 1, 1) := by decide +kernel
theorem d_Mo_isWord_57 : decode b_Mo_isWord 57 = .ok (.if_icmp .ne 37, 3) := by decide +kernel
theorem d_Mo_isWord_60 : decode b_Mo_isWord 60 = .ok (.aload_n 0, 1) := by decide +kernel
theorem d_Mo_isWord_61 : decode b_Mo_isWord 61 = .ok (.getfield 50, 3) := by decide +kernel
theorem d_Mo_isWord_64 : decode b_Mo_isWord 64 = .ok (.aload_n 0, 1) := by decide +kernel
theorem d_Mo_isWord_65 : decode b_Mo_isWord 65 = .ok (.getfield 284, 3) := by decide +kernel
theorem d_Mo_isWord_68 : decode b_Mo_isWord 68 = .ok (.iconst 1, 1) := by decide +kernel
theorem d_Mo_isWord_69 : decode b_Mo_isWord 69 = .ok (.iadd, 1) := by decide +kernel
theorem d_Mo_isWord_70 : decode b_Mo_isWord 70 = .ok (.iaload, 1) := by decide +kernel
theorem d_Mo_isWord_71 : decode b_Mo_isWord 71 = .ok (.iload_n 2, 1) := by decide +kernel
theorem d_Mo_isWord_72 : decode b_Mo_isWord 72 = .ok (.if_icmp .ne 22, 3) := by decide +kernel
theorem d_Mo_isWord_75 : decode b_Mo_isWord 75 = .ok (.aload_n 0, 1) := by decide +kernel
theorem d_Mo_isWord_76 : decode b_Mo_isWord 76 = .ok (.getfield 50, 3) := by decide +kernel
theorem d_Mo_isWord_79 : decode b_Mo_isWord 79 = .ok (.aload_n 0, 1) := by decide +kernel
theorem d_Mo_isWord_80 : decode b_Mo_isWord 80 = .ok (.getfield 284, 3) := by decide +kernel
theorem d_Mo_isWord_83 : decode b_Mo_isWord 83 = .ok (.iconst 2, 1) := by decide +kernel
theorem d_Mo_isWord_84 : decode b_Mo_isWord 84 = .ok (.iadd, 1) := by decide +kernel
theorem d_Mo_isWord_85 : decode b_Mo_isWord 85 = .ok (.iaload, 1) := by decide +kernel
theorem d_Mo_isWord_86 : decode b_Mo_isWord 86 = .ok (.iload_n 3, 1) := by decide +kernel
theorem d_Mo_isWord_87 : decode b_Mo_isWord 87 = .ok (.if_icmp .ne 7, 3) := by decide +kernel
theorem d_Mo_isWord_90 : decode b_Mo_isWord 90 = .ok (.iconst 1, 1) := by decide +kernel
theorem d_Mo_isWord_91 : decode b_Mo_isWord 91 = .ok (.goto 4, 3) := by decide +kernel
theorem d_Mo_isWord_94 : decode b_Mo_isWord 94 = .ok (.iconst 0, 1) := by decide +kernel
theorem d_Mo_isWord_95 : decode b_Mo_isWord 95 = .ok (.istore 7, 2) := by decide +kernel
theorem d_Mo_isWord_97 : decode b_Mo_isWord 97 = .ok (.iload 7, 2) := by decide +kernel
theorem d_Mo_isWord_99 : decode b_Mo_isWord 99 = .ok (.ifCond .eq 51, 3) := by decide +kernel
theorem d_Mo_isWord_102 : decode b_Mo_isWord 102 = .ok (.iload 6, 2) := by decide +kernel
theorem d_Mo_isWord_104 : decode b_Mo_isWord 104 = .ok (.iconst 4, 1) := by decide +kernel
theorem d_Mo_isWord_105 : decode b_Mo_isWord 105 = .ok (.if_icmp .lt 19, 3) := by decide +kernel
theorem d_Mo_isWord_108 : decode b_Mo_isWord 108 = .ok (.aload_n 0, 1) := by decide +kernel
theorem d_Mo_isWord_109 : decode b_Mo_isWord 109 = .ok (.getfield 50, 3) := by decide +kernel
theorem d_Mo_isWord_112 : decode b_Mo_isWord 112 = .ok (.aload_n 0, 1) := by decide +kernel
theorem d_Mo_isWord_113 : decode b_Mo_isWord 113 = .ok (.getfield 284, 3) := by decide +kernel
theorem d_Mo_isWord_116 : decode b_Mo_isWord 116 = .ok (.iconst 3, 1) := by decide +kernel
theorem d_Mo_isWord_117 : decode b_Mo_isWord 117 = .ok (.iadd, 1) := by decide +kernel
theorem d_Mo_isWord_118 : decode b_Mo_isWord 118 = .ok (.iaload, 1) := by decide +kernel
theorem d_Mo_isWord_119 : decode b_Mo_isWord 119 = .ok (.iload 4, 2) := by decide +kernel
theorem d_Mo_isWord_121 : decode b_Mo_isWord 121 = .ok (.if_icmp .ne 29, 3) := by decide +kernel
theorem d_Mo_isWord_124 : decode b_Mo_isWord 124 = .ok (.iload 6, 2) := by decide +kernel
theorem d_Mo_isWord_126 : decode b_Mo_isWord 126 = .ok (.iconst 5, 1) := by decide +kernel
theorem d_Mo_isWord_127 : decode b_Mo_isWord 127 = .ok (.if_icmp .lt 19, 3) := by decide +kernel
theorem d_Mo_isWord_130 : decode b_Mo_isWord 130 = .ok (.aload_n 0, 1) := by decide +kernel
theorem d_Mo_isWord_131 : decode b_Mo_isWord 131 = .ok (.getfield 50, 3) := by decide +kernel
theorem d_Mo_isWord_134 : decode b_Mo_isWord 134 = .ok (.aload_n 0, 1) := by decide +kernel
theorem d_Mo_isWord_135 : decode b_Mo_isWord 135 = .ok (.getfield 284, 3) := by decide +kernel
theorem d_Mo_isWord_138 : decode b_Mo_isWord 138 = .ok (.iconst 4, 1) := by decide +kernel
theorem d_Mo_isWord_139 : decode b_Mo_isWord 139 = .ok (.iadd, 1) := by decide +kernel
theorem d_Mo_isWord_140 : decode b_Mo_isWord 140 = .ok (.iaload, 1) := by decide +kernel
theorem d_Mo_isWord_141 : decode b_Mo_isWord 141 = .ok (.iload 5, 2) := by decide +kernel
theorem d_Mo_isWord_143 : decode b_Mo_isWord 143 = .ok (.if_icmp .ne 7, 3) := by decide +kernel
theorem d_Mo_isWord_146 : decode b_Mo_isWord 146 = .ok (.iconst 1, 1) := by decide +kernel
theorem d_Mo_isWord_147 : decode b_Mo_isWord 147 = .ok (.goto 4, 3) := by decide +kernel
theorem d_Mo_isWord_150 : decode b_Mo_isWord 150 = .ok (.iconst 0, 1) := by decide +kernel
theorem d_Mo_isWord_151 : decode b_Mo_isWord 151 = .ok (.ireturn, 1) := by decide +kernel
def B_Mo_isWord_95 (v4 : Int32) (v5 : Int32) (v6 : Int32) (s0 : Int32) (σ : Sto) : Option (Bool × Sto) :=
  (if s0 = 0 then some (false, σ)
 else (if v6 < (4 : Int32) then (if v6 < (5 : Int32) then some (true, σ)
   else (if inb ((gI σ 48 26) + (4 : Int32)) 160 = true then (if (gI σ 62 (Int32.toNatClampNeg ((gI σ 48 26) + (4 : Int32)))) = v5 then some (true, σ)
    else some (false, σ)) else none))
  else (if inb ((gI σ 48 26) + (3 : Int32)) 160 = true then (if (gI σ 62 (Int32.toNatClampNeg ((gI σ 48 26) + (3 : Int32)))) = v4 then (if v6 < (5 : Int32) then some (true, σ)
    else (if inb ((gI σ 48 26) + (4 : Int32)) 160 = true then (if (gI σ 62 (Int32.toNatClampNeg ((gI σ 48 26) + (4 : Int32)))) = v5 then some (true, σ)
     else some (false, σ)) else none))
   else some (false, σ)) else none)))
set_option maxHeartbeats 4000000 in
set_option maxRecDepth 100000 in
theorem vB_Mo_isWord_95 {X : Xt} {E : En} (g : GG X E 1 b_Mo_isWord R_Mo 8) (v4 : Int32) (v5 : Int32) (v6 : Int32) (s0 : Int32) (σ : Sto) : VV X E b_Mo_isWord 8 eB 95 [(0, .ref (E.2.1 48)), (4, .int v4), (5, .int v5), (6, .int v6)] [.int s0] σ (B_Mo_isWord_95 v4 v5 v6 s0 σ) := by
  unfold B_Mo_isWord_95
  refine v_istore [(7, .int s0), (0, .ref (E.2.1 48)), (4, .int v4), (5, .int v5), (6, .int v6)] g d_Mo_isWord_95 (by decide) rfl ?_
  refine v_iload 0 g d_Mo_isWord_97 rfl ?_
  refine v_if_eq 150 g d_Mo_isWord_99 (by decide) (fun _ => ?_) (fun _ => ?_)
  · refine v_iconst (v := (0 : Int32)) g d_Mo_isWord_150 (by decide +kernel) ?_
    exact v_ret d_Mo_isWord_151 rfl
  · refine v_iload 4 g d_Mo_isWord_102 rfl ?_
    refine v_iconst (v := (4 : Int32)) g d_Mo_isWord_104 (by decide +kernel) ?_
    refine v_icmp_lt 124 g d_Mo_isWord_105 (by decide) (fun _ => ?_) (fun _ => ?_)
    · refine v_iload 4 g d_Mo_isWord_124 rfl ?_
      refine v_iconst (v := (5 : Int32)) g d_Mo_isWord_126 (by decide +kernel) ?_
      refine v_icmp_lt 146 g d_Mo_isWord_127 (by decide) (fun _ => ?_) (fun _ => ?_)
      · refine v_iconst (v := (1 : Int32)) g d_Mo_isWord_146 (by decide +kernel) ?_
        refine v_goto 151 g d_Mo_isWord_147 (by decide) ?_
        exact v_ret d_Mo_isWord_151 rfl
      · refine v_aload_n 1 g d_Mo_isWord_130 rfl ?_
        refine v_getR 62 g ff_Mo_50 rfl rfl rfl d_Mo_isWord_131 ?_
        refine v_aload_n 1 g d_Mo_isWord_134 rfl ?_
        refine v_getI g ff_Mo_284 rfl rfl d_Mo_isWord_135 ?_
        refine v_iconst (v := (4 : Int32)) g d_Mo_isWord_138 (by decide +kernel) ?_
        refine v_iadd g d_Mo_isWord_139 ?_
        refine v_iald g rfl rfl d_Mo_isWord_140 (fun _ => ?_)
        refine v_iload 3 g d_Mo_isWord_141 rfl ?_
        refine v_icmp_ne 150 g d_Mo_isWord_143 (by decide) (fun _ => ?_) (fun _ => ?_)
        · refine v_iconst (v := (0 : Int32)) g d_Mo_isWord_150 (by decide +kernel) ?_
          exact v_ret d_Mo_isWord_151 rfl
        · refine v_iconst (v := (1 : Int32)) g d_Mo_isWord_146 (by decide +kernel) ?_
          refine v_goto 151 g d_Mo_isWord_147 (by decide) ?_
          exact v_ret d_Mo_isWord_151 rfl
    · refine v_aload_n 1 g d_Mo_isWord_108 rfl ?_
      refine v_getR 62 g ff_Mo_50 rfl rfl rfl d_Mo_isWord_109 ?_
      refine v_aload_n 1 g d_Mo_isWord_112 rfl ?_
      refine v_getI g ff_Mo_284 rfl rfl d_Mo_isWord_113 ?_
      refine v_iconst (v := (3 : Int32)) g d_Mo_isWord_116 (by decide +kernel) ?_
      refine v_iadd g d_Mo_isWord_117 ?_
      refine v_iald g rfl rfl d_Mo_isWord_118 (fun _ => ?_)
      refine v_iload 2 g d_Mo_isWord_119 rfl ?_
      refine v_icmp_ne 150 g d_Mo_isWord_121 (by decide) (fun _ => ?_) (fun _ => ?_)
      · refine v_iconst (v := (0 : Int32)) g d_Mo_isWord_150 (by decide +kernel) ?_
        exact v_ret d_Mo_isWord_151 rfl
      · refine v_iload 4 g d_Mo_isWord_124 rfl ?_
        refine v_iconst (v := (5 : Int32)) g d_Mo_isWord_126 (by decide +kernel) ?_
        refine v_icmp_lt 146 g d_Mo_isWord_127 (by decide) (fun _ => ?_) (fun _ => ?_)
        · refine v_iconst (v := (1 : Int32)) g d_Mo_isWord_146 (by decide +kernel) ?_
          refine v_goto 151 g d_Mo_isWord_147 (by decide) ?_
          exact v_ret d_Mo_isWord_151 rfl
        · refine v_aload_n 1 g d_Mo_isWord_130 rfl ?_
          refine v_getR 62 g ff_Mo_50 rfl rfl rfl d_Mo_isWord_131 ?_
          refine v_aload_n 1 g d_Mo_isWord_134 rfl ?_
          refine v_getI g ff_Mo_284 rfl rfl d_Mo_isWord_135 ?_
          refine v_iconst (v := (4 : Int32)) g d_Mo_isWord_138 (by decide +kernel) ?_
          refine v_iadd g d_Mo_isWord_139 ?_
          refine v_iald g rfl rfl d_Mo_isWord_140 (fun _ => ?_)
          refine v_iload 3 g d_Mo_isWord_141 rfl ?_
          refine v_icmp_ne 150 g d_Mo_isWord_143 (by decide) (fun _ => ?_) (fun _ => ?_)
          · refine v_iconst (v := (0 : Int32)) g d_Mo_isWord_150 (by decide +kernel) ?_
            exact v_ret d_Mo_isWord_151 rfl
          · refine v_iconst (v := (1 : Int32)) g d_Mo_isWord_146 (by decide +kernel) ?_
            refine v_goto 151 g d_Mo_isWord_147 (by decide) ?_
            exact v_ret d_Mo_isWord_151 rfl
def B_Mo_isWord_23 (v1 : Int32) (v2 : Int32) (v3 : Int32) (v4 : Int32) (v5 : Int32) (s0 : Int32) (σ : Sto) : Option (Bool × Sto) :=
  (if (gI σ 48 25) = (1 : Int32) then (if ((gI σ 48 27) - (gI σ 48 26)) = s0 then (if inb (gI σ 48 26) 160 = true then (if (gI σ 62 (Int32.toNatClampNeg (gI σ 48 26))) = v1 then (if inb ((gI σ 48 26) + (1 : Int32)) 160 = true then (if (gI σ 62 (Int32.toNatClampNeg ((gI σ 48 26) + (1 : Int32)))) = v2 then (if inb ((gI σ 48 26) + (2 : Int32)) 160 = true then (if (gI σ 62 (Int32.toNatClampNeg ((gI σ 48 26) + (2 : Int32)))) = v3 then B_Mo_isWord_95 v4 v5 s0 (1 : Int32) σ
     else B_Mo_isWord_95 v4 v5 s0 (0 : Int32) σ) else none)
    else B_Mo_isWord_95 v4 v5 s0 (0 : Int32) σ) else none)
   else B_Mo_isWord_95 v4 v5 s0 (0 : Int32) σ) else none)
  else B_Mo_isWord_95 v4 v5 s0 (0 : Int32) σ)
 else B_Mo_isWord_95 v4 v5 s0 (0 : Int32) σ)
set_option maxHeartbeats 4000000 in
set_option maxRecDepth 100000 in
theorem vB_Mo_isWord_23 {X : Xt} {E : En} (g : GG X E 1 b_Mo_isWord R_Mo 8) (v1 : Int32) (v2 : Int32) (v3 : Int32) (v4 : Int32) (v5 : Int32) (s0 : Int32) (σ : Sto) : VV X E b_Mo_isWord 8 eB 23 [(0, .ref (E.2.1 48)), (1, .int v1), (2, .int v2), (3, .int v3), (4, .int v4), (5, .int v5)] [.int s0] σ (B_Mo_isWord_23 v1 v2 v3 v4 v5 s0 σ) := by
  unfold B_Mo_isWord_23
  refine v_istore [(6, .int s0), (0, .ref (E.2.1 48)), (1, .int v1), (2, .int v2), (3, .int v3), (4, .int v4), (5, .int v5)] g d_Mo_isWord_23 (by decide) rfl ?_
  refine v_aload_n 1 g d_Mo_isWord_25 rfl ?_
  refine v_getI g ff_Mo_290 rfl rfl d_Mo_isWord_26 ?_
  refine v_iconst (v := (1 : Int32)) g d_Mo_isWord_29 (by decide +kernel) ?_
  refine v_icmp_ne 94 g d_Mo_isWord_30 (by decide) (fun _ => ?_) (fun _ => ?_)
  · refine v_iconst (v := (0 : Int32)) g d_Mo_isWord_94 (by decide +kernel) ?_
    exact v_sub [1,5,6,0] rfl (vB_Mo_isWord_95 g v4 v5 s0 (0 : Int32) σ)
  · refine v_aload_n 1 g d_Mo_isWord_33 rfl ?_
    refine v_getI g ff_Mo_281 rfl rfl d_Mo_isWord_34 ?_
    refine v_aload_n 1 g d_Mo_isWord_37 rfl ?_
    refine v_getI g ff_Mo_284 rfl rfl d_Mo_isWord_38 ?_
    refine v_isub g d_Mo_isWord_41 ?_
    refine v_iload 0 g d_Mo_isWord_42 rfl ?_
    refine v_icmp_ne 94 g d_Mo_isWord_44 (by decide) (fun _ => ?_) (fun _ => ?_)
    · refine v_iconst (v := (0 : Int32)) g d_Mo_isWord_94 (by decide +kernel) ?_
      exact v_sub [1,5,6,0] rfl (vB_Mo_isWord_95 g v4 v5 s0 (0 : Int32) σ)
    · refine v_aload_n 1 g d_Mo_isWord_47 rfl ?_
      refine v_getR 62 g ff_Mo_50 rfl rfl rfl d_Mo_isWord_48 ?_
      refine v_aload_n 1 g d_Mo_isWord_51 rfl ?_
      refine v_getI g ff_Mo_284 rfl rfl d_Mo_isWord_52 ?_
      refine v_iald g rfl rfl d_Mo_isWord_55 (fun _ => ?_)
      refine v_iload_n 2 g d_Mo_isWord_56 rfl ?_
      refine v_icmp_ne 94 g d_Mo_isWord_57 (by decide) (fun _ => ?_) (fun _ => ?_)
      · refine v_iconst (v := (0 : Int32)) g d_Mo_isWord_94 (by decide +kernel) ?_
        exact v_sub [1,5,6,0] rfl (vB_Mo_isWord_95 g v4 v5 s0 (0 : Int32) σ)
      · refine v_aload_n 1 g d_Mo_isWord_60 rfl ?_
        refine v_getR 62 g ff_Mo_50 rfl rfl rfl d_Mo_isWord_61 ?_
        refine v_aload_n 1 g d_Mo_isWord_64 rfl ?_
        refine v_getI g ff_Mo_284 rfl rfl d_Mo_isWord_65 ?_
        refine v_iconst (v := (1 : Int32)) g d_Mo_isWord_68 (by decide +kernel) ?_
        refine v_iadd g d_Mo_isWord_69 ?_
        refine v_iald g rfl rfl d_Mo_isWord_70 (fun _ => ?_)
        refine v_iload_n 3 g d_Mo_isWord_71 rfl ?_
        refine v_icmp_ne 94 g d_Mo_isWord_72 (by decide) (fun _ => ?_) (fun _ => ?_)
        · refine v_iconst (v := (0 : Int32)) g d_Mo_isWord_94 (by decide +kernel) ?_
          exact v_sub [1,5,6,0] rfl (vB_Mo_isWord_95 g v4 v5 s0 (0 : Int32) σ)
        · refine v_aload_n 1 g d_Mo_isWord_75 rfl ?_
          refine v_getR 62 g ff_Mo_50 rfl rfl rfl d_Mo_isWord_76 ?_
          refine v_aload_n 1 g d_Mo_isWord_79 rfl ?_
          refine v_getI g ff_Mo_284 rfl rfl d_Mo_isWord_80 ?_
          refine v_iconst (v := (2 : Int32)) g d_Mo_isWord_83 (by decide +kernel) ?_
          refine v_iadd g d_Mo_isWord_84 ?_
          refine v_iald g rfl rfl d_Mo_isWord_85 (fun _ => ?_)
          refine v_iload_n 4 g d_Mo_isWord_86 rfl ?_
          refine v_icmp_ne 94 g d_Mo_isWord_87 (by decide) (fun _ => ?_) (fun _ => ?_)
          · refine v_iconst (v := (0 : Int32)) g d_Mo_isWord_94 (by decide +kernel) ?_
            exact v_sub [1,5,6,0] rfl (vB_Mo_isWord_95 g v4 v5 s0 (0 : Int32) σ)
          · refine v_iconst (v := (1 : Int32)) g d_Mo_isWord_90 (by decide +kernel) ?_
            refine v_goto 95 g d_Mo_isWord_91 (by decide) ?_
            exact v_sub [1,5,6,0] rfl (vB_Mo_isWord_95 g v4 v5 s0 (1 : Int32) σ)
def B_Mo_isWord_0 (a1 : Int32) (a2 : Int32) (a3 : Int32) (a4 : Int32) (a5 : Int32) (σ : Sto) : Option (Bool × Sto) :=
  (if a5 = (32 : Int32) then (if a4 = (32 : Int32) then B_Mo_isWord_23 a1 a2 a3 a4 a5 (3 : Int32) σ
  else B_Mo_isWord_23 a1 a2 a3 a4 a5 (4 : Int32) σ)
 else B_Mo_isWord_23 a1 a2 a3 a4 a5 (5 : Int32) σ)
set_option maxHeartbeats 4000000 in
set_option maxRecDepth 100000 in
theorem vB_Mo_isWord_0 {X : Xt} {E : En} (g : GG X E 1 b_Mo_isWord R_Mo 8) (a1 : Int32) (a2 : Int32) (a3 : Int32) (a4 : Int32) (a5 : Int32) (σ : Sto) : VV X E b_Mo_isWord 8 eB 0 [(0, .ref (E.2.1 48)), (1, .int a1), (2, .int a2), (3, .int a3), (4, .int a4), (5, .int a5)] [] σ (B_Mo_isWord_0 a1 a2 a3 a4 a5 σ) := by
  unfold B_Mo_isWord_0
  refine v_iload 5 g d_Mo_isWord_0 rfl ?_
  refine v_bipush (v := (32 : Int32)) g d_Mo_isWord_2 (by decide +kernel) ?_
  refine v_icmp_eq 11 g d_Mo_isWord_4 (by decide) (fun _ => ?_) (fun _ => ?_)
  · refine v_iload 4 g d_Mo_isWord_11 rfl ?_
    refine v_bipush (v := (32 : Int32)) g d_Mo_isWord_13 (by decide +kernel) ?_
    refine v_icmp_eq 22 g d_Mo_isWord_15 (by decide) (fun _ => ?_) (fun _ => ?_)
    · refine v_iconst (v := (3 : Int32)) g d_Mo_isWord_22 (by decide +kernel) ?_
      exact v_sub [0,1,2,3,4,5] rfl (vB_Mo_isWord_23 g a1 a2 a3 a4 a5 (3 : Int32) σ)
    · refine v_iconst (v := (4 : Int32)) g d_Mo_isWord_18 (by decide +kernel) ?_
      refine v_goto 23 g d_Mo_isWord_19 (by decide) ?_
      exact v_sub [0,1,2,3,4,5] rfl (vB_Mo_isWord_23 g a1 a2 a3 a4 a5 (4 : Int32) σ)
  · refine v_iconst (v := (5 : Int32)) g d_Mo_isWord_7 (by decide +kernel) ?_
    refine v_goto 23 g d_Mo_isWord_8 (by decide) ?_
    exact v_sub [0,1,2,3,4,5] rfl (vB_Mo_isWord_23 g a1 a2 a3 a4 a5 (5 : Int32) σ)
def f_Mo_isWord (a1 : Int32) (a2 : Int32) (a3 : Int32) (a4 : Int32) (a5 : Int32) (σ : Sto) : Option (Bool × Sto) := B_Mo_isWord_0 a1 a2 a3 a4 a5 σ
theorem sp_Mo_isWord {l : Launch} {E : En} (hE : Dj E) {a1 : Int32} {a2 : Int32} {a3 : Int32} {a4 : Int32} {a5 : Int32} {σ : Sto} {r : Bool} {σ' : Sto} (h : f_Mo_isWord a1 a2 a3 a4 a5 σ = some (r, σ')) : Ct l E y_Mo_isWord (wsM y_Mo_isWord b_Mo_isWord 8 (some .boolean)) 1 [.ref (E.2.1 48), .int a1, .int a2, .int a3, .int a4, .int a5] σ (eB r) σ' :=
  ct_of hE (by decide +kernel) (Nat.le_of_ble_eq_true rfl) (fun b => Or.inr (Or.inl ⟨rfl, b, rfl⟩)) (fun X _ g => vB_Mo_isWord_0 g a1 a2 a3 a4 a5 σ) r σ' h
/-! method FittingRingsModel.kindHere()I -/
theorem yv_Mo_kindHere : YV y_Mo_kindHere b_Mo_kindHere 1 (some .int) 0 10 := ⟨m1 1479 (by decide +kernel) (by decide +kernel), m1 63 (by decide +kernel) (by decide +kernel), ini_Mo, m1 1480 (by decide +kernel) (by decide +kernel), ⟨by decide +kernel, by decide +kernel, by decide +kernel⟩, by decide, by decide, T_Mo, 39, rfl⟩
theorem d_Mo_kindHere_0 : decode b_Mo_kindHere 0 = .ok (.aload_n 0, 1) := by decide +kernel
theorem d_Mo_kindHere_1 : decode b_Mo_kindHere 1 = .ok (.bipush 112, 2) := by decide +kernel
theorem d_Mo_kindHere_3 : decode b_Mo_kindHere 3 = .ok (.bipush 111, 2) := by decide +kernel
theorem d_Mo_kindHere_5 : decode b_Mo_kindHere 5 = .ok (.bipush 105, 2) := by decide +kernel
theorem d_Mo_kindHere_7 : decode b_Mo_kindHere 7 = .ok (.bipush 110, 2) := by decide +kernel
theorem d_Mo_kindHere_9 : decode b_Mo_kindHere 9 = .ok (.bipush 116, 2) := by decide +kernel
theorem d_Mo_kindHere_11 : decode b_Mo_kindHere 11 = .ok (.invokevirtual 296, 3) := by decide +kernel
theorem d_Mo_kindHere_14 : decode b_Mo_kindHere 14 = .ok (.ifCond .eq 7, 3) := by decide +kernel
theorem d_Mo_kindHere_17 : decode b_Mo_kindHere 17 = .ok (.iconst 0, 1) := by decide +kernel
theorem d_Mo_kindHere_18 : decode b_Mo_kindHere 18 = .ok (.goto 109, 3) := by decide +kernel
theorem d_Mo_kindHere_21 : decode b_Mo_kindHere 21 = .ok (.aload_n 0, 1) := by decide +kernel
theorem d_Mo_kindHere_22 : decode b_Mo_kindHere 22 = .ok (.bipush 108, 2) := by decide +kernel
theorem d_Mo_kindHere_24 : decode b_Mo_kindHere 24 = .ok (.bipush 111, 2) := by decide +kernel
theorem d_Mo_kindHere_26 : decode b_Mo_kindHere 26 = .ok (.bipush 117, 2) := by decide +kernel
theorem d_Mo_kindHere_28 : decode b_Mo_kindHere 28 = .ok (.bipush 100, 2) := by decide +kernel
theorem d_Mo_kindHere_30 : decode b_Mo_kindHere 30 = .ok (.bipush 32, 2) := by decide +kernel
theorem d_Mo_kindHere_32 : decode b_Mo_kindHere 32 = .ok (.invokevirtual 296, 3) := by decide +kernel
theorem d_Mo_kindHere_35 : decode b_Mo_kindHere 35 = .ok (.ifCond .eq 7, 3) := by decide +kernel
theorem d_Mo_kindHere_38 : decode b_Mo_kindHere 38 = .ok (.iconst 1, 1) := by decide +kernel
theorem d_Mo_kindHere_39 : decode b_Mo_kindHere 39 = .ok (.goto 88, 3) := by decide +kernel
theorem d_Mo_kindHere_42 : decode b_Mo_kindHere 42 = .ok (.aload_n 0, 1) := by decide +kernel
theorem d_Mo_kindHere_43 : decode b_Mo_kindHere 43 = .ok (.bipush 115, 2) := by decide +kernel
theorem d_Mo_kindHere_45 : decode b_Mo_kindHere 45 = .ok (.bipush 104, 2) := by decide +kernel
theorem d_Mo_kindHere_47 : decode b_Mo_kindHere 47 = .ok (.bipush 121, 2) := by decide +kernel
theorem d_Mo_kindHere_49 : decode b_Mo_kindHere 49 = .ok (.bipush 32, 2) := by decide +kernel
theorem d_Mo_kindHere_51 : decode b_Mo_kindHere 51 = .ok (.bipush 32, 2) := by decide +kernel
theorem d_Mo_kindHere_53 : decode b_Mo_kindHere 53 = .ok (.invokevirtual 296, 3) := by decide +kernel
theorem d_Mo_kindHere_56 : decode b_Mo_kindHere 56 = .ok (.ifCond .eq 7, 3) := by decide +kernel
theorem d_Mo_kindHere_59 : decode b_Mo_kindHere 59 = .ok (.iconst 2, 1) := by decide +kernel
theorem d_Mo_kindHere_60 : decode b_Mo_kindHere 60 = .ok (.goto 67, 3) := by decide +kernel
theorem d_Mo_kindHere_63 : decode b_Mo_kindHere 63 = .ok (.aload_n 0, 1) := by decide +kernel
theorem d_Mo_kindHere_64 : decode b_Mo_kindHere 64 = .ok (.bipush 112, 2) := by decide +kernel
theorem d_Mo_kindHere_66 : decode b_Mo_kindHere 66 = .ok (.bipush 114, 2) := by decide +kernel
theorem d_Mo_kindHere_68 : decode b_Mo_kindHere 68 = .ok (.bipush 111, 2) := by decide +kernel
theorem d_Mo_kindHere_70 : decode b_Mo_kindHere 70 = .ok (.bipush 117, 2) := by decide +kernel
theorem d_Mo_kindHere_72 : decode b_Mo_kindHere 72 = .ok (.bipush 100, 2) := by decide +kernel
theorem d_Mo_kindHere_74 : decode b_Mo_kindHere 74 = .ok (.invokevirtual 296, 3) := by decide +kernel
theorem d_Mo_kindHere_77 : decode b_Mo_kindHere 77 = .ok (.ifCond .eq 7, 3) := by decide +kernel
theorem d_Mo_kindHere_80 : decode b_Mo_kindHere 80 = .ok (.iconst 3, 1) := by decide +kernel
theorem d_Mo_kindHere_81 : decode b_Mo_kindHere 81 = .ok (.goto 46, 3) := by decide +kernel
theorem d_Mo_kindHere_84 : decode b_Mo_kindHere 84 = .ok (.aload_n 0, 1) := by decide +kernel
theorem d_Mo_kindHere_85 : decode b_Mo_kindHere 85 = .ok (.bipush 109, 2) := by decide +kernel
theorem d_Mo_kindHere_87 : decode b_Mo_kindHere 87 = .ok (.bipush 101, 2) := by decide +kernel
theorem d_Mo_kindHere_89 : decode b_Mo_kindHere 89 = .ok (.bipush 101, 2) := by decide +kernel
theorem d_Mo_kindHere_91 : decode b_Mo_kindHere 91 = .ok (.bipush 107, 2) := by decide +kernel
theorem d_Mo_kindHere_93 : decode b_Mo_kindHere 93 = .ok (.bipush 32, 2) := by decide +kernel
theorem d_Mo_kindHere_95 : decode b_Mo_kindHere 95 = .ok (.invokevirtual 296, 3) := by decide +kernel
theorem d_Mo_kindHere_98 : decode b_Mo_kindHere 98 = .ok (.ifCond .eq 7, 3) := by decide +kernel
theorem d_Mo_kindHere_101 : decode b_Mo_kindHere 101 = .ok (.iconst 4, 1) := by decide +kernel
theorem d_Mo_kindHere_102 : decode b_Mo_kindHere 102 = .ok (.goto 25, 3) := by decide +kernel
theorem d_Mo_kindHere_105 : decode b_Mo_kindHere 105 = .ok (.aload_n 0, 1) := by decide +kernel
theorem d_Mo_kindHere_106 : decode b_Mo_kindHere 106 = .ok (.bipush 108, 2) := by decide +kernel
theorem d_Mo_kindHere_108 : decode b_Mo_kindHere 108 = .ok (.bipush 111, 2) := by decide +kernel
theorem d_Mo_kindHere_110 : decode b_Mo_kindHere 110 = .ok (.bipush 110, 2) := by decide +kernel
theorem d_Mo_kindHere_112 : decode b_Mo_kindHere 112 = .ok (.bipush 101, 2) := by decide +kernel
theorem d_Mo_kindHere_114 : decode b_Mo_kindHere 114 = .ok (.bipush 32, 2) := by decide +kernel
theorem d_Mo_kindHere_116 : decode b_Mo_kindHere 116 = .ok (.invokevirtual 296, 3) := by decide +kernel
theorem d_Mo_kindHere_119 : decode b_Mo_kindHere 119 = .ok (.ifCond .eq 7, 3) := by decide +kernel
theorem d_Mo_kindHere_122 : decode b_Mo_kindHere 122 = .ok (.iconst 5, 1) := by decide +kernel
theorem d_Mo_kindHere_123 : decode b_Mo_kindHere 123 = .ok (.goto 4, 3) := by decide +kernel
theorem d_Mo_kindHere_126 : decode b_Mo_kindHere 126 = .ok (.iconst (-1), 1) := by decide +kernel
theorem d_Mo_kindHere_127 : decode b_Mo_kindHere 127 = .ok (.ireturn, 1) := by decide +kernel
def B_Mo_kindHere_0 (σ : Sto) : Option (Int32 × Sto) :=
  ((f_Mo_isWord (112 : Int32) (111 : Int32) (105 : Int32) (110 : Int32) (116 : Int32) σ).bind fun q1 => (if (b2i q1.1) = 0 then ((f_Mo_isWord (108 : Int32) (111 : Int32) (117 : Int32) (100 : Int32) (32 : Int32) q1.2).bind fun q2 => (if (b2i q2.1) = 0 then ((f_Mo_isWord (115 : Int32) (104 : Int32) (121 : Int32) (32 : Int32) (32 : Int32) q2.2).bind fun q3 => (if (b2i q3.1) = 0 then ((f_Mo_isWord (112 : Int32) (114 : Int32) (111 : Int32) (117 : Int32) (100 : Int32) q3.2).bind fun q4 => (if (b2i q4.1) = 0 then ((f_Mo_isWord (109 : Int32) (101 : Int32) (101 : Int32) (107 : Int32) (32 : Int32) q4.2).bind fun q5 => (if (b2i q5.1) = 0 then ((f_Mo_isWord (108 : Int32) (111 : Int32) (110 : Int32) (101 : Int32) (32 : Int32) q5.2).bind fun q6 => (if (b2i q6.1) = 0 then some ((-1 : Int32), q6.2)
      else some ((5 : Int32), q6.2)))
     else some ((4 : Int32), q5.2)))
    else some ((3 : Int32), q4.2)))
   else some ((2 : Int32), q3.2)))
  else some ((1 : Int32), q2.2)))
 else some ((0 : Int32), q1.2)))
set_option maxHeartbeats 4000000 in
set_option maxRecDepth 100000 in
theorem vB_Mo_kindHere_0 {X : Xt} {E : En} (g : GG X E 2 b_Mo_kindHere R_Mo 1) (σ : Sto) : VV X E b_Mo_kindHere 1 eI 0 [(0, .ref (E.2.1 48))] [] σ (B_Mo_kindHere_0 σ) := by
  unfold B_Mo_kindHere_0
  refine v_aload_n 0 g d_Mo_kindHere_0 rfl ?_
  refine v_bipush (v := (112 : Int32)) g d_Mo_kindHere_1 (by decide +kernel) ?_
  refine v_bipush (v := (111 : Int32)) g d_Mo_kindHere_3 (by decide +kernel) ?_
  refine v_bipush (v := (105 : Int32)) g d_Mo_kindHere_5 (by decide +kernel) ?_
  refine v_bipush (v := (110 : Int32)) g d_Mo_kindHere_7 (by decide +kernel) ?_
  refine v_bipush (v := (116 : Int32)) g d_Mo_kindHere_9 (by decide +kernel) ?_
  refine v_callB (r_V (rest := []) [.int (112 : Int32), .int (111 : Int32), .int (105 : Int32), .int (110 : Int32), .int (116 : Int32)] g (m1 1469 (by decide +kernel) (by decide +kernel)) yv_Mo_isWord rfl (fun r σ1 h => sp_Mo_isWord g.2.2.1  h) rfl rfl (by decide) (Nat.le_of_ble_eq_true rfl) d_Mo_kindHere_11) (fun q1 => ?_)
  refine v_if_eq 21 g d_Mo_kindHere_14 (by decide) (fun _ => ?_) (fun _ => ?_)
  · refine v_aload_n 0 g d_Mo_kindHere_21 rfl ?_
    refine v_bipush (v := (108 : Int32)) g d_Mo_kindHere_22 (by decide +kernel) ?_
    refine v_bipush (v := (111 : Int32)) g d_Mo_kindHere_24 (by decide +kernel) ?_
    refine v_bipush (v := (117 : Int32)) g d_Mo_kindHere_26 (by decide +kernel) ?_
    refine v_bipush (v := (100 : Int32)) g d_Mo_kindHere_28 (by decide +kernel) ?_
    refine v_bipush (v := (32 : Int32)) g d_Mo_kindHere_30 (by decide +kernel) ?_
    refine v_callB (r_V (rest := []) [.int (108 : Int32), .int (111 : Int32), .int (117 : Int32), .int (100 : Int32), .int (32 : Int32)] g (m1 1469 (by decide +kernel) (by decide +kernel)) yv_Mo_isWord rfl (fun r σ1 h => sp_Mo_isWord g.2.2.1  h) rfl rfl (by decide) (Nat.le_of_ble_eq_true rfl) d_Mo_kindHere_32) (fun q2 => ?_)
    refine v_if_eq 42 g d_Mo_kindHere_35 (by decide) (fun _ => ?_) (fun _ => ?_)
    · refine v_aload_n 0 g d_Mo_kindHere_42 rfl ?_
      refine v_bipush (v := (115 : Int32)) g d_Mo_kindHere_43 (by decide +kernel) ?_
      refine v_bipush (v := (104 : Int32)) g d_Mo_kindHere_45 (by decide +kernel) ?_
      refine v_bipush (v := (121 : Int32)) g d_Mo_kindHere_47 (by decide +kernel) ?_
      refine v_bipush (v := (32 : Int32)) g d_Mo_kindHere_49 (by decide +kernel) ?_
      refine v_bipush (v := (32 : Int32)) g d_Mo_kindHere_51 (by decide +kernel) ?_
      refine v_callB (r_V (rest := []) [.int (115 : Int32), .int (104 : Int32), .int (121 : Int32), .int (32 : Int32), .int (32 : Int32)] g (m1 1469 (by decide +kernel) (by decide +kernel)) yv_Mo_isWord rfl (fun r σ1 h => sp_Mo_isWord g.2.2.1  h) rfl rfl (by decide) (Nat.le_of_ble_eq_true rfl) d_Mo_kindHere_53) (fun q3 => ?_)
      refine v_if_eq 63 g d_Mo_kindHere_56 (by decide) (fun _ => ?_) (fun _ => ?_)
      · refine v_aload_n 0 g d_Mo_kindHere_63 rfl ?_
        refine v_bipush (v := (112 : Int32)) g d_Mo_kindHere_64 (by decide +kernel) ?_
        refine v_bipush (v := (114 : Int32)) g d_Mo_kindHere_66 (by decide +kernel) ?_
        refine v_bipush (v := (111 : Int32)) g d_Mo_kindHere_68 (by decide +kernel) ?_
        refine v_bipush (v := (117 : Int32)) g d_Mo_kindHere_70 (by decide +kernel) ?_
        refine v_bipush (v := (100 : Int32)) g d_Mo_kindHere_72 (by decide +kernel) ?_
        refine v_callB (r_V (rest := []) [.int (112 : Int32), .int (114 : Int32), .int (111 : Int32), .int (117 : Int32), .int (100 : Int32)] g (m1 1469 (by decide +kernel) (by decide +kernel)) yv_Mo_isWord rfl (fun r σ1 h => sp_Mo_isWord g.2.2.1  h) rfl rfl (by decide) (Nat.le_of_ble_eq_true rfl) d_Mo_kindHere_74) (fun q4 => ?_)
        refine v_if_eq 84 g d_Mo_kindHere_77 (by decide) (fun _ => ?_) (fun _ => ?_)
        · refine v_aload_n 0 g d_Mo_kindHere_84 rfl ?_
          refine v_bipush (v := (109 : Int32)) g d_Mo_kindHere_85 (by decide +kernel) ?_
          refine v_bipush (v := (101 : Int32)) g d_Mo_kindHere_87 (by decide +kernel) ?_
          refine v_bipush (v := (101 : Int32)) g d_Mo_kindHere_89 (by decide +kernel) ?_
          refine v_bipush (v := (107 : Int32)) g d_Mo_kindHere_91 (by decide +kernel) ?_
          refine v_bipush (v := (32 : Int32)) g d_Mo_kindHere_93 (by decide +kernel) ?_
          refine v_callB (r_V (rest := []) [.int (109 : Int32), .int (101 : Int32), .int (101 : Int32), .int (107 : Int32), .int (32 : Int32)] g (m1 1469 (by decide +kernel) (by decide +kernel)) yv_Mo_isWord rfl (fun r σ1 h => sp_Mo_isWord g.2.2.1  h) rfl rfl (by decide) (Nat.le_of_ble_eq_true rfl) d_Mo_kindHere_95) (fun q5 => ?_)
          refine v_if_eq 105 g d_Mo_kindHere_98 (by decide) (fun _ => ?_) (fun _ => ?_)
          · refine v_aload_n 0 g d_Mo_kindHere_105 rfl ?_
            refine v_bipush (v := (108 : Int32)) g d_Mo_kindHere_106 (by decide +kernel) ?_
            refine v_bipush (v := (111 : Int32)) g d_Mo_kindHere_108 (by decide +kernel) ?_
            refine v_bipush (v := (110 : Int32)) g d_Mo_kindHere_110 (by decide +kernel) ?_
            refine v_bipush (v := (101 : Int32)) g d_Mo_kindHere_112 (by decide +kernel) ?_
            refine v_bipush (v := (32 : Int32)) g d_Mo_kindHere_114 (by decide +kernel) ?_
            refine v_callB (r_V (rest := []) [.int (108 : Int32), .int (111 : Int32), .int (110 : Int32), .int (101 : Int32), .int (32 : Int32)] g (m1 1469 (by decide +kernel) (by decide +kernel)) yv_Mo_isWord rfl (fun r σ1 h => sp_Mo_isWord g.2.2.1  h) rfl rfl (by decide) (Nat.le_of_ble_eq_true rfl) d_Mo_kindHere_116) (fun q6 => ?_)
            refine v_if_eq 126 g d_Mo_kindHere_119 (by decide) (fun _ => ?_) (fun _ => ?_)
            · refine v_iconst (v := (-1 : Int32)) g d_Mo_kindHere_126 (by decide +kernel) ?_
              exact v_ret d_Mo_kindHere_127 rfl
            · refine v_iconst (v := (5 : Int32)) g d_Mo_kindHere_122 (by decide +kernel) ?_
              refine v_goto 127 g d_Mo_kindHere_123 (by decide) ?_
              exact v_ret d_Mo_kindHere_127 rfl
          · refine v_iconst (v := (4 : Int32)) g d_Mo_kindHere_101 (by decide +kernel) ?_
            refine v_goto 127 g d_Mo_kindHere_102 (by decide) ?_
            exact v_ret d_Mo_kindHere_127 rfl
        · refine v_iconst (v := (3 : Int32)) g d_Mo_kindHere_80 (by decide +kernel) ?_
          refine v_goto 127 g d_Mo_kindHere_81 (by decide) ?_
          exact v_ret d_Mo_kindHere_127 rfl
      · refine v_iconst (v := (2 : Int32)) g d_Mo_kindHere_59 (by decide +kernel) ?_
        refine v_goto 127 g d_Mo_kindHere_60 (by decide) ?_
        exact v_ret d_Mo_kindHere_127 rfl
    · refine v_iconst (v := (1 : Int32)) g d_Mo_kindHere_38 (by decide +kernel) ?_
      refine v_goto 127 g d_Mo_kindHere_39 (by decide) ?_
      exact v_ret d_Mo_kindHere_127 rfl
  · refine v_iconst (v := (0 : Int32)) g d_Mo_kindHere_17 (by decide +kernel) ?_
    refine v_goto 127 g d_Mo_kindHere_18 (by decide) ?_
    exact v_ret d_Mo_kindHere_127 rfl
def f_Mo_kindHere (σ : Sto) : Option (Int32 × Sto) := B_Mo_kindHere_0 σ
theorem sp_Mo_kindHere {l : Launch} {E : En} (hE : Dj E) {σ : Sto} {r : Int32} {σ' : Sto} (h : f_Mo_kindHere σ = some (r, σ')) : Ct l E y_Mo_kindHere (wsM y_Mo_kindHere b_Mo_kindHere 1 (some .int)) 2 [.ref (E.2.1 48)] σ (eI r) σ' :=
  ct_of hE (by decide +kernel) (Nat.le_of_ble_eq_true rfl) (fun x => Or.inl ⟨rfl, x, rfl⟩) (fun X _ g => vB_Mo_kindHere_0 g σ) r σ' h
