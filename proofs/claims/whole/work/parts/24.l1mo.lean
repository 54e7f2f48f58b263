theorem ff_Mo_330 : FF R_Mo 330 10 32 := ⟨R_Mo, T_Mo, 39, rfl, in_Mo, by decide, rfl, by decide, m1 1076 (by decide +kernel) (by decide +kernel)⟩
theorem ff_Mo_53 : FF R_Mo 53 10 29 := ⟨R_Mo, T_Mo, 39, rfl, in_Mo, by decide, rfl, by decide, m1 1073 (by decide +kernel) (by decide +kernel)⟩
theorem ff_Mo_56 : FF R_Mo 56 10 30 := ⟨R_Mo, T_Mo, 39, rfl, in_Mo, by decide, rfl, by decide, m1 1074 (by decide +kernel) (by decide +kernel)⟩
theorem ff_Mo_59 : FF R_Mo 59 10 31 := ⟨R_Mo, T_Mo, 39, rfl, in_Mo, by decide, rfl, by decide, m1 1075 (by decide +kernel) (by decide +kernel)⟩
theorem ff_Mo_62 : FF R_Mo 62 10 33 := ⟨R_Mo, T_Mo, 39, rfl, in_Mo, by decide, rfl, by decide, m1 1077 (by decide +kernel) (by decide +kernel)⟩
theorem ff_Mo_65 : FF R_Mo 65 10 34 := ⟨R_Mo, T_Mo, 39, rfl, in_Mo, by decide, rfl, by decide, m1 1078 (by decide +kernel) (by decide +kernel)⟩
theorem ff_Mo_68 : FF R_Mo 68 10 35 := ⟨R_Mo, T_Mo, 39, rfl, in_Mo, by decide, rfl, by decide, m1 1079 (by decide +kernel) (by decide +kernel)⟩
theorem fp_Mo_330 : FP R_Mo 330 10 32 (.int) := ⟨R_Mo, T_Mo, 39, rfl, in_Mo, by decide, rfl, by decide, m1 1076 (by decide +kernel) (by decide +kernel), ⟨ty_Mo, tyok_Mo⟩, nm_Mo, rfl, by decide +kernel⟩
/-! method FittingRingsModel.deedHere()I -/
theorem yv_Mo_deedHere : YV y_Mo_deedHere b_Mo_deedHere 1 (some .int) 0 10 := ⟨m1 1467 (by decide +kernel) (by decide +kernel), m1 60 (by decide +kernel) (by decide +kernel), ini_Mo, m1 1468 (by decide +kernel) (by decide +kernel), ⟨by decide +kernel, by decide +kernel, by decide +kernel⟩, by decide, by decide, T_Mo, 39, rfl⟩
theorem d_Mo_deedHere_0 : decode b_Mo_deedHere 0 = .ok (.aload_n 0, 1) := by decide +kernel
theorem d_Mo_deedHere_1 : decode b_Mo_deedHere 1 = .ok (.bipush 106, 2) := by decide +kernel
theorem d_Mo_deedHere_3 : decode b_Mo_deedHere 3 = .ok (.bipush 111, 2) := by decide +kernel
theorem d_Mo_deedHere_5 : decode b_Mo_deedHere 5 = .ok (.bipush 105, 2) := by decide +kernel
theorem d_Mo_deedHere_7 : decode b_Mo_deedHere 7 = .ok (.bipush 110, 2) := by decide +kernel
theorem d_Mo_deedHere_9 : decode b_Mo_deedHere 9 = .ok (.bipush 32, 2) := by decide +kernel
theorem d_Mo_deedHere_11 : decode b_Mo_deedHere 11 = .ok (.invokevirtual 296, 3) := by decide +kernel
theorem d_Mo_deedHere_14 : decode b_Mo_deedHere 14 = .ok (.ifCond .eq 7, 3) := by decide +kernel
theorem d_Mo_deedHere_17 : decode b_Mo_deedHere 17 = .ok (.iconst 0, 1) := by decide +kernel
theorem d_Mo_deedHere_18 : decode b_Mo_deedHere 18 = .ok (.goto 88, 3) := by decide +kernel
theorem d_Mo_deedHere_21 : decode b_Mo_deedHere 21 = .ok (.aload_n 0, 1) := by decide +kernel
theorem d_Mo_deedHere_22 : decode b_Mo_deedHere 22 = .ok (.bipush 99, 2) := by decide +kernel
theorem d_Mo_deedHere_24 : decode b_Mo_deedHere 24 = .ok (.bipush 117, 2) := by decide +kernel
theorem d_Mo_deedHere_26 : decode b_Mo_deedHere 26 = .ok (.bipush 116, 2) := by decide +kernel
theorem d_Mo_deedHere_28 : decode b_Mo_deedHere 28 = .ok (.bipush 32, 2) := by decide +kernel
theorem d_Mo_deedHere_30 : decode b_Mo_deedHere 30 = .ok (.bipush 32, 2) := by decide +kernel
theorem d_Mo_deedHere_32 : decode b_Mo_deedHere 32 = .ok (.invokevirtual 296, 3) := by decide +kernel
theorem d_Mo_deedHere_35 : decode b_Mo_deedHere 35 = .ok (.ifCond .eq 7, 3) := by decide +kernel
theorem d_Mo_deedHere_38 : decode b_Mo_deedHere 38 = .ok (.iconst 1, 1) := by decide +kernel
theorem d_Mo_deedHere_39 : decode b_Mo_deedHere 39 = .ok (.goto 67, 3) := by decide +kernel
theorem d_Mo_deedHere_42 : decode b_Mo_deedHere 42 = .ok (.aload_n 0, 1) := by decide +kernel
theorem d_Mo_deedHere_43 : decode b_Mo_deedHere 43 = .ok (.bipush 97, 2) := by decide +kernel
theorem d_Mo_deedHere_45 : decode b_Mo_deedHere 45 = .ok (.bipush 108, 2) := by decide +kernel
theorem d_Mo_deedHere_47 : decode b_Mo_deedHere 47 = .ok (.bipush 108, 2) := by decide +kernel
theorem d_Mo_deedHere_49 : decode b_Mo_deedHere 49 = .ok (.bipush 32, 2) := by decide +kernel
theorem d_Mo_deedHere_51 : decode b_Mo_deedHere 51 = .ok (.bipush 32, 2) := by decide +kernel
theorem d_Mo_deedHere_53 : decode b_Mo_deedHere 53 = .ok (.invokevirtual 296, 3) := by decide +kernel
theorem d_Mo_deedHere_56 : decode b_Mo_deedHere 56 = .ok (.ifCond .eq 7, 3) := by decide +kernel
theorem d_Mo_deedHere_59 : decode b_Mo_deedHere 59 = .ok (.iconst 2, 1) := by decide +kernel
theorem d_Mo_deedHere_60 : decode b_Mo_deedHere 60 = .ok (.goto 46, 3) := by decide +kernel
theorem d_Mo_deedHere_63 : decode b_Mo_deedHere 63 = .ok (.aload_n 0, 1) := by decide +kernel
theorem d_Mo_deedHere_64 : decode b_Mo_deedHere 64 = .ok (.bipush 114, 2) := by decide +kernel
theorem d_Mo_deedHere_66 : decode b_Mo_deedHere 66 = .ok (.bipush 105, 2) := by decide +kernel
theorem d_Mo_deedHere_68 : decode b_Mo_deedHere 68 = .ok (.bipush 110, 2) := by decide +kernel
theorem d_Mo_deedHere_70 : decode b_Mo_deedHere 70 = .ok (.bipush 103, 2) := by decide +kernel
theorem d_Mo_deedHere_72 : decode b_Mo_deedHere 72 = .ok (.bipush 32, 2) := by decide +kernel
theorem d_Mo_deedHere_74 : decode b_Mo_deedHere 74 = .ok (.invokevirtual 296, 3) := by decide +kernel
theorem d_Mo_deedHere_77 : decode b_Mo_deedHere 77 = .ok (.ifCond .eq 7, 3) := by decide +kernel
theorem d_Mo_deedHere_80 : decode b_Mo_deedHere 80 = .ok (.iconst 3, 1) := by decide +kernel
theorem d_Mo_deedHere_81 : decode b_Mo_deedHere 81 = .ok (.goto 25, 3) := by decide +kernel
theorem d_Mo_deedHere_84 : decode b_Mo_deedHere 84 = .ok (.aload_n 0, 1) := by decide +kernel
theorem d_Mo_deedHere_85 : decode b_Mo_deedHere 85 = .ok (.bipush 102, 2) := by decide +kernel
theorem d_Mo_deedHere_87 : decode b_Mo_deedHere 87 = .ok (.bipush 108, 2) := by decide +kernel
theorem d_Mo_deedHere_89 : decode b_Mo_deedHere 89 = .ok (.bipush 105, 2) := by decide +kernel
theorem d_Mo_deedHere_91 : decode b_Mo_deedHere 91 = .ok (.bipush 112, 2) := by decide +kernel
theorem d_Mo_deedHere_93 : decode b_Mo_deedHere 93 = .ok (.bipush 32, 2) := by decide +kernel
theorem d_Mo_deedHere_95 : decode b_Mo_deedHere 95 = .ok (.invokevirtual 296, 3) := by decide +kernel
theorem d_Mo_deedHere_98 : decode b_Mo_deedHere 98 = .ok (.ifCond .eq 7, 3) := by decide +kernel
theorem d_Mo_deedHere_101 : decode b_Mo_deedHere 101 = .ok (.iconst 4, 1) := by decide +kernel
theorem d_Mo_deedHere_102 : decode b_Mo_deedHere 102 = .ok (.goto 4, 3) := by decide +kernel
theorem d_Mo_deedHere_105 : decode b_Mo_deedHere 105 = .ok (.iconst (-1), 1) := by decide +kernel
theorem d_Mo_deedHere_106 : decode b_Mo_deedHere 106 = .ok (.ireturn, 1) := by decide +kernel
def B_Mo_deedHere_0 (σ : Sto) : Option (Int32 × Sto) :=
  ((f_Mo_isWord (106 : Int32) (111 : Int32) (105 : Int32) (110 : Int32) (32 : Int32) σ).bind fun q1 => (if (b2i q1.1) = 0 then ((f_Mo_isWord (99 : Int32) (117 : Int32) (116 : Int32) (32 : Int32) (32 : Int32) q1.2).bind fun q2 => (if (b2i q2.1) = 0 then ((f_Mo_isWord (97 : Int32) (108 : Int32) (108 : Int32) (32 : Int32) (32 : Int32) q2.2).bind fun q3 => (if (b2i q3.1) = 0 then ((f_Mo_isWord (114 : Int32) (105 : Int32) (110 : Int32) (103 : Int32) (32 : Int32) q3.2).bind fun q4 => (if (b2i q4.1) = 0 then ((f_Mo_isWord (102 : Int32) (108 : Int32) (105 : Int32) (112 : Int32) (32 : Int32) q4.2).bind fun q5 => (if (b2i q5.1) = 0 then some ((-1 : Int32), q5.2)
     else some ((4 : Int32), q5.2)))
    else some ((3 : Int32), q4.2)))
   else some ((2 : Int32), q3.2)))
  else some ((1 : Int32), q2.2)))
 else some ((0 : Int32), q1.2)))
set_option maxHeartbeats 4000000 in
set_option maxRecDepth 100000 in
theorem vB_Mo_deedHere_0 {X : Xt} {E : En} (g : GG X E 2 b_Mo_deedHere R_Mo 1) (σ : Sto) : VV X E b_Mo_deedHere 1 eI 0 [(0, .ref (E.2.1 48))] [] σ (B_Mo_deedHere_0 σ) := by
  unfold B_Mo_deedHere_0
  refine v_aload_n 0 g d_Mo_deedHere_0 rfl ?_
  refine v_bipush (v := (106 : Int32)) g d_Mo_deedHere_1 (by decide +kernel) ?_
  refine v_bipush (v := (111 : Int32)) g d_Mo_deedHere_3 (by decide +kernel) ?_
  refine v_bipush (v := (105 : Int32)) g d_Mo_deedHere_5 (by decide +kernel) ?_
  refine v_bipush (v := (110 : Int32)) g d_Mo_deedHere_7 (by decide +kernel) ?_
  refine v_bipush (v := (32 : Int32)) g d_Mo_deedHere_9 (by decide +kernel) ?_
  refine v_callB (r_V (rest := []) [.int (106 : Int32), .int (111 : Int32), .int (105 : Int32), .int (110 : Int32), .int (32 : Int32)] g (m1 1469 (by decide +kernel) (by decide +kernel)) yv_Mo_isWord rfl (fun r σ1 h => sp_Mo_isWord g.2.2.1  h) rfl rfl (by decide) (Nat.le_of_ble_eq_true rfl) d_Mo_deedHere_11) (fun q1 => ?_)
  refine v_if_eq 21 g d_Mo_deedHere_14 (by decide) (fun _ => ?_) (fun _ => ?_)
  · refine v_aload_n 0 g d_Mo_deedHere_21 rfl ?_
    refine v_bipush (v := (99 : Int32)) g d_Mo_deedHere_22 (by decide +kernel) ?_
    refine v_bipush (v := (117 : Int32)) g d_Mo_deedHere_24 (by decide +kernel) ?_
    refine v_bipush (v := (116 : Int32)) g d_Mo_deedHere_26 (by decide +kernel) ?_
    refine v_bipush (v := (32 : Int32)) g d_Mo_deedHere_28 (by decide +kernel) ?_
    refine v_bipush (v := (32 : Int32)) g d_Mo_deedHere_30 (by decide +kernel) ?_
    refine v_callB (r_V (rest := []) [.int (99 : Int32), .int (117 : Int32), .int (116 : Int32), .int (32 : Int32), .int (32 : Int32)] g (m1 1469 (by decide +kernel) (by decide +kernel)) yv_Mo_isWord rfl (fun r σ1 h => sp_Mo_isWord g.2.2.1  h) rfl rfl (by decide) (Nat.le_of_ble_eq_true rfl) d_Mo_deedHere_32) (fun q2 => ?_)
    refine v_if_eq 42 g d_Mo_deedHere_35 (by decide) (fun _ => ?_) (fun _ => ?_)
    · refine v_aload_n 0 g d_Mo_deedHere_42 rfl ?_
      refine v_bipush (v := (97 : Int32)) g d_Mo_deedHere_43 (by decide +kernel) ?_
      refine v_bipush (v := (108 : Int32)) g d_Mo_deedHere_45 (by decide +kernel) ?_
      refine v_bipush (v := (108 : Int32)) g d_Mo_deedHere_47 (by decide +kernel) ?_
      refine v_bipush (v := (32 : Int32)) g d_Mo_deedHere_49 (by decide +kernel) ?_
      refine v_bipush (v := (32 : Int32)) g d_Mo_deedHere_51 (by decide +kernel) ?_
      refine v_callB (r_V (rest := []) [.int (97 : Int32), .int (108 : Int32), .int (108 : Int32), .int (32 : Int32), .int (32 : Int32)] g (m1 1469 (by decide +kernel) (by decide +kernel)) yv_Mo_isWord rfl (fun r σ1 h => sp_Mo_isWord g.2.2.1  h) rfl rfl (by decide) (Nat.le_of_ble_eq_true rfl) d_Mo_deedHere_53) (fun q3 => ?_)
      refine v_if_eq 63 g d_Mo_deedHere_56 (by decide) (fun _ => ?_) (fun _ => ?_)
      · refine v_aload_n 0 g d_Mo_deedHere_63 rfl ?_
        refine v_bipush (v := (114 : Int32)) g d_Mo_deedHere_64 (by decide +kernel) ?_
        refine v_bipush (v := (105 : Int32)) g d_Mo_deedHere_66 (by decide +kernel) ?_
        refine v_bipush (v := (110 : Int32)) g d_Mo_deedHere_68 (by decide +kernel) ?_
        refine v_bipush (v := (103 : Int32)) g d_Mo_deedHere_70 (by decide +kernel) ?_
        refine v_bipush (v := (32 : Int32)) g d_Mo_deedHere_72 (by decide +kernel) ?_
        refine v_callB (r_V (rest := []) [.int (114 : Int32), .int (105 : Int32), .int (110 : Int32), .int (103 : Int32), .int (32 : Int32)] g (m1 1469 (by decide +kernel) (by decide +kernel)) yv_Mo_isWord rfl (fun r σ1 h => sp_Mo_isWord g.2.2.1  h) rfl rfl (by decide) (Nat.le_of_ble_eq_true rfl) d_Mo_deedHere_74) (fun q4 => ?_)
        refine v_if_eq 84 g d_Mo_deedHere_77 (by decide) (fun _ => ?_) (fun _ => ?_)
        · refine v_aload_n 0 g d_Mo_deedHere_84 rfl ?_
          refine v_bipush (v := (102 : Int32)) g d_Mo_deedHere_85 (by decide +kernel) ?_
          refine v_bipush (v := (108 : Int32)) g d_Mo_deedHere_87 (by decide +kernel) ?_
          refine v_bipush (v := (105 : Int32)) g d_Mo_deedHere_89 (by decide +kernel) ?_
          refine v_bipush (v := (112 : Int32)) g d_Mo_deedHere_91 (by decide +kernel) ?_
          refine v_bipush (v := (32 : Int32)) g d_Mo_deedHere_93 (by decide +kernel) ?_
          refine v_callB (r_V (rest := []) [.int (102 : Int32), .int (108 : Int32), .int (105 : Int32), .int (112 : Int32), .int (32 : Int32)] g (m1 1469 (by decide +kernel) (by decide +kernel)) yv_Mo_isWord rfl (fun r σ1 h => sp_Mo_isWord g.2.2.1  h) rfl rfl (by decide) (Nat.le_of_ble_eq_true rfl) d_Mo_deedHere_95) (fun q5 => ?_)
          refine v_if_eq 105 g d_Mo_deedHere_98 (by decide) (fun _ => ?_) (fun _ => ?_)
          · refine v_iconst (v := (-1 : Int32)) g d_Mo_deedHere_105 (by decide +kernel) ?_
            exact v_ret d_Mo_deedHere_106 rfl
          · refine v_iconst (v := (4 : Int32)) g d_Mo_deedHere_101 (by decide +kernel) ?_
            refine v_goto 106 g d_Mo_deedHere_102 (by decide) ?_
            exact v_ret d_Mo_deedHere_106 rfl
        · refine v_iconst (v := (3 : Int32)) g d_Mo_deedHere_80 (by decide +kernel) ?_
          refine v_goto 106 g d_Mo_deedHere_81 (by decide) ?_
          exact v_ret d_Mo_deedHere_106 rfl
      · refine v_iconst (v := (2 : Int32)) g d_Mo_deedHere_59 (by decide +kernel) ?_
        refine v_goto 106 g d_Mo_deedHere_60 (by decide) ?_
        exact v_ret d_Mo_deedHere_106 rfl
    · refine v_iconst (v := (1 : Int32)) g d_Mo_deedHere_38 (by decide +kernel) ?_
      refine v_goto 106 g d_Mo_deedHere_39 (by decide) ?_
      exact v_ret d_Mo_deedHere_106 rfl
  · refine v_iconst (v := (0 : Int32)) g d_Mo_deedHere_17 (by decide +kernel) ?_
    refine v_goto 106 g d_Mo_deedHere_18 (by decide) ?_
    exact v_ret d_Mo_deedHere_106 rfl
def f_Mo_deedHere (σ : Sto) : Option (Int32 × Sto) := B_Mo_deedHere_0 σ
theorem sp_Mo_deedHere {l : Launch} {E : En} (hE : Dj E) {σ : Sto} {r : Int32} {σ' : Sto} (h : f_Mo_deedHere σ = some (r, σ')) : Ct l E y_Mo_deedHere (wsM y_Mo_deedHere b_Mo_deedHere 1 (some .int)) 2 [.ref (E.2.1 48)] σ (eI r) σ' :=
  ct_of hE (by decide +kernel) (Nat.le_of_ble_eq_true rfl) (fun x => Or.inl ⟨rfl, x, rfl⟩) (fun X _ g => vB_Mo_deedHere_0 g σ) r σ' h
/-! method FittingRingsModel.readsPoint()Z -/
theorem yv_Mo_readsPoint : YV y_Mo_readsPoint b_Mo_readsPoint 3 (some .boolean) 0 10 := ⟨m1 1475 (by decide +kernel) (by decide +kernel), m1 62 (by decide +kernel) (by decide +kernel), ini_Mo, m1 1476 (by decide +kernel) (by decide +kernel), ⟨by decide +kernel, by decide +kernel, by decide +kernel⟩, by decide, by decide, T_Mo, 39, rfl⟩
theorem d_Mo_readsPoint_0 : decode b_Mo_readsPoint 0 = .ok (.aload_n 0, 1) := by decide +kernel
theorem d_Mo_readsPoint_1 : decode b_Mo_readsPoint 1 = .ok (.invokevirtual 300, 3) := by decide +kernel
theorem d_Mo_readsPoint_4 : decode b_Mo_readsPoint 4 = .ok (.ifCond .ne 12, 3) := by decide +kernel
theorem d_Mo_readsPoint_7 : decode b_Mo_readsPoint 7 = .ok (.aload_n 0, 1) := by decide +kernel
theorem d_Mo_readsPoint_8 : decode b_Mo_readsPoint 8 = .ok (.getfield 80, 3) := by decide +kernel
theorem d_Mo_readsPoint_11 : decode b_Mo_readsPoint 11 = .ok (.bipush 40, 2) := by decide +kernel
theorem d_Mo_readsPoint_13 : decode b_Mo_readsPoint 13 = .ok (.if_icmp .ne 5, 3) := by decide +kernel
theorem d_Mo_readsPoint_16 : decode b_Mo_readsPoint 16 = .ok (.iconst 0, 1) := by decide +kernel
theorem d_Mo_readsPoint_17 : decode b_Mo_readsPoint 17 = .ok (.ireturn, 1) := by decide +kernel
theorem d_Mo_readsPoint_18 : decode b_Mo_readsPoint 18 = .ok (.aload_n 0, 1) := by decide +kernel
theorem d_Mo_readsPoint_19 : decode b_Mo_readsPoint 19 = .ok (.invokevirtual 304, 3) := by decide +kernel
theorem d_Mo_readsPoint_22 : decode b_Mo_readsPoint 22 = .ok (.aload_n 0, 1) := by decide +kernel
theorem d_Mo_readsPoint_23 : decode b_Mo_readsPoint 23 = .ok (.invokevirtual 300, 3) := by decide +kernel
theorem d_Mo_readsPoint_26 : decode b_Mo_readsPoint 26 = .ok (.istore_n 1, 1) := by decide +kernel
theorem d_Mo_readsPoint_27 : decode b_Mo_readsPoint 27 = .ok (.iload_n 1, 1) := by decide +kernel
theorem d_Mo_readsPoint_28 : decode b_Mo_readsPoint 28 = .ok (.ifCond .ge 5, 3) := by decide +kernel
theorem d_Mo_readsPoint_31 : decode b_Mo_readsPoint 31 = .ok (.iconst 0, 1) := by decide +kernel
theorem d_Mo_readsPoint_32 : decode b_Mo_readsPoint 32 = .ok (.ireturn, 1) := by decide +kernel
theorem d_Mo_readsPoint_33 : decode b_Mo_readsPoint 33 = .ok (.aload_n 0, 1) := by decide +kernel
theorem d_Mo_readsPoint_34 : decode b_Mo_readsPoint 34 = .ok (.invokevirtual 304, 3) := by decide +kernel
theorem d_Mo_readsPoint_37 : decode b_Mo_readsPoint 37 = .ok (.aload_n 0, 1) := by decide +kernel
theorem d_Mo_readsPoint_38 : decode b_Mo_readsPoint 38 = .ok (.getfield 290, 3) := by decide +kernel
theorem d_Mo_readsPoint_41 : decode b_Mo_readsPoint 41 = .ok (.iconst 2, 1) := by decide +kernel
theorem d_Mo_readsPoint_42 : decode b_Mo_readsPoint 42 = .ok (.if_icmp .ne 12, 3) := by decide +kernel
theorem d_Mo_readsPoint_45 : decode b_Mo_readsPoint 45 = .ok (.aload_n 0, 1) := by decide +kernel
theorem d_Mo_readsPoint_46 : decode b_Mo_readsPoint 46 = .ok (.getfield 293, 3) := by decide +kernel
theorem d_Mo_readsPoint_49 : decode b_Mo_readsPoint 49 = .ok (.bipush 99, 2) := by decide +kernel
theorem d_Mo_readsPoint_51 : decode b_Mo_readsPoint 51 = .ok (.if_icmp .le 5, 3) := by decide +kernel
theorem d_Mo_readsPoint_54 : decode b_Mo_readsPoint 54 = .ok (.iconst 0, 1) := by decide +kernel
theorem d_Mo_readsPoint_55 : decode b_Mo_readsPoint 55 = .ok (.ireturn, 1) := by decide +kernel
theorem d_Mo_readsPoint_56 : decode b_Mo_readsPoint 56 = .ok (.aload_n 0, 1) := by decide +kernel
theorem d_Mo_readsPoint_57 : decode b_Mo_readsPoint 57 = .ok (.iload_n 1, 1) := by decide +kernel
theorem d_Mo_readsPoint_58 : decode b_Mo_readsPoint 58 = .ok (.aload_n 0, 1) := by decide +kernel
theorem d_Mo_readsPoint_59 : decode b_Mo_readsPoint 59 = .ok (.getfield 293, 3) := by decide +kernel
theorem d_Mo_readsPoint_62 : decode b_Mo_readsPoint 62 = .ok (.invokevirtual 92, 3) := by decide +kernel
theorem d_Mo_readsPoint_65 : decode b_Mo_readsPoint 65 = .ok (.istore_n 2, 1) := by decide +kernel
theorem d_Mo_readsPoint_66 : decode b_Mo_readsPoint 66 = .ok (.aload_n 0, 1) := by decide +kernel
theorem d_Mo_readsPoint_67 : decode b_Mo_readsPoint 67 = .ok (.invokevirtual 304, 3) := by decide +kernel
theorem d_Mo_readsPoint_70 : decode b_Mo_readsPoint 70 = .ok (.iload_n 2, 1) := by decide +kernel
theorem d_Mo_readsPoint_71 : decode b_Mo_readsPoint 71 = .ok (.ifCond .lt 7, 3) := by decide +kernel
theorem d_Mo_readsPoint_74 : decode b_Mo_readsPoint 74 = .ok (.iconst 1, 1) := by decide +kernel
theorem d_Mo_readsPoint_75 : decode b_Mo_readsPoint 75 = .ok (.goto 4, 3) := by decide +kernel
theorem d_Mo_readsPoint_78 : decode b_Mo_readsPoint 78 = .ok (.iconst 0, 1) := by decide +kernel
theorem d_Mo_readsPoint_79 : decode b_Mo_readsPoint 79 = .ok (.ireturn, 1) := by decide +kernel
def B_Mo_readsPoint_0 (σ : Sto) : Option (Bool × Sto) :=
  ((f_Mo_kindHere  σ).bind fun q1 => (if q1.1 = 0 then (if (gI q1.2 48 0) = (40 : Int32) then some (false, q1.2)
  else ((f_Mo_next  q1.2).bind fun q2 => ((f_Mo_kindHere  q2.2).bind fun q3 => (if 0 ≤ q3.1 then ((f_Mo_next  q3.2).bind fun q4 => (if (gI q4.2 48 25) = (2 : Int32) then (if (gI q4.2 48 28) ≤ (99 : Int32) then ((f_Mo_comes q3.1 (gI q4.2 48 28) q4.2).bind fun q5 => ((f_Mo_next  q5.2).bind fun q6 => (if q5.1 < 0 then some (false, q6.2)
      else some (true, q6.2))))
     else some (false, q4.2))
    else some (false, q4.2)))
   else some (false, q3.2)))))
 else some (false, q1.2)))
set_option maxHeartbeats 4000000 in
set_option maxRecDepth 100000 in
theorem vB_Mo_readsPoint_0 {X : Xt} {E : En} (g : GG X E 4 b_Mo_readsPoint R_Mo 3) (σ : Sto) : VV X E b_Mo_readsPoint 3 eB 0 [(0, .ref (E.2.1 48))] [] σ (B_Mo_readsPoint_0 σ) := by
  unfold B_Mo_readsPoint_0
  refine v_aload_n 0 g d_Mo_readsPoint_0 rfl ?_
  refine v_callI (r_V (rest := []) [] g (m1 1477 (by decide +kernel) (by decide +kernel)) yv_Mo_kindHere rfl (fun r σ1 h => sp_Mo_kindHere g.2.2.1  h) rfl rfl (by decide) (Nat.le_of_ble_eq_true rfl) d_Mo_readsPoint_1) (fun q1 => ?_)
  refine v_if_ne 16 g d_Mo_readsPoint_4 (by decide) (fun _ => ?_) (fun _ => ?_)
  · refine v_iconst (v := (0 : Int32)) g d_Mo_readsPoint_16 (by decide +kernel) ?_
    exact v_ret d_Mo_readsPoint_17 rfl
  · refine v_aload_n 0 g d_Mo_readsPoint_7 rfl ?_
    refine v_getI g ff_Mo_80 rfl rfl d_Mo_readsPoint_8 ?_
    refine v_bipush (v := (40 : Int32)) g d_Mo_readsPoint_11 (by decide +kernel) ?_
    refine v_icmp_ne 18 g d_Mo_readsPoint_13 (by decide) (fun _ => ?_) (fun _ => ?_)
    · refine v_aload_n 0 g d_Mo_readsPoint_18 rfl ?_
      refine v_callU (r_V (rest := []) [] g (m1 1453 (by decide +kernel) (by decide +kernel)) yv_Mo_next rfl (fun r σ1 h => sp_Mo_next g.2.2.1  h) rfl rfl (by decide) (Nat.le_of_ble_eq_true rfl) d_Mo_readsPoint_19) (fun q2 => ?_)
      refine v_aload_n 0 g d_Mo_readsPoint_22 rfl ?_
      refine v_callI (r_V (rest := []) [] g (m1 1477 (by decide +kernel) (by decide +kernel)) yv_Mo_kindHere rfl (fun r σ1 h => sp_Mo_kindHere g.2.2.1  h) rfl rfl (by decide) (Nat.le_of_ble_eq_true rfl) d_Mo_readsPoint_23) (fun q3 => ?_)
      refine v_istore_n [(1, .int q3.1), (0, .ref (E.2.1 48))] g d_Mo_readsPoint_26 (by decide) rfl ?_
      refine v_iload_n 0 g d_Mo_readsPoint_27 rfl ?_
      refine v_if_ge 33 g d_Mo_readsPoint_28 (by decide) (fun _ => ?_) (fun _ => ?_)
      · refine v_aload_n 1 g d_Mo_readsPoint_33 rfl ?_
        refine v_callU (r_V (rest := []) [] g (m1 1453 (by decide +kernel) (by decide +kernel)) yv_Mo_next rfl (fun r σ1 h => sp_Mo_next g.2.2.1  h) rfl rfl (by decide) (Nat.le_of_ble_eq_true rfl) d_Mo_readsPoint_34) (fun q4 => ?_)
        refine v_aload_n 1 g d_Mo_readsPoint_37 rfl ?_
        refine v_getI g ff_Mo_290 rfl rfl d_Mo_readsPoint_38 ?_
        refine v_iconst (v := (2 : Int32)) g d_Mo_readsPoint_41 (by decide +kernel) ?_
        refine v_icmp_ne 54 g d_Mo_readsPoint_42 (by decide) (fun _ => ?_) (fun _ => ?_)
        · refine v_iconst (v := (0 : Int32)) g d_Mo_readsPoint_54 (by decide +kernel) ?_
          exact v_ret d_Mo_readsPoint_55 rfl
        · refine v_aload_n 1 g d_Mo_readsPoint_45 rfl ?_
          refine v_getI g ff_Mo_293 rfl rfl d_Mo_readsPoint_46 ?_
          refine v_bipush (v := (99 : Int32)) g d_Mo_readsPoint_49 (by decide +kernel) ?_
          refine v_icmp_le 56 g d_Mo_readsPoint_51 (by decide) (fun _ => ?_) (fun _ => ?_)
          · refine v_aload_n 1 g d_Mo_readsPoint_56 rfl ?_
            refine v_iload_n 0 g d_Mo_readsPoint_57 rfl ?_
            refine v_aload_n 1 g d_Mo_readsPoint_58 rfl ?_
            refine v_getI g ff_Mo_293 rfl rfl d_Mo_readsPoint_59 ?_
            refine v_callI (r_V (rest := []) [.int q3.1, .int (gI q4.2 48 28)] g (m1 1171 (by decide +kernel) (by decide +kernel)) yv_Mo_comes rfl (fun r σ1 h => sp_Mo_comes g.2.2.1  h) rfl rfl (by decide) (Nat.le_of_ble_eq_true rfl) d_Mo_readsPoint_62) (fun q5 => ?_)
            refine v_istore_n [(2, .int q5.1), (1, .int q3.1), (0, .ref (E.2.1 48))] g d_Mo_readsPoint_65 (by decide) rfl ?_
            refine v_aload_n 2 g d_Mo_readsPoint_66 rfl ?_
            refine v_callU (r_V (rest := []) [] g (m1 1453 (by decide +kernel) (by decide +kernel)) yv_Mo_next rfl (fun r σ1 h => sp_Mo_next g.2.2.1  h) rfl rfl (by decide) (Nat.le_of_ble_eq_true rfl) d_Mo_readsPoint_67) (fun q6 => ?_)
            refine v_iload_n 0 g d_Mo_readsPoint_70 rfl ?_
            refine v_if_lt 78 g d_Mo_readsPoint_71 (by decide) (fun _ => ?_) (fun _ => ?_)
            · refine v_iconst (v := (0 : Int32)) g d_Mo_readsPoint_78 (by decide +kernel) ?_
              exact v_ret d_Mo_readsPoint_79 rfl
            · refine v_iconst (v := (1 : Int32)) g d_Mo_readsPoint_74 (by decide +kernel) ?_
              refine v_goto 79 g d_Mo_readsPoint_75 (by decide) ?_
              exact v_ret d_Mo_readsPoint_79 rfl
          · refine v_iconst (v := (0 : Int32)) g d_Mo_readsPoint_54 (by decide +kernel) ?_
            exact v_ret d_Mo_readsPoint_55 rfl
      · refine v_iconst (v := (0 : Int32)) g d_Mo_readsPoint_31 (by decide +kernel) ?_
        exact v_ret d_Mo_readsPoint_32 rfl
    · refine v_iconst (v := (0 : Int32)) g d_Mo_readsPoint_16 (by decide +kernel) ?_
      exact v_ret d_Mo_readsPoint_17 rfl
def f_Mo_readsPoint (σ : Sto) : Option (Bool × Sto) := B_Mo_readsPoint_0 σ
theorem sp_Mo_readsPoint {l : Launch} {E : En} (hE : Dj E) {σ : Sto} {r : Bool} {σ' : Sto} (h : f_Mo_readsPoint σ = some (r, σ')) : Ct l E y_Mo_readsPoint (wsM y_Mo_readsPoint b_Mo_readsPoint 3 (some .boolean)) 4 [.ref (E.2.1 48)] σ (eB r) σ' :=
  ct_of hE (by decide +kernel) (Nat.le_of_ble_eq_true rfl) (fun b => Or.inr (Or.inl ⟨rfl, b, rfl⟩)) (fun X _ g => vB_Mo_readsPoint_0 g σ) r σ' h
/-! method FittingRingsModel.does(III)V -/
theorem yv_Mo_does : YV y_Mo_does b_Mo_does 6 (none) 3 10 := ⟨m1 1487 (by decide +kernel) (by decide +kernel), m1 65 (by decide +kernel) (by decide +kernel), ini_Mo, m1 1488 (by decide +kernel) (by decide +kernel), ⟨by decide +kernel, by decide +kernel, by decide +kernel⟩, by decide, by decide, T_Mo, 39, rfl⟩
theorem d_Mo_does_0 : decode b_Mo_does 0 = .ok (.iload_n 1, 1) := by decide +kernel
theorem d_Mo_does_1 : decode b_Mo_does 1 = .ok (.iconst 2, 1) := by decide +kernel
theorem d_Mo_does_2 : decode b_Mo_does 2 = .ok (.if_icmp .ge 19, 3) := by decide +kernel
theorem d_Mo_does_5 : decode b_Mo_does 5 = .ok (.aload_n 0, 1) := by decide +kernel
theorem d_Mo_does_6 : decode b_Mo_does 6 = .ok (.iload_n 2, 1) := by decide +kernel
theorem d_Mo_does_7 : decode b_Mo_does 7 = .ok (.iload_n 3, 1) := by decide +kernel
theorem d_Mo_does_8 : decode b_Mo_does 8 = .ok (.iload_n 1, 1) := by decide +kernel
theorem d_Mo_does_9 : decode b_Mo_does 9 = .ok (.ifCond .ne 7, 3) := by decide +kernel
theorem d_Mo_does_12 : decode b_Mo_does 12 = .ok (.iconst 1, 1) := by decide +kernel
theorem d_Mo_does_13 : decode b_Mo_does 13 = .ok (.goto 4, 3) := by decide +kernel
theorem d_Mo_does_16 : decode b_Mo_does 16 = .ok (.iconst 0, 1) := by decide +kernel
theorem d_Mo_does_17 : decode b_Mo_does 17 = .ok (.invokevirtual 123, 3) := by decide +kernel
theorem d_Mo_does_20 : decode b_Mo_does 20 = .ok (.return_, 1) := by decide +kernel
theorem d_Mo_does_21 : decode b_Mo_does 21 = .ok (.iload_n 2, 1) := by decide +kernel
theorem d_Mo_does_22 : decode b_Mo_does 22 = .ok (.istore 4, 2) := by decide +kernel
theorem d_Mo_does_24 : decode b_Mo_does 24 = .ok (.iload 4, 2) := by decide +kernel
theorem d_Mo_does_26 : decode b_Mo_does 26 = .ok (.iload_n 3, 1) := by decide +kernel
theorem d_Mo_does_27 : decode b_Mo_does 27 = .ok (.if_icmp .gt 78, 3) := by decide +kernel
theorem d_Mo_does_30 : decode b_Mo_does 30 = .ok (.iload 4, 2) := by decide +kernel
theorem d_Mo_does_32 : decode b_Mo_does 32 = .ok (.iconst 1, 1) := by decide +kernel
theorem d_Mo_does_33 : decode b_Mo_does 33 = .ok (.iadd, 1) := by decide +kernel
theorem d_Mo_does_34 : decode b_Mo_does 34 = .ok (.istore 5, 2) := by decide +kernel
theorem d_Mo_does_36 : decode b_Mo_does 36 = .ok (.iload 5, 2) := by decide +kernel
theorem d_Mo_does_38 : decode b_Mo_does 38 = .ok (.iload_n 3, 1) := by decide +kernel
theorem d_Mo_does_39 : decode b_Mo_does 39 = .ok (.if_icmp .gt 60, 3) := by decide +kernel
theorem d_Mo_does_42 : decode b_Mo_does 42 = .ok (.iload_n 1, 1) := by decide +kernel
theorem d_Mo_does_43 : decode b_Mo_does 43 = .ok (.iconst 4, 1) := by decide +kernel
theorem d_Mo_does_44 : decode b_Mo_does 44 = .ok (.if_icmp .ne 14, 3) := by decide +kernel
theorem d_Mo_does_47 : decode b_Mo_does 47 = .ok (.aload_n 0, 1) := by decide +kernel
theorem d_Mo_does_48 : decode b_Mo_does 48 = .ok (.iload 4, 2) := by decide +kernel
theorem d_Mo_does_50 : decode b_Mo_does 50 = .ok (.iload 5, 2) := by decide +kernel
theorem d_Mo_does_52 : decode b_Mo_does 52 = .ok (.invokevirtual 131, 3) := by decide +kernel
theorem d_Mo_does_55 : decode b_Mo_does 55 = .ok (.goto 38, 3) := by decide +kernel
theorem d_Mo_does_58 : decode b_Mo_does 58 = .ok (.iload_n 1, 1) := by decide +kernel
theorem d_Mo_does_59 : decode b_Mo_does 59 = .ok (.iconst 2, 1) := by decide +kernel
theorem d_Mo_does_60 : decode b_Mo_does 60 = .ok (.if_icmp .eq 24, 3) := by decide +kernel
theorem d_Mo_does_63 : decode b_Mo_does 63 = .ok (.iload 5, 2) := by decide +kernel
theorem d_Mo_does_65 : decode b_Mo_does 65 = .ok (.iload 4, 2) := by decide +kernel
theorem d_Mo_does_67 : decode b_Mo_does 67 = .ok (.iconst 1, 1) := by decide +kernel
theorem d_Mo_does_68 : decode b_Mo_does 68 = .ok (.iadd, 1) := by decide +kernel
theorem d_Mo_does_69 : decode b_Mo_does 69 = .ok (.if_icmp .eq 15, 3) := by decide +kernel
theorem d_Mo_does_72 : decode b_Mo_does 72 = .ok (.iload 4, 2) := by decide +kernel
theorem d_Mo_does_74 : decode b_Mo_does 74 = .ok (.iload_n 2, 1) := by decide +kernel
theorem d_Mo_does_75 : decode b_Mo_does 75 = .ok (.if_icmp .ne 18, 3) := by decide +kernel
theorem d_Mo_does_78 : decode b_Mo_does 78 = .ok (.iload 5, 2) := by decide +kernel
theorem d_Mo_does_80 : decode b_Mo_does 80 = .ok (.iload_n 3, 1) := by decide +kernel
theorem d_Mo_does_81 : decode b_Mo_does 81 = .ok (.if_icmp .ne 12, 3) := by decide +kernel
theorem d_Mo_does_84 : decode b_Mo_does 84 = .ok (.aload_n 0, 1) := by decide +kernel
theorem d_Mo_does_85 : decode b_Mo_does 85 = .ok (.iload 4, 2) := by decide +kernel
theorem d_Mo_does_87 : decode b_Mo_does 87 = .ok (.iload 5, 2) := by decide +kernel
theorem d_Mo_does_89 : decode b_Mo_does 89 = .ok (.iconst 1, 1) := by decide +kernel
theorem d_Mo_does_90 : decode b_Mo_does 90 = .ok (.invokevirtual 123, 3) := by decide +kernel
theorem d_Mo_does_93 : decode b_Mo_does 93 = .ok (.iinc 5 1, 3) := by decide +kernel
theorem d_Mo_does_96 : decode b_Mo_does 96 = .ok (.goto (-60), 3) := by decide +kernel
theorem d_Mo_does_99 : decode b_Mo_does 99 = .ok (.iinc 4 1, 3) := by decide +kernel
theorem d_Mo_does_102 : decode b_Mo_does 102 = .ok (.goto (-78), 3) := by decide +kernel
theorem d_Mo_does_105 : decode b_Mo_does 105 = .ok (.return_, 1) := by decide +kernel
def B_Mo_does_36 (k24 : Int32 → Int32 → Int32 → Int32 → Sto → Option (Unit × Sto)) (k36 : Int32 → Int32 → Int32 → Int32 → Int32 → Sto → Option (Unit × Sto)) (v1 : Int32) (v2 : Int32) (v3 : Int32) (v4 : Int32) (v5 : Int32) (σ : Sto) : Option (Unit × Sto) :=
  (if v3 < v5 then k24 v1 v2 v3 (v4 + (1 : Int32)) σ
 else (if v1 = (4 : Int32) then ((f_Mo_flips v4 v5 σ).bind fun q6 => k36 v1 v2 v3 v4 (v5 + (1 : Int32)) q6.2)
  else (if v1 = (2 : Int32) then ((f_Mo_puts v4 v5 (1 : Int32) σ).bind fun q3 => k36 v1 v2 v3 v4 (v5 + (1 : Int32)) q3.2)
   else (if v5 = (v4 + (1 : Int32)) then ((f_Mo_puts v4 v5 (1 : Int32) σ).bind fun q4 => k36 v1 v2 v3 v4 (v5 + (1 : Int32)) q4.2)
    else (if v4 = v2 then (if v5 = v3 then ((f_Mo_puts v4 v5 (1 : Int32) σ).bind fun q5 => k36 v1 v2 v3 v4 (v5 + (1 : Int32)) q5.2)
      else k36 v1 v2 v3 v4 (v5 + (1 : Int32)) σ)
     else k36 v1 v2 v3 v4 (v5 + (1 : Int32)) σ)))))
set_option maxHeartbeats 4000000 in
set_option maxRecDepth 100000 in
theorem vB_Mo_does_36 {X : Xt} {E : En} (g : GG X E 3 b_Mo_does R_Mo 6) {k24 : Int32 → Int32 → Int32 → Int32 → Sto → Option (Unit × Sto)} {k36 : Int32 → Int32 → Int32 → Int32 → Int32 → Sto → Option (Unit × Sto)} (hk24 : ∀ (v1 : Int32) (v2 : Int32) (v3 : Int32) (v4 : Int32) (σ : Sto), VV X E b_Mo_does 6 eU 24 [(0, .ref (E.2.1 48)), (1, .int v1), (2, .int v2), (3, .int v3), (4, .int v4)] [] σ (k24 v1 v2 v3 v4 σ)) (hk36 : ∀ (v1 : Int32) (v2 : Int32) (v3 : Int32) (v4 : Int32) (v5 : Int32) (σ : Sto), VV X E b_Mo_does 6 eU 36 [(0, .ref (E.2.1 48)), (1, .int v1), (2, .int v2), (3, .int v3), (4, .int v4), (5, .int v5)] [] σ (k36 v1 v2 v3 v4 v5 σ)) (v1 : Int32) (v2 : Int32) (v3 : Int32) (v4 : Int32) (v5 : Int32) (σ : Sto) : VV X E b_Mo_does 6 eU 36 [(0, .ref (E.2.1 48)), (1, .int v1), (2, .int v2), (3, .int v3), (4, .int v4), (5, .int v5)] [] σ (B_Mo_does_36 k24 k36 v1 v2 v3 v4 v5 σ) := by
  unfold B_Mo_does_36
  refine v_iload 5 g d_Mo_does_36 rfl ?_
  refine v_iload_n 3 g d_Mo_does_38 rfl ?_
  refine v_icmp_gt 99 g d_Mo_does_39 (by decide) (fun _ => ?_) (fun _ => ?_)
  · refine v_iinc 4 [(4, .int (v4 + (1 : Int32))), (0, .ref (E.2.1 48)), (1, .int v1), (2, .int v2), (3, .int v3), (5, .int v5)] g d_Mo_does_99 rfl (v := (1 : Int32)) (by decide +kernel) (by decide) rfl ?_
    refine v_goto 24 g d_Mo_does_102 (by decide) ?_
    exact v_sub [1,2,3,4,0] rfl (hk24 v1 v2 v3 (v4 + (1 : Int32)) σ)
  · refine v_iload_n 1 g d_Mo_does_42 rfl ?_
    refine v_iconst (v := (4 : Int32)) g d_Mo_does_43 (by decide +kernel) ?_
    refine v_icmp_ne 58 g d_Mo_does_44 (by decide) (fun _ => ?_) (fun _ => ?_)
    · refine v_iload_n 1 g d_Mo_does_58 rfl ?_
      refine v_iconst (v := (2 : Int32)) g d_Mo_does_59 (by decide +kernel) ?_
      refine v_icmp_eq 84 g d_Mo_does_60 (by decide) (fun _ => ?_) (fun _ => ?_)
      · refine v_aload_n 0 g d_Mo_does_84 rfl ?_
        refine v_iload 4 g d_Mo_does_85 rfl ?_
        refine v_iload 5 g d_Mo_does_87 rfl ?_
        refine v_iconst (v := (1 : Int32)) g d_Mo_does_89 (by decide +kernel) ?_
        refine v_callU (r_V (rest := []) [.int v4, .int v5, .int (1 : Int32)] g (m1 1209 (by decide +kernel) (by decide +kernel)) yv_Mo_puts rfl (fun r σ1 h => sp_Mo_puts g.2.2.1  h) rfl rfl (by decide) (Nat.le_of_ble_eq_true rfl) d_Mo_does_90) (fun q3 => ?_)
        refine v_iinc 5 [(5, .int (v5 + (1 : Int32))), (0, .ref (E.2.1 48)), (1, .int v1), (2, .int v2), (3, .int v3), (4, .int v4)] g d_Mo_does_93 rfl (v := (1 : Int32)) (by decide +kernel) (by decide) rfl ?_
        refine v_goto 36 g d_Mo_does_96 (by decide) ?_
        exact v_sub [1,2,3,4,5,0] rfl (hk36 v1 v2 v3 v4 (v5 + (1 : Int32)) q3.2)
      · refine v_iload 5 g d_Mo_does_63 rfl ?_
        refine v_iload 4 g d_Mo_does_65 rfl ?_
        refine v_iconst (v := (1 : Int32)) g d_Mo_does_67 (by decide +kernel) ?_
        refine v_iadd g d_Mo_does_68 ?_
        refine v_icmp_eq 84 g d_Mo_does_69 (by decide) (fun _ => ?_) (fun _ => ?_)
        · refine v_aload_n 0 g d_Mo_does_84 rfl ?_
          refine v_iload 4 g d_Mo_does_85 rfl ?_
          refine v_iload 5 g d_Mo_does_87 rfl ?_
          refine v_iconst (v := (1 : Int32)) g d_Mo_does_89 (by decide +kernel) ?_
          refine v_callU (r_V (rest := []) [.int v4, .int v5, .int (1 : Int32)] g (m1 1209 (by decide +kernel) (by decide +kernel)) yv_Mo_puts rfl (fun r σ1 h => sp_Mo_puts g.2.2.1  h) rfl rfl (by decide) (Nat.le_of_ble_eq_true rfl) d_Mo_does_90) (fun q4 => ?_)
          refine v_iinc 5 [(5, .int (v5 + (1 : Int32))), (0, .ref (E.2.1 48)), (1, .int v1), (2, .int v2), (3, .int v3), (4, .int v4)] g d_Mo_does_93 rfl (v := (1 : Int32)) (by decide +kernel) (by decide) rfl ?_
          refine v_goto 36 g d_Mo_does_96 (by decide) ?_
          exact v_sub [1,2,3,4,5,0] rfl (hk36 v1 v2 v3 v4 (v5 + (1 : Int32)) q4.2)
        · refine v_iload 4 g d_Mo_does_72 rfl ?_
          refine v_iload_n 2 g d_Mo_does_74 rfl ?_
          refine v_icmp_ne 93 g d_Mo_does_75 (by decide) (fun _ => ?_) (fun _ => ?_)
          · refine v_iinc 5 [(5, .int (v5 + (1 : Int32))), (0, .ref (E.2.1 48)), (1, .int v1), (2, .int v2), (3, .int v3), (4, .int v4)] g d_Mo_does_93 rfl (v := (1 : Int32)) (by decide +kernel) (by decide) rfl ?_
            refine v_goto 36 g d_Mo_does_96 (by decide) ?_
            exact v_sub [1,2,3,4,5,0] rfl (hk36 v1 v2 v3 v4 (v5 + (1 : Int32)) σ)
          · refine v_iload 5 g d_Mo_does_78 rfl ?_
            refine v_iload_n 3 g d_Mo_does_80 rfl ?_
            refine v_icmp_ne 93 g d_Mo_does_81 (by decide) (fun _ => ?_) (fun _ => ?_)
            · refine v_iinc 5 [(5, .int (v5 + (1 : Int32))), (0, .ref (E.2.1 48)), (1, .int v1), (2, .int v2), (3, .int v3), (4, .int v4)] g d_Mo_does_93 rfl (v := (1 : Int32)) (by decide +kernel) (by decide) rfl ?_
              refine v_goto 36 g d_Mo_does_96 (by decide) ?_
              exact v_sub [1,2,3,4,5,0] rfl (hk36 v1 v2 v3 v4 (v5 + (1 : Int32)) σ)
            · refine v_aload_n 0 g d_Mo_does_84 rfl ?_
              refine v_iload 4 g d_Mo_does_85 rfl ?_
              refine v_iload 5 g d_Mo_does_87 rfl ?_
              refine v_iconst (v := (1 : Int32)) g d_Mo_does_89 (by decide +kernel) ?_
              refine v_callU (r_V (rest := []) [.int v4, .int v5, .int (1 : Int32)] g (m1 1209 (by decide +kernel) (by decide +kernel)) yv_Mo_puts rfl (fun r σ1 h => sp_Mo_puts g.2.2.1  h) rfl rfl (by decide) (Nat.le_of_ble_eq_true rfl) d_Mo_does_90) (fun q5 => ?_)
              refine v_iinc 5 [(5, .int (v5 + (1 : Int32))), (0, .ref (E.2.1 48)), (1, .int v1), (2, .int v2), (3, .int v3), (4, .int v4)] g d_Mo_does_93 rfl (v := (1 : Int32)) (by decide +kernel) (by decide) rfl ?_
              refine v_goto 36 g d_Mo_does_96 (by decide) ?_
              exact v_sub [1,2,3,4,5,0] rfl (hk36 v1 v2 v3 v4 (v5 + (1 : Int32)) q5.2)
    · refine v_aload_n 0 g d_Mo_does_47 rfl ?_
      refine v_iload 4 g d_Mo_does_48 rfl ?_
      refine v_iload 5 g d_Mo_does_50 rfl ?_
      refine v_callU (r_V (rest := []) [.int v4, .int v5] g (m1 1225 (by decide +kernel) (by decide +kernel)) yv_Mo_flips rfl (fun r σ1 h => sp_Mo_flips g.2.2.1  h) rfl rfl (by decide) (Nat.le_of_ble_eq_true rfl) d_Mo_does_52) (fun q6 => ?_)
      refine v_goto 93 g d_Mo_does_55 (by decide) ?_
      refine v_iinc 5 [(5, .int (v5 + (1 : Int32))), (0, .ref (E.2.1 48)), (1, .int v1), (2, .int v2), (3, .int v3), (4, .int v4)] g d_Mo_does_93 rfl (v := (1 : Int32)) (by decide +kernel) (by decide) rfl ?_
      refine v_goto 36 g d_Mo_does_96 (by decide) ?_
      exact v_sub [1,2,3,4,5,0] rfl (hk36 v1 v2 v3 v4 (v5 + (1 : Int32)) q6.2)
def L_Mo_does_36 (k24 : Int32 → Int32 → Int32 → Int32 → Sto → Option (Unit × Sto)) : Nat → Int32 → Int32 → Int32 → Int32 → Int32 → Sto → Option (Unit × Sto)
  | 0, _, _, _, _, _, _ => none
  | fu + 1, v1, v2, v3, v4, v5, σ => B_Mo_does_36 k24 (L_Mo_does_36 k24 fu) v1 v2 v3 v4 v5 σ
theorem vL_Mo_does_36 {X : Xt} {E : En} (g : GG X E 3 b_Mo_does R_Mo 6) {k24 : Int32 → Int32 → Int32 → Int32 → Sto → Option (Unit × Sto)} (hk24 : ∀ (v1 : Int32) (v2 : Int32) (v3 : Int32) (v4 : Int32) (σ : Sto), VV X E b_Mo_does 6 eU 24 [(0, .ref (E.2.1 48)), (1, .int v1), (2, .int v2), (3, .int v3), (4, .int v4)] [] σ (k24 v1 v2 v3 v4 σ)) (fu : Nat) : ∀ (v1 : Int32) (v2 : Int32) (v3 : Int32) (v4 : Int32) (v5 : Int32) (σ : Sto), VV X E b_Mo_does 6 eU 36 [(0, .ref (E.2.1 48)), (1, .int v1), (2, .int v2), (3, .int v3), (4, .int v4), (5, .int v5)] [] σ (L_Mo_does_36 k24 fu v1 v2 v3 v4 v5 σ) := by
  induction fu with
  | zero => intros; exact v_none
  | succ fu ih =>
    intro v1 v2 v3 v4 v5 σ
    exact vB_Mo_does_36 g hk24 ih v1 v2 v3 v4 v5 σ
def B_Mo_does_24 (k24 : Int32 → Int32 → Int32 → Int32 → Sto → Option (Unit × Sto)) (v1 : Int32) (v2 : Int32) (v3 : Int32) (v4 : Int32) (σ : Sto) : Option (Unit × Sto) :=
  (if v3 < v4 then some ((), σ)
 else L_Mo_does_36 k24 LF v1 v2 v3 v4 (v4 + (1 : Int32)) σ)
set_option maxHeartbeats 4000000 in
set_option maxRecDepth 100000 in
theorem vB_Mo_does_24 {X : Xt} {E : En} (g : GG X E 3 b_Mo_does R_Mo 6) {k24 : Int32 → Int32 → Int32 → Int32 → Sto → Option (Unit × Sto)} (hk24 : ∀ (v1 : Int32) (v2 : Int32) (v3 : Int32) (v4 : Int32) (σ : Sto), VV X E b_Mo_does 6 eU 24 [(0, .ref (E.2.1 48)), (1, .int v1), (2, .int v2), (3, .int v3), (4, .int v4)] [] σ (k24 v1 v2 v3 v4 σ)) (v1 : Int32) (v2 : Int32) (v3 : Int32) (v4 : Int32) (σ : Sto) : VV X E b_Mo_does 6 eU 24 [(0, .ref (E.2.1 48)), (1, .int v1), (2, .int v2), (3, .int v3), (4, .int v4)] [] σ (B_Mo_does_24 k24 v1 v2 v3 v4 σ) := by
  unfold B_Mo_does_24
  refine v_iload 4 g d_Mo_does_24 rfl ?_
  refine v_iload_n 3 g d_Mo_does_26 rfl ?_
  refine v_icmp_gt 105 g d_Mo_does_27 (by decide) (fun _ => ?_) (fun _ => ?_)
  · exact v_ret d_Mo_does_105 rfl
  · refine v_iload 4 g d_Mo_does_30 rfl ?_
    refine v_iconst (v := (1 : Int32)) g d_Mo_does_32 (by decide +kernel) ?_
    refine v_iadd g d_Mo_does_33 ?_
    refine v_istore [(5, .int (v4 + (1 : Int32))), (0, .ref (E.2.1 48)), (1, .int v1), (2, .int v2), (3, .int v3), (4, .int v4)] g d_Mo_does_34 (by decide) rfl ?_
    exact v_sub [1,2,3,4,5,0] rfl (vL_Mo_does_36 g hk24 LF v1 v2 v3 v4 (v4 + (1 : Int32)) σ)
def L_Mo_does_24 : Nat → Int32 → Int32 → Int32 → Int32 → Sto → Option (Unit × Sto)
  | 0, _, _, _, _, _ => none
  | fu + 1, v1, v2, v3, v4, σ => B_Mo_does_24 (L_Mo_does_24 fu) v1 v2 v3 v4 σ
theorem vL_Mo_does_24 {X : Xt} {E : En} (g : GG X E 3 b_Mo_does R_Mo 6) (fu : Nat) : ∀ (v1 : Int32) (v2 : Int32) (v3 : Int32) (v4 : Int32) (σ : Sto), VV X E b_Mo_does 6 eU 24 [(0, .ref (E.2.1 48)), (1, .int v1), (2, .int v2), (3, .int v3), (4, .int v4)] [] σ (L_Mo_does_24 fu v1 v2 v3 v4 σ) := by
  induction fu with
  | zero => intros; exact v_none
  | succ fu ih =>
    intro v1 v2 v3 v4 σ
    exact vB_Mo_does_24 g ih v1 v2 v3 v4 σ
def B_Mo_does_0 (a1 : Int32) (a2 : Int32) (a3 : Int32) (σ : Sto) : Option (Unit × Sto) :=
  (if (2 : Int32) ≤ a1 then L_Mo_does_24 LF a1 a2 a3 a2 σ
 else (if a1 = 0 then ((f_Mo_puts a2 a3 (1 : Int32) σ).bind fun q2 => some ((), q2.2))
  else ((f_Mo_puts a2 a3 (0 : Int32) σ).bind fun q1 => some ((), q1.2))))
set_option maxHeartbeats 4000000 in
set_option maxRecDepth 100000 in
theorem vB_Mo_does_0 {X : Xt} {E : En} (g : GG X E 3 b_Mo_does R_Mo 6) (a1 : Int32) (a2 : Int32) (a3 : Int32) (σ : Sto) : VV X E b_Mo_does 6 eU 0 [(0, .ref (E.2.1 48)), (1, .int a1), (2, .int a2), (3, .int a3)] [] σ (B_Mo_does_0 a1 a2 a3 σ) := by
  unfold B_Mo_does_0
  refine v_iload_n 1 g d_Mo_does_0 rfl ?_
  refine v_iconst (v := (2 : Int32)) g d_Mo_does_1 (by decide +kernel) ?_
  refine v_icmp_ge 21 g d_Mo_does_2 (by decide) (fun _ => ?_) (fun _ => ?_)
  · refine v_iload_n 2 g d_Mo_does_21 rfl ?_
    refine v_istore [(4, .int a2), (0, .ref (E.2.1 48)), (1, .int a1), (2, .int a2), (3, .int a3)] g d_Mo_does_22 (by decide) rfl ?_
    exact v_sub [1,2,3,4,0] rfl (vL_Mo_does_24 g LF a1 a2 a3 a2 σ)
  · refine v_aload_n 0 g d_Mo_does_5 rfl ?_
    refine v_iload_n 2 g d_Mo_does_6 rfl ?_
    refine v_iload_n 3 g d_Mo_does_7 rfl ?_
    refine v_iload_n 1 g d_Mo_does_8 rfl ?_
    refine v_if_ne 16 g d_Mo_does_9 (by decide) (fun _ => ?_) (fun _ => ?_)
    · refine v_iconst (v := (0 : Int32)) g d_Mo_does_16 (by decide +kernel) ?_
      refine v_callU (r_V (rest := []) [.int a2, .int a3, .int (0 : Int32)] g (m1 1209 (by decide +kernel) (by decide +kernel)) yv_Mo_puts rfl (fun r σ1 h => sp_Mo_puts g.2.2.1  h) rfl rfl (by decide) (Nat.le_of_ble_eq_true rfl) d_Mo_does_17) (fun q1 => ?_)
      exact v_ret d_Mo_does_20 rfl
    · refine v_iconst (v := (1 : Int32)) g d_Mo_does_12 (by decide +kernel) ?_
      refine v_goto 17 g d_Mo_does_13 (by decide) ?_
      refine v_callU (r_V (rest := []) [.int a2, .int a3, .int (1 : Int32)] g (m1 1209 (by decide +kernel) (by decide +kernel)) yv_Mo_puts rfl (fun r σ1 h => sp_Mo_puts g.2.2.1  h) rfl rfl (by decide) (Nat.le_of_ble_eq_true rfl) d_Mo_does_17) (fun q2 => ?_)
      exact v_ret d_Mo_does_20 rfl
def f_Mo_does (a1 : Int32) (a2 : Int32) (a3 : Int32) (σ : Sto) : Option (Unit × Sto) := B_Mo_does_0 a1 a2 a3 σ
theorem sp_Mo_does {l : Launch} {E : En} (hE : Dj E) {a1 : Int32} {a2 : Int32} {a3 : Int32} {σ : Sto} {r : Unit} {σ' : Sto} (h : f_Mo_does a1 a2 a3 σ = some (r, σ')) : Ct l E y_Mo_does (wsM y_Mo_does b_Mo_does 6 (none)) 3 [.ref (E.2.1 48), .int a1, .int a2, .int a3] σ (eU r) σ' :=
  ct_of hE (by decide +kernel) (Nat.le_of_ble_eq_true rfl) (fun _ => Or.inr (Or.inr (Or.inr (Or.inl ⟨rfl, rfl⟩)))) (fun X _ g => vB_Mo_does_0 g a1 a2 a3 σ) r σ' h
/-! method FittingRingsModel.readsDeed(I)Z -/
theorem yv_Mo_readsDeed : YV y_Mo_readsDeed b_Mo_readsDeed 3 (some .boolean) 1 10 := ⟨m1 1483 (by decide +kernel) (by decide +kernel), m1 64 (by decide +kernel) (by decide +kernel), ini_Mo, m1 1484 (by decide +kernel) (by decide +kernel), ⟨by decide +kernel, by decide +kernel, by decide +kernel⟩, by decide, by decide, T_Mo, 39, rfl⟩
theorem d_Mo_readsDeed_0 : decode b_Mo_readsDeed 0 = .ok (.aload_n 0, 1) := by decide +kernel
theorem d_Mo_readsDeed_1 : decode b_Mo_readsDeed 1 = .ok (.invokevirtual 304, 3) := by decide +kernel
theorem d_Mo_readsDeed_4 : decode b_Mo_readsDeed 4 = .ok (.aload_n 0, 1) := by decide +kernel
theorem d_Mo_readsDeed_5 : decode b_Mo_readsDeed 5 = .ok (.getfield 290, 3) := by decide +kernel
theorem d_Mo_readsDeed_8 : decode b_Mo_readsDeed 8 = .ok (.iconst 2, 1) := by decide +kernel
theorem d_Mo_readsDeed_9 : decode b_Mo_readsDeed 9 = .ok (.if_icmp .ne 14, 3) := by decide +kernel
theorem d_Mo_readsDeed_12 : decode b_Mo_readsDeed 12 = .ok (.aload_n 0, 1) := by decide +kernel
theorem d_Mo_readsDeed_13 : decode b_Mo_readsDeed 13 = .ok (.aload_n 0, 1) := by decide +kernel
theorem d_Mo_readsDeed_14 : decode b_Mo_readsDeed 14 = .ok (.getfield 293, 3) := by decide +kernel
theorem d_Mo_readsDeed_17 : decode b_Mo_readsDeed 17 = .ok (.invokevirtual 100, 3) := by decide +kernel
theorem d_Mo_readsDeed_20 : decode b_Mo_readsDeed 20 = .ok (.ifCond .ne 5, 3) := by decide +kernel
theorem d_Mo_readsDeed_23 : decode b_Mo_readsDeed 23 = .ok (.iconst 0, 1) := by decide +kernel
theorem d_Mo_readsDeed_24 : decode b_Mo_readsDeed 24 = .ok (.ireturn, 1) := by decide +kernel
theorem d_Mo_readsDeed_25 : decode b_Mo_readsDeed 25 = .ok (.aload_n 0, 1) := by decide +kernel
theorem d_Mo_readsDeed_26 : decode b_Mo_readsDeed 26 = .ok (.getfield 293, 3) := by decide +kernel
theorem d_Mo_readsDeed_29 : decode b_Mo_readsDeed 29 = .ok (.istore_n 2, 1) := by decide +kernel
theorem d_Mo_readsDeed_30 : decode b_Mo_readsDeed 30 = .ok (.aload_n 0, 1) := by decide +kernel
theorem d_Mo_readsDeed_31 : decode b_Mo_readsDeed 31 = .ok (.invokevirtual 304, 3) := by decide +kernel
theorem d_Mo_readsDeed_34 : decode b_Mo_readsDeed 34 = .ok (.aload_n 0, 1) := by decide +kernel
theorem d_Mo_readsDeed_35 : decode b_Mo_readsDeed 35 = .ok (.getfield 290, 3) := by decide +kernel
theorem d_Mo_readsDeed_38 : decode b_Mo_readsDeed 38 = .ok (.iconst 2, 1) := by decide +kernel
theorem d_Mo_readsDeed_39 : decode b_Mo_readsDeed 39 = .ok (.if_icmp .ne 35, 3) := by decide +kernel
theorem d_Mo_readsDeed_42 : decode b_Mo_readsDeed 42 = .ok (.aload_n 0, 1) := by decide +kernel
theorem d_Mo_readsDeed_43 : decode b_Mo_readsDeed 43 = .ok (.aload_n 0, 1) := by decide +kernel
theorem d_Mo_readsDeed_44 : decode b_Mo_readsDeed 44 = .ok (.getfield 293, 3) := by decide +kernel
theorem d_Mo_readsDeed_47 : decode b_Mo_readsDeed 47 = .ok (.invokevirtual 100, 3) := by decide +kernel
theorem d_Mo_readsDeed_50 : decode b_Mo_readsDeed 50 = .ok (.ifCond .eq 24, 3) := by decide +kernel
theorem d_Mo_readsDeed_53 : decode b_Mo_readsDeed 53 = .ok (.aload_n 0, 1) := by decide +kernel
theorem d_Mo_readsDeed_54 : decode b_Mo_readsDeed 54 = .ok (.getfield 293, 3) := by decide +kernel
theorem d_Mo_readsDeed_57 : decode b_Mo_readsDeed 57 = .ok (.iload_n 2, 1) := by decide +kernel
theorem d_Mo_readsDeed_58 : decode b_Mo_readsDeed 58 = .ok (.if_icmp .eq 16, 3) := by decide +kernel
theorem d_Mo_readsDeed_61 : decode b_Mo_readsDeed 61 = .ok (.iload_n 1, 1) := by decide +kernel
theorem d_Mo_readsDeed_62 : decode b_Mo_readsDeed 62 = .ok (.iconst 1, 1) := by decide +kernel
theorem d_Mo_readsDeed_63 : decode b_Mo_readsDeed 63 = .ok (.if_icmp .le 13, 3) := by decide +kernel
theorem d_Mo_readsDeed_66 : decode b_Mo_readsDeed 66 = .ok (.aload_n 0, 1) := by decide +kernel
theorem d_Mo_readsDeed_67 : decode b_Mo_readsDeed 67 = .ok (.getfield 293, 3) := by decide +kernel
theorem d_Mo_readsDeed_70 : decode b_Mo_readsDeed 70 = .ok (.iload_n 2, 1) := by decide +kernel
theorem d_Mo_readsDeed_71 : decode b_Mo_readsDeed 71 = .ok (.if_icmp .ge 5, 3) := by decide +kernel
theorem d_Mo_readsDeed_74 : decode b_Mo_readsDeed 74 = .ok (.iconst 0, 1) := by decide +kernel
theorem d_Mo_readsDeed_75 : decode b_Mo_readsDeed 75 = .ok (.ireturn, 1) := by decide +kernel
theorem d_Mo_readsDeed_76 : decode b_Mo_readsDeed 76 = .ok (.aload_n 0, 1) := by decide +kernel
theorem d_Mo_readsDeed_77 : decode b_Mo_readsDeed 77 = .ok (.iload_n 1, 1) := by decide +kernel
theorem d_Mo_readsDeed_78 : decode b_Mo_readsDeed 78 = .ok (.iload_n 2, 1) := by decide +kernel
theorem d_Mo_readsDeed_79 : decode b_Mo_readsDeed 79 = .ok (.aload_n 0, 1) := by decide +kernel
theorem d_Mo_readsDeed_80 : decode b_Mo_readsDeed 80 = .ok (.getfield 293, 3) := by decide +kernel
theorem d_Mo_readsDeed_83 : decode b_Mo_readsDeed 83 = .ok (.invokevirtual 307, 3) := by decide +kernel
theorem d_Mo_readsDeed_86 : decode b_Mo_readsDeed 86 = .ok (.aload_n 0, 1) := by decide +kernel
theorem d_Mo_readsDeed_87 : decode b_Mo_readsDeed 87 = .ok (.invokevirtual 304, 3) := by decide +kernel
theorem d_Mo_readsDeed_90 : decode b_Mo_readsDeed 90 = .ok (.iconst 1, 1) := by decide +kernel
theorem d_Mo_readsDeed_91 : decode b_Mo_readsDeed 91 = .ok (.ireturn, 1) := by decide +kernel
def B_Mo_readsDeed_0 (a1 : Int32) (σ : Sto) : Option (Bool × Sto) :=
  ((f_Mo_next  σ).bind fun q1 => (if (gI q1.2 48 25) = (2 : Int32) then ((f_Mo_isPoint (gI q1.2 48 28) q1.2).bind fun q2 => (if (b2i q2.1) = 0 then some (false, q2.2)
  else ((f_Mo_next  q2.2).bind fun q3 => (if (gI q3.2 48 25) = (2 : Int32) then ((f_Mo_isPoint (gI q3.2 48 28) q3.2).bind fun q4 => (if (b2i q4.1) = 0 then some (false, q4.2)
    else (if (gI q4.2 48 28) = (gI q2.2 48 28) then some (false, q4.2)
     else (if a1 ≤ (1 : Int32) then ((f_Mo_does a1 (gI q2.2 48 28) (gI q4.2 48 28) q4.2).bind fun q5 => ((f_Mo_next  q5.2).bind fun q6 => some (true, q6.2)))
      else (if (gI q2.2 48 28) ≤ (gI q4.2 48 28) then ((f_Mo_does a1 (gI q2.2 48 28) (gI q4.2 48 28) q4.2).bind fun q7 => ((f_Mo_next  q7.2).bind fun q8 => some (true, q8.2)))
       else some (false, q4.2))))))
   else some (false, q3.2)))))
 else some (false, q1.2)))
set_option maxHeartbeats 4000000 in
set_option maxRecDepth 100000 in
theorem vB_Mo_readsDeed_0 {X : Xt} {E : En} (g : GG X E 4 b_Mo_readsDeed R_Mo 3) (a1 : Int32) (σ : Sto) : VV X E b_Mo_readsDeed 3 eB 0 [(0, .ref (E.2.1 48)), (1, .int a1)] [] σ (B_Mo_readsDeed_0 a1 σ) := by
  unfold B_Mo_readsDeed_0
  refine v_aload_n 0 g d_Mo_readsDeed_0 rfl ?_
  refine v_callU (r_V (rest := []) [] g (m1 1453 (by decide +kernel) (by decide +kernel)) yv_Mo_next rfl (fun r σ1 h => sp_Mo_next g.2.2.1  h) rfl rfl (by decide) (Nat.le_of_ble_eq_true rfl) d_Mo_readsDeed_1) (fun q1 => ?_)
  refine v_aload_n 0 g d_Mo_readsDeed_4 rfl ?_
  refine v_getI g ff_Mo_290 rfl rfl d_Mo_readsDeed_5 ?_
  refine v_iconst (v := (2 : Int32)) g d_Mo_readsDeed_8 (by decide +kernel) ?_
  refine v_icmp_ne 23 g d_Mo_readsDeed_9 (by decide) (fun _ => ?_) (fun _ => ?_)
  · refine v_iconst (v := (0 : Int32)) g d_Mo_readsDeed_23 (by decide +kernel) ?_
    exact v_ret d_Mo_readsDeed_24 rfl
  · refine v_aload_n 0 g d_Mo_readsDeed_12 rfl ?_
    refine v_aload_n 0 g d_Mo_readsDeed_13 rfl ?_
    refine v_getI g ff_Mo_293 rfl rfl d_Mo_readsDeed_14 ?_
    refine v_callB (r_V (rest := []) [.int (gI q1.2 48 28)] g (m1 1179 (by decide +kernel) (by decide +kernel)) yv_Mo_isPoint rfl (fun r σ1 h => sp_Mo_isPoint g.2.2.1  h) rfl rfl (by decide) (Nat.le_of_ble_eq_true rfl) d_Mo_readsDeed_17) (fun q2 => ?_)
    refine v_if_ne 25 g d_Mo_readsDeed_20 (by decide) (fun _ => ?_) (fun _ => ?_)
    · refine v_aload_n 0 g d_Mo_readsDeed_25 rfl ?_
      refine v_getI g ff_Mo_293 rfl rfl d_Mo_readsDeed_26 ?_
      refine v_istore_n [(2, .int (gI q2.2 48 28)), (0, .ref (E.2.1 48)), (1, .int a1)] g d_Mo_readsDeed_29 (by decide) rfl ?_
      refine v_aload_n 1 g d_Mo_readsDeed_30 rfl ?_
      refine v_callU (r_V (rest := []) [] g (m1 1453 (by decide +kernel) (by decide +kernel)) yv_Mo_next rfl (fun r σ1 h => sp_Mo_next g.2.2.1  h) rfl rfl (by decide) (Nat.le_of_ble_eq_true rfl) d_Mo_readsDeed_31) (fun q3 => ?_)
      refine v_aload_n 1 g d_Mo_readsDeed_34 rfl ?_
      refine v_getI g ff_Mo_290 rfl rfl d_Mo_readsDeed_35 ?_
      refine v_iconst (v := (2 : Int32)) g d_Mo_readsDeed_38 (by decide +kernel) ?_
      refine v_icmp_ne 74 g d_Mo_readsDeed_39 (by decide) (fun _ => ?_) (fun _ => ?_)
      · refine v_iconst (v := (0 : Int32)) g d_Mo_readsDeed_74 (by decide +kernel) ?_
        exact v_ret d_Mo_readsDeed_75 rfl
      · refine v_aload_n 1 g d_Mo_readsDeed_42 rfl ?_
        refine v_aload_n 1 g d_Mo_readsDeed_43 rfl ?_
        refine v_getI g ff_Mo_293 rfl rfl d_Mo_readsDeed_44 ?_
        refine v_callB (r_V (rest := []) [.int (gI q3.2 48 28)] g (m1 1179 (by decide +kernel) (by decide +kernel)) yv_Mo_isPoint rfl (fun r σ1 h => sp_Mo_isPoint g.2.2.1  h) rfl rfl (by decide) (Nat.le_of_ble_eq_true rfl) d_Mo_readsDeed_47) (fun q4 => ?_)
        refine v_if_eq 74 g d_Mo_readsDeed_50 (by decide) (fun _ => ?_) (fun _ => ?_)
        · refine v_iconst (v := (0 : Int32)) g d_Mo_readsDeed_74 (by decide +kernel) ?_
          exact v_ret d_Mo_readsDeed_75 rfl
        · refine v_aload_n 1 g d_Mo_readsDeed_53 rfl ?_
          refine v_getI g ff_Mo_293 rfl rfl d_Mo_readsDeed_54 ?_
          refine v_iload_n 0 g d_Mo_readsDeed_57 rfl ?_
          refine v_icmp_eq 74 g d_Mo_readsDeed_58 (by decide) (fun _ => ?_) (fun _ => ?_)
          · refine v_iconst (v := (0 : Int32)) g d_Mo_readsDeed_74 (by decide +kernel) ?_
            exact v_ret d_Mo_readsDeed_75 rfl
          · refine v_iload_n 2 g d_Mo_readsDeed_61 rfl ?_
            refine v_iconst (v := (1 : Int32)) g d_Mo_readsDeed_62 (by decide +kernel) ?_
            refine v_icmp_le 76 g d_Mo_readsDeed_63 (by decide) (fun _ => ?_) (fun _ => ?_)
            · refine v_aload_n 1 g d_Mo_readsDeed_76 rfl ?_
              refine v_iload_n 2 g d_Mo_readsDeed_77 rfl ?_
              refine v_iload_n 0 g d_Mo_readsDeed_78 rfl ?_
              refine v_aload_n 1 g d_Mo_readsDeed_79 rfl ?_
              refine v_getI g ff_Mo_293 rfl rfl d_Mo_readsDeed_80 ?_
              refine v_callU (r_V (rest := []) [.int a1, .int (gI q2.2 48 28), .int (gI q4.2 48 28)] g (m1 1485 (by decide +kernel) (by decide +kernel)) yv_Mo_does rfl (fun r σ1 h => sp_Mo_does g.2.2.1  h) rfl rfl (by decide) (Nat.le_of_ble_eq_true rfl) d_Mo_readsDeed_83) (fun q5 => ?_)
              refine v_aload_n 1 g d_Mo_readsDeed_86 rfl ?_
              refine v_callU (r_V (rest := []) [] g (m1 1453 (by decide +kernel) (by decide +kernel)) yv_Mo_next rfl (fun r σ1 h => sp_Mo_next g.2.2.1  h) rfl rfl (by decide) (Nat.le_of_ble_eq_true rfl) d_Mo_readsDeed_87) (fun q6 => ?_)
              refine v_iconst (v := (1 : Int32)) g d_Mo_readsDeed_90 (by decide +kernel) ?_
              exact v_ret d_Mo_readsDeed_91 rfl
            · refine v_aload_n 1 g d_Mo_readsDeed_66 rfl ?_
              refine v_getI g ff_Mo_293 rfl rfl d_Mo_readsDeed_67 ?_
              refine v_iload_n 0 g d_Mo_readsDeed_70 rfl ?_
              refine v_icmp_ge 76 g d_Mo_readsDeed_71 (by decide) (fun _ => ?_) (fun _ => ?_)
              · refine v_aload_n 1 g d_Mo_readsDeed_76 rfl ?_
                refine v_iload_n 2 g d_Mo_readsDeed_77 rfl ?_
                refine v_iload_n 0 g d_Mo_readsDeed_78 rfl ?_
                refine v_aload_n 1 g d_Mo_readsDeed_79 rfl ?_
                refine v_getI g ff_Mo_293 rfl rfl d_Mo_readsDeed_80 ?_
                refine v_callU (r_V (rest := []) [.int a1, .int (gI q2.2 48 28), .int (gI q4.2 48 28)] g (m1 1485 (by decide +kernel) (by decide +kernel)) yv_Mo_does rfl (fun r σ1 h => sp_Mo_does g.2.2.1  h) rfl rfl (by decide) (Nat.le_of_ble_eq_true rfl) d_Mo_readsDeed_83) (fun q7 => ?_)
                refine v_aload_n 1 g d_Mo_readsDeed_86 rfl ?_
                refine v_callU (r_V (rest := []) [] g (m1 1453 (by decide +kernel) (by decide +kernel)) yv_Mo_next rfl (fun r σ1 h => sp_Mo_next g.2.2.1  h) rfl rfl (by decide) (Nat.le_of_ble_eq_true rfl) d_Mo_readsDeed_87) (fun q8 => ?_)
                refine v_iconst (v := (1 : Int32)) g d_Mo_readsDeed_90 (by decide +kernel) ?_
                exact v_ret d_Mo_readsDeed_91 rfl
              · refine v_iconst (v := (0 : Int32)) g d_Mo_readsDeed_74 (by decide +kernel) ?_
                exact v_ret d_Mo_readsDeed_75 rfl
    · refine v_iconst (v := (0 : Int32)) g d_Mo_readsDeed_23 (by decide +kernel) ?_
      exact v_ret d_Mo_readsDeed_24 rfl
def f_Mo_readsDeed (a1 : Int32) (σ : Sto) : Option (Bool × Sto) := B_Mo_readsDeed_0 a1 σ
theorem sp_Mo_readsDeed {l : Launch} {E : En} (hE : Dj E) {a1 : Int32} {σ : Sto} {r : Bool} {σ' : Sto} (h : f_Mo_readsDeed a1 σ = some (r, σ')) : Ct l E y_Mo_readsDeed (wsM y_Mo_readsDeed b_Mo_readsDeed 3 (some .boolean)) 4 [.ref (E.2.1 48), .int a1] σ (eB r) σ' :=
  ct_of hE (by decide +kernel) (Nat.le_of_ble_eq_true rfl) (fun b => Or.inr (Or.inl ⟨rfl, b, rfl⟩)) (fun X _ g => vB_Mo_readsDeed_0 g a1 σ) r σ' h
/-! method FittingRingsModel.readsStatement()Z -/
theorem yv_Mo_readsStatement : YV y_Mo_readsStatement b_Mo_readsStatement 2 (some .boolean) 0 10 := ⟨m1 1463 (by decide +kernel) (by decide +kernel), m1 59 (by decide +kernel) (by decide +kernel), ini_Mo, m1 1464 (by decide +kernel) (by decide +kernel), ⟨by decide +kernel, by decide +kernel, by decide +kernel⟩, by decide, by decide, T_Mo, 39, rfl⟩
theorem d_Mo_readsStatement_0 : decode b_Mo_readsStatement 0 = .ok (.aload_n 0, 1) := by decide +kernel
theorem d_Mo_readsStatement_1 : decode b_Mo_readsStatement 1 = .ok (.invokevirtual 310, 3) := by decide +kernel
theorem d_Mo_readsStatement_4 : decode b_Mo_readsStatement 4 = .ok (.istore_n 1, 1) := by decide +kernel
theorem d_Mo_readsStatement_5 : decode b_Mo_readsStatement 5 = .ok (.iload_n 1, 1) := by decide +kernel
theorem d_Mo_readsStatement_6 : decode b_Mo_readsStatement 6 = .ok (.ifCond .ge 10, 3) := by decide +kernel
theorem d_Mo_readsStatement_9 : decode b_Mo_readsStatement 9 = .ok (.aload_n 0, 1) := by decide +kernel
theorem d_Mo_readsStatement_10 : decode b_Mo_readsStatement 10 = .ok (.invokevirtual 313, 3) := by decide +kernel
theorem d_Mo_readsStatement_13 : decode b_Mo_readsStatement 13 = .ok (.goto 8, 3) := by decide +kernel
theorem d_Mo_readsStatement_16 : decode b_Mo_readsStatement 16 = .ok (.aload_n 0, 1) := by decide +kernel
theorem d_Mo_readsStatement_17 : decode b_Mo_readsStatement 17 = .ok (.iload_n 1, 1) := by decide +kernel
theorem d_Mo_readsStatement_18 : decode b_Mo_readsStatement 18 = .ok (.invokevirtual 317, 3) := by decide +kernel
theorem d_Mo_readsStatement_21 : decode b_Mo_readsStatement 21 = .ok (.ireturn, 1) := by decide +kernel
def B_Mo_readsStatement_0 (σ : Sto) : Option (Bool × Sto) :=
  ((f_Mo_deedHere  σ).bind fun q1 => (if 0 ≤ q1.1 then ((f_Mo_readsDeed q1.1 q1.2).bind fun q2 => some (q2.1, q2.2))
 else ((f_Mo_readsPoint  q1.2).bind fun q3 => some (q3.1, q3.2))))
set_option maxHeartbeats 4000000 in
set_option maxRecDepth 100000 in
theorem vB_Mo_readsStatement_0 {X : Xt} {E : En} (g : GG X E 5 b_Mo_readsStatement R_Mo 2) (σ : Sto) : VV X E b_Mo_readsStatement 2 eB 0 [(0, .ref (E.2.1 48))] [] σ (B_Mo_readsStatement_0 σ) := by
  unfold B_Mo_readsStatement_0
  refine v_aload_n 0 g d_Mo_readsStatement_0 rfl ?_
  refine v_callI (r_V (rest := []) [] g (m1 1465 (by decide +kernel) (by decide +kernel)) yv_Mo_deedHere rfl (fun r σ1 h => sp_Mo_deedHere g.2.2.1  h) rfl rfl (by decide) (Nat.le_of_ble_eq_true rfl) d_Mo_readsStatement_1) (fun q1 => ?_)
  refine v_istore_n [(1, .int q1.1), (0, .ref (E.2.1 48))] g d_Mo_readsStatement_4 (by decide) rfl ?_
  refine v_iload_n 0 g d_Mo_readsStatement_5 rfl ?_
  refine v_if_ge 16 g d_Mo_readsStatement_6 (by decide) (fun _ => ?_) (fun _ => ?_)
  · refine v_aload_n 1 g d_Mo_readsStatement_16 rfl ?_
    refine v_iload_n 0 g d_Mo_readsStatement_17 rfl ?_
    refine v_callB (r_V (rest := []) [.int q1.1] g (m1 1481 (by decide +kernel) (by decide +kernel)) yv_Mo_readsDeed rfl (fun r σ1 h => sp_Mo_readsDeed g.2.2.1  h) rfl rfl (by decide) (Nat.le_of_ble_eq_true rfl) d_Mo_readsStatement_18) (fun q2 => ?_)
    exact v_ret d_Mo_readsStatement_21 rfl
  · refine v_aload_n 1 g d_Mo_readsStatement_9 rfl ?_
    refine v_callB (r_V (rest := []) [] g (m1 1473 (by decide +kernel) (by decide +kernel)) yv_Mo_readsPoint rfl (fun r σ1 h => sp_Mo_readsPoint g.2.2.1  h) rfl rfl (by decide) (Nat.le_of_ble_eq_true rfl) d_Mo_readsStatement_10) (fun q3 => ?_)
    refine v_goto 21 g d_Mo_readsStatement_13 (by decide) ?_
    exact v_ret d_Mo_readsStatement_21 rfl
def f_Mo_readsStatement (σ : Sto) : Option (Bool × Sto) := B_Mo_readsStatement_0 σ
theorem sp_Mo_readsStatement {l : Launch} {E : En} (hE : Dj E) {σ : Sto} {r : Bool} {σ' : Sto} (h : f_Mo_readsStatement σ = some (r, σ')) : Ct l E y_Mo_readsStatement (wsM y_Mo_readsStatement b_Mo_readsStatement 2 (some .boolean)) 5 [.ref (E.2.1 48)] σ (eB r) σ' :=
  ct_of hE (by decide +kernel) (Nat.le_of_ble_eq_true rfl) (fun b => Or.inr (Or.inl ⟨rfl, b, rfl⟩)) (fun X _ g => vB_Mo_readsStatement_0 g σ) r σ' h
/-! method FittingRingsModel.readsAll()I -/
theorem yv_Mo_readsAll : YV y_Mo_readsAll b_Mo_readsAll 3 (some .int) 0 10 := ⟨m1 1451 (by decide +kernel) (by decide +kernel), m1 56 (by decide +kernel) (by decide +kernel), ini_Mo, m1 1452 (by decide +kernel) (by decide +kernel), ⟨by decide +kernel, by decide +kernel, by decide +kernel⟩, by decide, by decide, T_Mo, 39, rfl⟩
theorem d_Mo_readsAll_0 : decode b_Mo_readsAll 0 = .ok (.aload_n 0, 1) := by decide +kernel
theorem d_Mo_readsAll_1 : decode b_Mo_readsAll 1 = .ok (.iconst 0, 1) := by decide +kernel
theorem d_Mo_readsAll_2 : decode b_Mo_readsAll 2 = .ok (.putfield 281, 3) := by decide +kernel
theorem d_Mo_readsAll_5 : decode b_Mo_readsAll 5 = .ok (.aload_n 0, 1) := by decide +kernel
theorem d_Mo_readsAll_6 : decode b_Mo_readsAll 6 = .ok (.invokevirtual 304, 3) := by decide +kernel
theorem d_Mo_readsAll_9 : decode b_Mo_readsAll 9 = .ok (.iconst 1, 1) := by decide +kernel
theorem d_Mo_readsAll_10 : decode b_Mo_readsAll 10 = .ok (.istore_n 1, 1) := by decide +kernel
theorem d_Mo_readsAll_11 : decode b_Mo_readsAll 11 = .ok (.aload_n 0, 1) := by decide +kernel
theorem d_Mo_readsAll_12 : decode b_Mo_readsAll 12 = .ok (.invokevirtual 320, 3) := by decide +kernel
theorem d_Mo_readsAll_15 : decode b_Mo_readsAll 15 = .ok (.istore_n 2, 1) := by decide +kernel
theorem d_Mo_readsAll_16 : decode b_Mo_readsAll 16 = .ok (.iload_n 2, 1) := by decide +kernel
theorem d_Mo_readsAll_17 : decode b_Mo_readsAll 17 = .ok (.ifCond .eq 26, 3) := by decide +kernel
theorem d_Mo_readsAll_20 : decode b_Mo_readsAll 20 = .ok (.aload_n 0, 1) := by decide +kernel
theorem d_Mo_readsAll_21 : decode b_Mo_readsAll 21 = .ok (.getfield 290, 3) := by decide +kernel
theorem d_Mo_readsAll_24 : decode b_Mo_readsAll 24 = .ok (.iconst 3, 1) := by decide +kernel
theorem d_Mo_readsAll_25 : decode b_Mo_readsAll 25 = .ok (.if_icmp .ne 18, 3) := by decide +kernel
theorem d_Mo_readsAll_28 : decode b_Mo_readsAll 28 = .ok (.aload_n 0, 1) := by decide +kernel
theorem d_Mo_readsAll_29 : decode b_Mo_readsAll 29 = .ok (.invokevirtual 304, 3) := by decide +kernel
theorem d_Mo_readsAll_32 : decode b_Mo_readsAll 32 = .ok (.aload_n 0, 1) := by decide +kernel
theorem d_Mo_readsAll_33 : decode b_Mo_readsAll 33 = .ok (.invokevirtual 320, 3) := by decide +kernel
theorem d_Mo_readsAll_36 : decode b_Mo_readsAll 36 = .ok (.istore_n 2, 1) := by decide +kernel
theorem d_Mo_readsAll_37 : decode b_Mo_readsAll 37 = .ok (.iinc 1 1, 3) := by decide +kernel
theorem d_Mo_readsAll_40 : decode b_Mo_readsAll 40 = .ok (.goto (-24), 3) := by decide +kernel
theorem d_Mo_readsAll_43 : decode b_Mo_readsAll 43 = .ok (.iload_n 2, 1) := by decide +kernel
theorem d_Mo_readsAll_44 : decode b_Mo_readsAll 44 = .ok (.ifCond .eq 14, 3) := by decide +kernel
theorem d_Mo_readsAll_47 : decode b_Mo_readsAll 47 = .ok (.aload_n 0, 1) := by decide +kernel
theorem d_Mo_readsAll_48 : decode b_Mo_readsAll 48 = .ok (.getfield 290, 3) := by decide +kernel
theorem d_Mo_readsAll_51 : decode b_Mo_readsAll 51 = .ok (.ifCond .ne 7, 3) := by decide +kernel
theorem d_Mo_readsAll_54 : decode b_Mo_readsAll 54 = .ok (.iload_n 1, 1) := by decide +kernel
theorem d_Mo_readsAll_55 : decode b_Mo_readsAll 55 = .ok (.goto 10, 3) := by decide +kernel
theorem d_Mo_readsAll_58 : decode b_Mo_readsAll 58 = .ok (.bipush (-100), 2) := by decide +kernel
theorem d_Mo_readsAll_60 : decode b_Mo_readsAll 60 = .ok (.aload_n 0, 1) := by decide +kernel
theorem d_Mo_readsAll_61 : decode b_Mo_readsAll 61 = .ok (.getfield 284, 3) := by decide +kernel
theorem d_Mo_readsAll_64 : decode b_Mo_readsAll 64 = .ok (.isub, 1) := by decide +kernel
theorem d_Mo_readsAll_65 : decode b_Mo_readsAll 65 = .ok (.ireturn, 1) := by decide +kernel
def B_Mo_readsAll_16 (k16 : Int32 → Int32 → Sto → Option (Int32 × Sto)) (v1 : Int32) (v2 : Int32) (σ : Sto) : Option (Int32 × Sto) :=
  (if v2 = 0 then (if v2 = 0 then some (((-100 : Int32) - (gI σ 48 26)), σ)
  else (if (gI σ 48 25) = 0 then some (v1, σ)
   else some (((-100 : Int32) - (gI σ 48 26)), σ)))
 else (if (gI σ 48 25) = (3 : Int32) then ((f_Mo_next  σ).bind fun q3 => ((f_Mo_readsStatement  q3.2).bind fun q4 => k16 (v1 + (1 : Int32)) (b2i q4.1) q4.2))
  else (if v2 = 0 then some (((-100 : Int32) - (gI σ 48 26)), σ)
   else (if (gI σ 48 25) = 0 then some (v1, σ)
    else some (((-100 : Int32) - (gI σ 48 26)), σ)))))
set_option maxHeartbeats 4000000 in
set_option maxRecDepth 100000 in
theorem vB_Mo_readsAll_16 {X : Xt} {E : En} (g : GG X E 6 b_Mo_readsAll R_Mo 3) {k16 : Int32 → Int32 → Sto → Option (Int32 × Sto)} (hk16 : ∀ (v1 : Int32) (v2 : Int32) (σ : Sto), VV X E b_Mo_readsAll 3 eI 16 [(0, .ref (E.2.1 48)), (1, .int v1), (2, .int v2)] [] σ (k16 v1 v2 σ)) (v1 : Int32) (v2 : Int32) (σ : Sto) : VV X E b_Mo_readsAll 3 eI 16 [(0, .ref (E.2.1 48)), (1, .int v1), (2, .int v2)] [] σ (B_Mo_readsAll_16 k16 v1 v2 σ) := by
  unfold B_Mo_readsAll_16
  refine v_iload_n 2 g d_Mo_readsAll_16 rfl ?_
  refine v_if_eq 43 g d_Mo_readsAll_17 (by decide) (fun _ => ?_) (fun _ => ?_)
  · refine v_iload_n 2 g d_Mo_readsAll_43 rfl ?_
    refine v_if_eq 58 g d_Mo_readsAll_44 (by decide) (fun _ => ?_) (fun _ => ?_)
    · refine v_bipush (v := (-100 : Int32)) g d_Mo_readsAll_58 (by decide +kernel) ?_
      refine v_aload_n 0 g d_Mo_readsAll_60 rfl ?_
      refine v_getI g ff_Mo_284 rfl rfl d_Mo_readsAll_61 ?_
      refine v_isub g d_Mo_readsAll_64 ?_
      exact v_ret d_Mo_readsAll_65 rfl
    · refine v_aload_n 0 g d_Mo_readsAll_47 rfl ?_
      refine v_getI g ff_Mo_290 rfl rfl d_Mo_readsAll_48 ?_
      refine v_if_ne 58 g d_Mo_readsAll_51 (by decide) (fun _ => ?_) (fun _ => ?_)
      · refine v_bipush (v := (-100 : Int32)) g d_Mo_readsAll_58 (by decide +kernel) ?_
        refine v_aload_n 0 g d_Mo_readsAll_60 rfl ?_
        refine v_getI g ff_Mo_284 rfl rfl d_Mo_readsAll_61 ?_
        refine v_isub g d_Mo_readsAll_64 ?_
        exact v_ret d_Mo_readsAll_65 rfl
      · refine v_iload_n 1 g d_Mo_readsAll_54 rfl ?_
        refine v_goto 65 g d_Mo_readsAll_55 (by decide) ?_
        exact v_ret d_Mo_readsAll_65 rfl
  · refine v_aload_n 0 g d_Mo_readsAll_20 rfl ?_
    refine v_getI g ff_Mo_290 rfl rfl d_Mo_readsAll_21 ?_
    refine v_iconst (v := (3 : Int32)) g d_Mo_readsAll_24 (by decide +kernel) ?_
    refine v_icmp_ne 43 g d_Mo_readsAll_25 (by decide) (fun _ => ?_) (fun _ => ?_)
    · refine v_iload_n 2 g d_Mo_readsAll_43 rfl ?_
      refine v_if_eq 58 g d_Mo_readsAll_44 (by decide) (fun _ => ?_) (fun _ => ?_)
      · refine v_bipush (v := (-100 : Int32)) g d_Mo_readsAll_58 (by decide +kernel) ?_
        refine v_aload_n 0 g d_Mo_readsAll_60 rfl ?_
        refine v_getI g ff_Mo_284 rfl rfl d_Mo_readsAll_61 ?_
        refine v_isub g d_Mo_readsAll_64 ?_
        exact v_ret d_Mo_readsAll_65 rfl
      · refine v_aload_n 0 g d_Mo_readsAll_47 rfl ?_
        refine v_getI g ff_Mo_290 rfl rfl d_Mo_readsAll_48 ?_
        refine v_if_ne 58 g d_Mo_readsAll_51 (by decide) (fun _ => ?_) (fun _ => ?_)
        · refine v_bipush (v := (-100 : Int32)) g d_Mo_readsAll_58 (by decide +kernel) ?_
          refine v_aload_n 0 g d_Mo_readsAll_60 rfl ?_
          refine v_getI g ff_Mo_284 rfl rfl d_Mo_readsAll_61 ?_
          refine v_isub g d_Mo_readsAll_64 ?_
          exact v_ret d_Mo_readsAll_65 rfl
        · refine v_iload_n 1 g d_Mo_readsAll_54 rfl ?_
          refine v_goto 65 g d_Mo_readsAll_55 (by decide) ?_
          exact v_ret d_Mo_readsAll_65 rfl
    · refine v_aload_n 0 g d_Mo_readsAll_28 rfl ?_
      refine v_callU (r_V (rest := []) [] g (m1 1453 (by decide +kernel) (by decide +kernel)) yv_Mo_next rfl (fun r σ1 h => sp_Mo_next g.2.2.1  h) rfl rfl (by decide) (Nat.le_of_ble_eq_true rfl) d_Mo_readsAll_29) (fun q3 => ?_)
      refine v_aload_n 0 g d_Mo_readsAll_32 rfl ?_
      refine v_callB (r_V (rest := []) [] g (m1 1461 (by decide +kernel) (by decide +kernel)) yv_Mo_readsStatement rfl (fun r σ1 h => sp_Mo_readsStatement g.2.2.1  h) rfl rfl (by decide) (Nat.le_of_ble_eq_true rfl) d_Mo_readsAll_33) (fun q4 => ?_)
      refine v_istore_n [(2, .int (b2i q4.1)), (0, .ref (E.2.1 48)), (1, .int v1)] g d_Mo_readsAll_36 (by decide) rfl ?_
      refine v_iinc 2 [(1, .int (v1 + (1 : Int32))), (2, .int (b2i q4.1)), (0, .ref (E.2.1 48))] g d_Mo_readsAll_37 rfl (v := (1 : Int32)) (by decide +kernel) (by decide) rfl ?_
      refine v_goto 16 g d_Mo_readsAll_40 (by decide) ?_
      exact v_sub [2,0,1] rfl (hk16 (v1 + (1 : Int32)) (b2i q4.1) q4.2)
def L_Mo_readsAll_16 : Nat → Int32 → Int32 → Sto → Option (Int32 × Sto)
  | 0, _, _, _ => none
  | fu + 1, v1, v2, σ => B_Mo_readsAll_16 (L_Mo_readsAll_16 fu) v1 v2 σ
theorem vL_Mo_readsAll_16 {X : Xt} {E : En} (g : GG X E 6 b_Mo_readsAll R_Mo 3) (fu : Nat) : ∀ (v1 : Int32) (v2 : Int32) (σ : Sto), VV X E b_Mo_readsAll 3 eI 16 [(0, .ref (E.2.1 48)), (1, .int v1), (2, .int v2)] [] σ (L_Mo_readsAll_16 fu v1 v2 σ) := by
  induction fu with
  | zero => intros; exact v_none
  | succ fu ih =>
    intro v1 v2 σ
    exact vB_Mo_readsAll_16 g ih v1 v2 σ
def B_Mo_readsAll_0 (σ : Sto) : Option (Int32 × Sto) :=
  ((f_Mo_next  (sI σ 48 27 (0 : Int32))).bind fun q1 => ((f_Mo_readsStatement  q1.2).bind fun q2 => L_Mo_readsAll_16 LF (1 : Int32) (b2i q2.1) q2.2))
set_option maxHeartbeats 4000000 in
set_option maxRecDepth 100000 in
theorem vB_Mo_readsAll_0 {X : Xt} {E : En} (g : GG X E 6 b_Mo_readsAll R_Mo 3) (σ : Sto) : VV X E b_Mo_readsAll 3 eI 0 [(0, .ref (E.2.1 48))] [] σ (B_Mo_readsAll_0 σ) := by
  unfold B_Mo_readsAll_0
  refine v_aload_n 0 g d_Mo_readsAll_0 rfl ?_
  refine v_iconst (v := (0 : Int32)) g d_Mo_readsAll_1 (by decide +kernel) ?_
  refine v_putI g fp_Mo_281 rfl rfl d_Mo_readsAll_2 ?_
  refine v_aload_n 0 g d_Mo_readsAll_5 rfl ?_
  refine v_callU (r_V (rest := []) [] g (m1 1453 (by decide +kernel) (by decide +kernel)) yv_Mo_next rfl (fun r σ1 h => sp_Mo_next g.2.2.1  h) rfl rfl (by decide) (Nat.le_of_ble_eq_true rfl) d_Mo_readsAll_6) (fun q1 => ?_)
  refine v_iconst (v := (1 : Int32)) g d_Mo_readsAll_9 (by decide +kernel) ?_
  refine v_istore_n [(1, .int (1 : Int32)), (0, .ref (E.2.1 48))] g d_Mo_readsAll_10 (by decide) rfl ?_
  refine v_aload_n 1 g d_Mo_readsAll_11 rfl ?_
  refine v_callB (r_V (rest := []) [] g (m1 1461 (by decide +kernel) (by decide +kernel)) yv_Mo_readsStatement rfl (fun r σ1 h => sp_Mo_readsStatement g.2.2.1  h) rfl rfl (by decide) (Nat.le_of_ble_eq_true rfl) d_Mo_readsAll_12) (fun q2 => ?_)
  refine v_istore_n [(2, .int (b2i q2.1)), (1, .int (1 : Int32)), (0, .ref (E.2.1 48))] g d_Mo_readsAll_15 (by decide) rfl ?_
  exact v_sub [2,1,0] rfl (vL_Mo_readsAll_16 g LF (1 : Int32) (b2i q2.1) q2.2)
def f_Mo_readsAll (σ : Sto) : Option (Int32 × Sto) := B_Mo_readsAll_0 σ
theorem sp_Mo_readsAll {l : Launch} {E : En} (hE : Dj E) {σ : Sto} {r : Int32} {σ' : Sto} (h : f_Mo_readsAll σ = some (r, σ')) : Ct l E y_Mo_readsAll (wsM y_Mo_readsAll b_Mo_readsAll 3 (some .int)) 6 [.ref (E.2.1 48)] σ (eI r) σ' :=
  ct_of hE (by decide +kernel) (Nat.le_of_ble_eq_true rfl) (fun x => Or.inl ⟨rfl, x, rfl⟩) (fun X _ g => vB_Mo_readsAll_0 g σ) r σ' h
/-! method FittingRingsModel.copies([I[I[I[I[J[J)V -/
theorem ys_Mo_copies : YS y_Mo_copies b_Mo_copies 7 (none) 6 := ⟨m1 1447 (by decide +kernel) (by decide +kernel), ini_Mo, m1 1448 (by decide +kernel) (by decide +kernel), ⟨by decide +kernel, by decide +kernel, by decide +kernel⟩, by decide⟩
theorem d_Mo_copies_0 : decode b_Mo_copies 0 = .ok (.iconst 0, 1) := by decide +kernel
theorem d_Mo_copies_1 : decode b_Mo_copies 1 = .ok (.istore 6, 2) := by decide +kernel
theorem d_Mo_copies_3 : decode b_Mo_copies 3 = .ok (.iload 6, 2) := by decide +kernel
theorem d_Mo_copies_5 : decode b_Mo_copies 5 = .ok (.bipush 40, 2) := by decide +kernel
theorem d_Mo_copies_7 : decode b_Mo_copies 7 = .ok (.if_icmp .ge 35, 3) := by decide +kernel
theorem d_Mo_copies_10 : decode b_Mo_copies 10 = .ok (.aload_n 1, 1) := by decide +kernel
theorem d_Mo_copies_11 : decode b_Mo_copies 11 = .ok (.iload 6, 2) := by decide +kernel
theorem d_Mo_copies_13 : decode b_Mo_copies 13 = .ok (.aload_n 0, 1) := by decide +kernel
theorem d_Mo_copies_14 : decode b_Mo_copies 14 = .ok (.iload 6, 2) := by decide +kernel
theorem d_Mo_copies_16 : decode b_Mo_copies 16 = .ok (.iaload, 1) := by decide +kernel
theorem d_Mo_copies_17 : decode b_Mo_copies 17 = .ok (.iastore, 1) := by decide +kernel
theorem d_Mo_copies_18 : decode b_Mo_copies 18 = .ok (.aload_n 3, 1) := by decide +kernel
theorem d_Mo_copies_19 : decode b_Mo_copies 19 = .ok (.iload 6, 2) := by decide +kernel
theorem d_Mo_copies_21 : decode b_Mo_copies 21 = .ok (.aload_n 2, 1) := by decide +kernel
theorem d_Mo_copies_22 : decode b_Mo_copies 22 = .ok (.iload 6, 2) := by decide +kernel
theorem d_Mo_copies_24 : decode b_Mo_copies 24 = .ok (.iaload, 1) := by decide +kernel
theorem d_Mo_copies_25 : decode b_Mo_copies 25 = .ok (.iastore, 1) := by decide +kernel
theorem d_Mo_copies_26 : decode b_Mo_copies 26 = .ok (.aload 5, 2) := by decide +kernel
theorem d_Mo_copies_28 : decode b_Mo_copies 28 = .ok (.iload 6, 2) := by decide +kernel
theorem d_Mo_copies_30 : decode b_Mo_copies 30 = .ok (.aload 4, 2) := by decide +kernel
theorem d_Mo_copies_32 : decode b_Mo_copies 32 = .ok (.iload 6, 2) := by decide +kernel
theorem d_Mo_copies_34 : decode b_Mo_copies 34 = .ok (.laload, 1) := by decide +kernel
theorem d_Mo_copies_35 : decode b_Mo_copies 35 = .ok (.lastore, 1) := by decide +kernel
theorem d_Mo_copies_36 : decode b_Mo_copies 36 = .ok (.iinc 6 1, 3) := by decide +kernel
theorem d_Mo_copies_39 : decode b_Mo_copies 39 = .ok (.goto (-36), 3) := by decide +kernel
theorem d_Mo_copies_42 : decode b_Mo_copies 42 = .ok (.return_, 1) := by decide +kernel
def B_Mo_copies_3 (k3 : Nat → Nat → Nat → Nat → Nat → Nat → Int32 → Sto → Option (Unit × Sto)) (v0 : Nat) (v1 : Nat) (v2 : Nat) (v3 : Nat) (v4 : Nat) (v5 : Nat) (v6 : Int32) (σ : Sto) : Option (Unit × Sto) :=
  (if (40 : Int32) ≤ v6 then some ((), σ)
 else (if inb v6 (ln v0) = true then (if inb v6 (ln v1) = true then (lt1 (sI σ v1 (Int32.toNatClampNeg v6) (gI σ v0 (Int32.toNatClampNeg v6))) fun σ1 => (if inb v6 (ln v2) = true then (if inb v6 (ln v3) = true then (lt1 (sI σ1 v3 (Int32.toNatClampNeg v6) (gI σ1 v2 (Int32.toNatClampNeg v6))) fun σ2 => (if inb v6 (ln v4) = true then (if inb v6 (ln v5) = true then (lt1 (sL σ2 v5 (Int32.toNatClampNeg v6) (gL σ2 v4 (Int32.toNatClampNeg v6))) fun σ3 => k3 v0 v1 v2 v3 v4 v5 (v6 + (1 : Int32)) σ3) else none) else none)) else none) else none)) else none) else none))
set_option maxHeartbeats 4000000 in
set_option maxRecDepth 100000 in
theorem vB_Mo_copies_3 {X : Xt} {E : En} (g : GG X E 1 b_Mo_copies R_Mo 7) {k3 : Nat → Nat → Nat → Nat → Nat → Nat → Int32 → Sto → Option (Unit × Sto)} (hk3 : ∀ (v0 : Nat) (v1 : Nat) (v2 : Nat) (v3 : Nat) (v4 : Nat) (v5 : Nat) (v6 : Int32) (hv0 : cls v0 = 100) (hv1 : cls v1 = 100) (hv2 : cls v2 = 100) (hv3 : cls v3 = 100) (hv4 : cls v4 = 101) (hv5 : cls v5 = 101) (σ : Sto), VV X E b_Mo_copies 7 eU 3 [(0, .ref (E.2.1 v0)), (1, .ref (E.2.1 v1)), (2, .ref (E.2.1 v2)), (3, .ref (E.2.1 v3)), (4, .ref (E.2.1 v4)), (5, .ref (E.2.1 v5)), (6, .int v6)] [] σ (k3 v0 v1 v2 v3 v4 v5 v6 σ)) (v0 : Nat) (v1 : Nat) (v2 : Nat) (v3 : Nat) (v4 : Nat) (v5 : Nat) (v6 : Int32) (hv0 : cls v0 = 100) (hv1 : cls v1 = 100) (hv2 : cls v2 = 100) (hv3 : cls v3 = 100) (hv4 : cls v4 = 101) (hv5 : cls v5 = 101) (σ : Sto) : VV X E b_Mo_copies 7 eU 3 [(0, .ref (E.2.1 v0)), (1, .ref (E.2.1 v1)), (2, .ref (E.2.1 v2)), (3, .ref (E.2.1 v3)), (4, .ref (E.2.1 v4)), (5, .ref (E.2.1 v5)), (6, .int v6)] [] σ (B_Mo_copies_3 k3 v0 v1 v2 v3 v4 v5 v6 σ) := by
  unfold B_Mo_copies_3
  refine v_iload 6 g d_Mo_copies_3 rfl ?_
  refine v_bipush (v := (40 : Int32)) g d_Mo_copies_5 (by decide +kernel) ?_
  refine v_icmp_ge 42 g d_Mo_copies_7 (by decide) (fun _ => ?_) (fun _ => ?_)
  · exact v_ret d_Mo_copies_42 rfl
  · refine v_aload_n 1 g d_Mo_copies_10 rfl ?_
    refine v_iload 6 g d_Mo_copies_11 rfl ?_
    refine v_aload_n 0 g d_Mo_copies_13 rfl ?_
    refine v_iload 6 g d_Mo_copies_14 rfl ?_
    refine v_iald g hv0 rfl d_Mo_copies_16 (fun _ => ?_)
    refine v_iast g hv1 rfl d_Mo_copies_17 (fun _ => ?_)
    refine v_nlet (fun σ1 eσ1 => ?_)
    rw [← eσ1]
    refine v_aload_n 3 g d_Mo_copies_18 rfl ?_
    refine v_iload 6 g d_Mo_copies_19 rfl ?_
    refine v_aload_n 2 g d_Mo_copies_21 rfl ?_
    refine v_iload 6 g d_Mo_copies_22 rfl ?_
    refine v_iald g hv2 rfl d_Mo_copies_24 (fun _ => ?_)
    refine v_iast g hv3 rfl d_Mo_copies_25 (fun _ => ?_)
    refine v_nlet (fun σ2 eσ2 => ?_)
    rw [← eσ2]
    refine v_aload 5 g d_Mo_copies_26 rfl ?_
    refine v_iload 6 g d_Mo_copies_28 rfl ?_
    refine v_aload 4 g d_Mo_copies_30 rfl ?_
    refine v_iload 6 g d_Mo_copies_32 rfl ?_
    refine v_lald g hv4 rfl d_Mo_copies_34 (fun _ => ?_)
    refine v_last g hv5 rfl d_Mo_copies_35 (fun _ => ?_)
    refine v_nlet (fun σ3 eσ3 => ?_)
    rw [← eσ3]
    refine v_iinc 6 [(6, .int (v6 + (1 : Int32))), (0, .ref (E.2.1 v0)), (1, .ref (E.2.1 v1)), (2, .ref (E.2.1 v2)), (3, .ref (E.2.1 v3)), (4, .ref (E.2.1 v4)), (5, .ref (E.2.1 v5))] g d_Mo_copies_36 rfl (v := (1 : Int32)) (by decide +kernel) (by decide) rfl ?_
    refine v_goto 3 g d_Mo_copies_39 (by decide) ?_
    exact v_sub [1,2,3,4,5,6,0] rfl (hk3 v0 v1 v2 v3 v4 v5 (v6 + (1 : Int32)) hv0 hv1 hv2 hv3 hv4 hv5 σ3)
def L_Mo_copies_3 : Nat → Nat → Nat → Nat → Nat → Nat → Nat → Int32 → Sto → Option (Unit × Sto)
  | 0, _, _, _, _, _, _, _, _ => none
  | fu + 1, v0, v1, v2, v3, v4, v5, v6, σ => B_Mo_copies_3 (L_Mo_copies_3 fu) v0 v1 v2 v3 v4 v5 v6 σ
theorem vL_Mo_copies_3 {X : Xt} {E : En} (g : GG X E 1 b_Mo_copies R_Mo 7) (fu : Nat) : ∀ (v0 : Nat) (v1 : Nat) (v2 : Nat) (v3 : Nat) (v4 : Nat) (v5 : Nat) (v6 : Int32) (hv0 : cls v0 = 100) (hv1 : cls v1 = 100) (hv2 : cls v2 = 100) (hv3 : cls v3 = 100) (hv4 : cls v4 = 101) (hv5 : cls v5 = 101) (σ : Sto), VV X E b_Mo_copies 7 eU 3 [(0, .ref (E.2.1 v0)), (1, .ref (E.2.1 v1)), (2, .ref (E.2.1 v2)), (3, .ref (E.2.1 v3)), (4, .ref (E.2.1 v4)), (5, .ref (E.2.1 v5)), (6, .int v6)] [] σ (L_Mo_copies_3 fu v0 v1 v2 v3 v4 v5 v6 σ) := by
  induction fu with
  | zero => intros; exact v_none
  | succ fu ih =>
    intro v0 v1 v2 v3 v4 v5 v6 hv0 hv1 hv2 hv3 hv4 hv5 σ
    exact vB_Mo_copies_3 g ih v0 v1 v2 v3 v4 v5 v6 hv0 hv1 hv2 hv3 hv4 hv5 σ
def B_Mo_copies_0 (a0 : Nat) (a1 : Nat) (a2 : Nat) (a3 : Nat) (a4 : Nat) (a5 : Nat) (σ : Sto) : Option (Unit × Sto) :=
  L_Mo_copies_3 LF a0 a1 a2 a3 a4 a5 (0 : Int32) σ
set_option maxHeartbeats 4000000 in
set_option maxRecDepth 100000 in
theorem vB_Mo_copies_0 {X : Xt} {E : En} (g : GG X E 1 b_Mo_copies R_Mo 7) (a0 : Nat) (a1 : Nat) (a2 : Nat) (a3 : Nat) (a4 : Nat) (a5 : Nat) (ha0 : cls a0 = 100) (ha1 : cls a1 = 100) (ha2 : cls a2 = 100) (ha3 : cls a3 = 100) (ha4 : cls a4 = 101) (ha5 : cls a5 = 101) (σ : Sto) : VV X E b_Mo_copies 7 eU 0 [(0, .ref (E.2.1 a0)), (1, .ref (E.2.1 a1)), (2, .ref (E.2.1 a2)), (3, .ref (E.2.1 a3)), (4, .ref (E.2.1 a4)), (5, .ref (E.2.1 a5))] [] σ (B_Mo_copies_0 a0 a1 a2 a3 a4 a5 σ) := by
  unfold B_Mo_copies_0
  refine v_iconst (v := (0 : Int32)) g d_Mo_copies_0 (by decide +kernel) ?_
  refine v_istore [(6, .int (0 : Int32)), (0, .ref (E.2.1 a0)), (1, .ref (E.2.1 a1)), (2, .ref (E.2.1 a2)), (3, .ref (E.2.1 a3)), (4, .ref (E.2.1 a4)), (5, .ref (E.2.1 a5))] g d_Mo_copies_1 (by decide) rfl ?_
  exact v_sub [1,2,3,4,5,6,0] rfl (vL_Mo_copies_3 g LF a0 a1 a2 a3 a4 a5 (0 : Int32) ha0 ha1 ha2 ha3 ha4 ha5 σ)
def f_Mo_copies (a0 : Nat) (a1 : Nat) (a2 : Nat) (a3 : Nat) (a4 : Nat) (a5 : Nat) (σ : Sto) : Option (Unit × Sto) := B_Mo_copies_0 a0 a1 a2 a3 a4 a5 σ
theorem sp_Mo_copies {l : Launch} {E : En} (hE : Dj E) {a0 : Nat} {a1 : Nat} {a2 : Nat} {a3 : Nat} {a4 : Nat} {a5 : Nat} (ha0 : cls a0 = 100) (ha1 : cls a1 = 100) (ha2 : cls a2 = 100) (ha3 : cls a3 = 100) (ha4 : cls a4 = 101) (ha5 : cls a5 = 101) {σ : Sto} {r : Unit} {σ' : Sto} (h : f_Mo_copies a0 a1 a2 a3 a4 a5 σ = some (r, σ')) : Ct l E y_Mo_copies (wsM y_Mo_copies b_Mo_copies 7 (none)) 1 [.ref (E.2.1 a0), .ref (E.2.1 a1), .ref (E.2.1 a2), .ref (E.2.1 a3), .ref (E.2.1 a4), .ref (E.2.1 a5)] σ (eU r) σ' :=
  ct_of hE (by decide +kernel) (Nat.le_of_ble_eq_true rfl) (fun _ => Or.inr (Or.inr (Or.inr (Or.inl ⟨rfl, rfl⟩)))) (fun X _ g => vB_Mo_copies_0 g a0 a1 a2 a3 a4 a5 ha0 ha1 ha2 ha3 ha4 ha5 σ) r σ' h
/-! method FittingRingsModel.text()I -/
theorem yv_Mo_text : YV y_Mo_text b_Mo_text 3 (some .int) 0 10 := ⟨m1 1443 (by decide +kernel) (by decide +kernel), m1 1444 (by decide +kernel) (by decide +kernel), ini_Mo, m1 1445 (by decide +kernel) (by decide +kernel), ⟨by decide +kernel, by decide +kernel, by decide +kernel⟩, by decide, by decide, T_Mo, 39, rfl⟩
theorem d_Mo_text_0 : decode b_Mo_text 0 = .ok (.aload_n 0, 1) := by decide +kernel
theorem d_Mo_text_1 : decode b_Mo_text 1 = .ok (.getfield 80, 3) := by decide +kernel
theorem d_Mo_text_4 : decode b_Mo_text 4 = .ok (.istore_n 1, 1) := by decide +kernel
theorem d_Mo_text_5 : decode b_Mo_text 5 = .ok (.aload_n 0, 1) := by decide +kernel
theorem d_Mo_text_6 : decode b_Mo_text 6 = .ok (.getfield 9, 3) := by decide +kernel
theorem d_Mo_text_9 : decode b_Mo_text 9 = .ok (.aload_n 0, 1) := by decide +kernel
theorem d_Mo_text_10 : decode b_Mo_text 10 = .ok (.getfield 56, 3) := by decide +kernel
theorem d_Mo_text_13 : decode b_Mo_text 13 = .ok (.aload_n 0, 1) := by decide +kernel
theorem d_Mo_text_14 : decode b_Mo_text 14 = .ok (.getfield 13, 3) := by decide +kernel
theorem d_Mo_text_17 : decode b_Mo_text 17 = .ok (.aload_n 0, 1) := by decide +kernel
theorem d_Mo_text_18 : decode b_Mo_text 18 = .ok (.getfield 53, 3) := by decide +kernel
theorem d_Mo_text_21 : decode b_Mo_text 21 = .ok (.aload_n 0, 1) := by decide +kernel
theorem d_Mo_text_22 : decode b_Mo_text 22 = .ok (.getfield 16, 3) := by decide +kernel
theorem d_Mo_text_25 : decode b_Mo_text 25 = .ok (.aload_n 0, 1) := by decide +kernel
theorem d_Mo_text_26 : decode b_Mo_text 26 = .ok (.getfield 59, 3) := by decide +kernel
theorem d_Mo_text_29 : decode b_Mo_text 29 = .ok (.invokestatic 323, 3) := by decide +kernel
theorem d_Mo_text_32 : decode b_Mo_text 32 = .ok (.aload_n 0, 1) := by decide +kernel
theorem d_Mo_text_33 : decode b_Mo_text 33 = .ok (.invokevirtual 327, 3) := by decide +kernel
theorem d_Mo_text_36 : decode b_Mo_text 36 = .ok (.istore_n 2, 1) := by decide +kernel
theorem d_Mo_text_37 : decode b_Mo_text 37 = .ok (.aload_n 0, 1) := by decide +kernel
theorem d_Mo_text_38 : decode b_Mo_text 38 = .ok (.iconst 0, 1) := by decide +kernel
theorem d_Mo_text_39 : decode b_Mo_text 39 = .ok (.putfield 276, 3) := by decide +kernel
theorem d_Mo_text_42 : decode b_Mo_text 42 = .ok (.iload_n 2, 1) := by decide +kernel
theorem d_Mo_text_43 : decode b_Mo_text 43 = .ok (.ifCond .ge 35, 3) := by decide +kernel
theorem d_Mo_text_46 : decode b_Mo_text 46 = .ok (.aload_n 0, 1) := by decide +kernel
theorem d_Mo_text_47 : decode b_Mo_text 47 = .ok (.iload_n 1, 1) := by decide +kernel
theorem d_Mo_text_48 : decode b_Mo_text 48 = .ok (.putfield 80, 3) := by decide +kernel
theorem d_Mo_text_51 : decode b_Mo_text 51 = .ok (.aload_n 0, 1) := by decide +kernel
theorem d_Mo_text_52 : decode b_Mo_text 52 = .ok (.getfield 56, 3) := by decide +kernel
theorem d_Mo_text_55 : decode b_Mo_text 55 = .ok (.aload_n 0, 1) := by decide +kernel
theorem d_Mo_text_56 : decode b_Mo_text 56 = .ok (.getfield 9, 3) := by decide +kernel
theorem d_Mo_text_59 : decode b_Mo_text 59 = .ok (.aload_n 0, 1) := by decide +kernel
theorem d_Mo_text_60 : decode b_Mo_text 60 = .ok (.getfield 53, 3) := by decide +kernel
theorem d_Mo_text_63 : decode b_Mo_text 63 = .ok (.aload_n 0, 1) := by decide +kernel
theorem d_Mo_text_64 : decode b_Mo_text 64 = .ok (.getfield 13, 3) := by decide +kernel
theorem d_Mo_text_67 : decode b_Mo_text 67 = .ok (.aload_n 0, 1) := by decide +kernel
theorem d_Mo_text_68 : decode b_Mo_text 68 = .ok (.getfield 59, 3) := by decide +kernel
theorem d_Mo_text_71 : decode b_Mo_text 71 = .ok (.aload_n 0, 1) := by decide +kernel
theorem d_Mo_text_72 : decode b_Mo_text 72 = .ok (.getfield 16, 3) := by decide +kernel
theorem d_Mo_text_75 : decode b_Mo_text 75 = .ok (.invokestatic 323, 3) := by decide +kernel
theorem d_Mo_text_78 : decode b_Mo_text 78 = .ok (.iload_n 2, 1) := by decide +kernel
theorem d_Mo_text_79 : decode b_Mo_text 79 = .ok (.ireturn, 1) := by decide +kernel
def B_Mo_text_0 (σ : Sto) : Option (Int32 × Sto) :=
  ((f_Mo_copies 49 64 50 63 51 65 σ).bind fun q1 => ((f_Mo_readsAll  q1.2).bind fun q2 => (if 0 ≤ q2.1 then some (q2.1, (sI q2.2 48 24 (0 : Int32)))
 else ((f_Mo_copies 64 49 63 50 65 51 (sI (sI q2.2 48 24 (0 : Int32)) 48 0 (gI σ 48 0))).bind fun q3 => some (q2.1, q3.2)))))
set_option maxHeartbeats 4000000 in
set_option maxRecDepth 100000 in
theorem vB_Mo_text_0 {X : Xt} {E : En} (g : GG X E 7 b_Mo_text R_Mo 3) (σ : Sto) : VV X E b_Mo_text 3 eI 0 [(0, .ref (E.2.1 48))] [] σ (B_Mo_text_0 σ) := by
  unfold B_Mo_text_0
  refine v_aload_n 0 g d_Mo_text_0 rfl ?_
  refine v_getI g ff_Mo_80 rfl rfl d_Mo_text_1 ?_
  refine v_istore_n [(1, .int (gI σ 48 0)), (0, .ref (E.2.1 48))] g d_Mo_text_4 (by decide) rfl ?_
  refine v_aload_n 1 g d_Mo_text_5 rfl ?_
  refine v_getR 49 g ff_Mo_9 rfl rfl rfl d_Mo_text_6 ?_
  refine v_aload_n 1 g d_Mo_text_9 rfl ?_
  refine v_getR 64 g ff_Mo_56 rfl rfl rfl d_Mo_text_10 ?_
  refine v_aload_n 1 g d_Mo_text_13 rfl ?_
  refine v_getR 50 g ff_Mo_13 rfl rfl rfl d_Mo_text_14 ?_
  refine v_aload_n 1 g d_Mo_text_17 rfl ?_
  refine v_getR 63 g ff_Mo_53 rfl rfl rfl d_Mo_text_18 ?_
  refine v_aload_n 1 g d_Mo_text_21 rfl ?_
  refine v_getR 51 g ff_Mo_16 rfl rfl rfl d_Mo_text_22 ?_
  refine v_aload_n 1 g d_Mo_text_25 rfl ?_
  refine v_getR 65 g ff_Mo_59 rfl rfl rfl d_Mo_text_26 ?_
  refine v_callU (r_S (rest := []) [.ref (E.2.1 49), .ref (E.2.1 64), .ref (E.2.1 50), .ref (E.2.1 63), .ref (E.2.1 51), .ref (E.2.1 65)] g (m1 1446 (by decide +kernel) (by decide +kernel)) ys_Mo_copies (fun r σ1 h => sp_Mo_copies g.2.2.1 rfl rfl rfl rfl rfl rfl h) rfl rfl (by decide) (Nat.le_of_ble_eq_true rfl) d_Mo_text_29) (fun q1 => ?_)
  refine v_aload_n 1 g d_Mo_text_32 rfl ?_
  refine v_callI (r_V (rest := []) [] g (m1 1449 (by decide +kernel) (by decide +kernel)) yv_Mo_readsAll rfl (fun r σ1 h => sp_Mo_readsAll g.2.2.1  h) rfl rfl (by decide) (Nat.le_of_ble_eq_true rfl) d_Mo_text_33) (fun q2 => ?_)
  refine v_istore_n [(2, .int q2.1), (1, .int (gI σ 48 0)), (0, .ref (E.2.1 48))] g d_Mo_text_36 (by decide) rfl ?_
  refine v_aload_n 2 g d_Mo_text_37 rfl ?_
  refine v_iconst (v := (0 : Int32)) g d_Mo_text_38 (by decide +kernel) ?_
  refine v_putI g fp_Mo_276 rfl rfl d_Mo_text_39 ?_
  refine v_iload_n 0 g d_Mo_text_42 rfl ?_
  refine v_if_ge 78 g d_Mo_text_43 (by decide) (fun _ => ?_) (fun _ => ?_)
  · refine v_iload_n 0 g d_Mo_text_78 rfl ?_
    exact v_ret d_Mo_text_79 rfl
  · refine v_aload_n 2 g d_Mo_text_46 rfl ?_
    refine v_iload_n 1 g d_Mo_text_47 rfl ?_
    refine v_putI g fp_Mo_80 rfl rfl d_Mo_text_48 ?_
    refine v_aload_n 2 g d_Mo_text_51 rfl ?_
    refine v_getR 64 g ff_Mo_56 rfl rfl rfl d_Mo_text_52 ?_
    refine v_aload_n 2 g d_Mo_text_55 rfl ?_
    refine v_getR 49 g ff_Mo_9 rfl rfl rfl d_Mo_text_56 ?_
    refine v_aload_n 2 g d_Mo_text_59 rfl ?_
    refine v_getR 63 g ff_Mo_53 rfl rfl rfl d_Mo_text_60 ?_
    refine v_aload_n 2 g d_Mo_text_63 rfl ?_
    refine v_getR 50 g ff_Mo_13 rfl rfl rfl d_Mo_text_64 ?_
    refine v_aload_n 2 g d_Mo_text_67 rfl ?_
    refine v_getR 65 g ff_Mo_59 rfl rfl rfl d_Mo_text_68 ?_
    refine v_aload_n 2 g d_Mo_text_71 rfl ?_
    refine v_getR 51 g ff_Mo_16 rfl rfl rfl d_Mo_text_72 ?_
    refine v_callU (r_S (rest := []) [.ref (E.2.1 64), .ref (E.2.1 49), .ref (E.2.1 63), .ref (E.2.1 50), .ref (E.2.1 65), .ref (E.2.1 51)] g (m1 1446 (by decide +kernel) (by decide +kernel)) ys_Mo_copies (fun r σ1 h => sp_Mo_copies g.2.2.1 rfl rfl rfl rfl rfl rfl h) rfl rfl (by decide) (Nat.le_of_ble_eq_true rfl) d_Mo_text_75) (fun q3 => ?_)
    refine v_iload_n 0 g d_Mo_text_78 rfl ?_
    exact v_ret d_Mo_text_79 rfl
def f_Mo_text (σ : Sto) : Option (Int32 × Sto) := B_Mo_text_0 σ
theorem sp_Mo_text {l : Launch} {E : En} (hE : Dj E) {σ : Sto} {r : Int32} {σ' : Sto} (h : f_Mo_text σ = some (r, σ')) : Ct l E y_Mo_text (wsM y_Mo_text b_Mo_text 3 (some .int)) 7 [.ref (E.2.1 48)] σ (eI r) σ' :=
  ct_of hE (by decide +kernel) (Nat.le_of_ble_eq_true rfl) (fun x => Or.inl ⟨rfl, x, rfl⟩) (fun X _ g => vB_Mo_text_0 g σ) r σ' h
/-! method FittingRingsModel.draw(I)I -/
theorem yv_Mo_draw : YV y_Mo_draw b_Mo_draw 2 (some .int) 1 10 := ⟨m1 1497 (by decide +kernel) (by decide +kernel), m1 66 (by decide +kernel) (by decide +kernel), ini_Mo, m1 1498 (by decide +kernel) (by decide +kernel), ⟨by decide +kernel, by decide +kernel, by decide +kernel⟩, by decide, by decide, T_Mo, 39, rfl⟩
theorem d_Mo_draw_0 : decode b_Mo_draw 0 = .ok (.aload_n 0, 1) := by decide +kernel
theorem d_Mo_draw_1 : decode b_Mo_draw 1 = .ok (.aload_n 0, 1) := by decide +kernel
theorem d_Mo_draw_2 : decode b_Mo_draw 2 = .ok (.getfield 330, 3) := by decide +kernel
theorem d_Mo_draw_5 : decode b_Mo_draw 5 = .ok (.ldc_w 333, 3) := by decide +kernel
theorem d_Mo_draw_8 : decode b_Mo_draw 8 = .ok (.imul, 1) := by decide +kernel
theorem d_Mo_draw_9 : decode b_Mo_draw 9 = .ok (.sipush 12345, 3) := by decide +kernel
theorem d_Mo_draw_12 : decode b_Mo_draw 12 = .ok (.iadd, 1) := by decide +kernel
theorem d_Mo_draw_13 : decode b_Mo_draw 13 = .ok (.putfield 330, 3) := by decide +kernel
theorem d_Mo_draw_16 : decode b_Mo_draw 16 = .ok (.aload_n 0, 1) := by decide +kernel
theorem d_Mo_draw_17 : decode b_Mo_draw 17 = .ok (.getfield 330, 3) := by decide +kernel
theorem d_Mo_draw_20 : decode b_Mo_draw 20 = .ok (.bipush 8, 2) := by decide +kernel
theorem d_Mo_draw_22 : decode b_Mo_draw 22 = .ok (.iushr, 1) := by decide +kernel
theorem d_Mo_draw_23 : decode b_Mo_draw 23 = .ok (.iload_n 1, 1) := by decide +kernel
theorem d_Mo_draw_24 : decode b_Mo_draw 24 = .ok (.irem, 1) := by decide +kernel
theorem d_Mo_draw_25 : decode b_Mo_draw 25 = .ok (.ireturn, 1) := by decide +kernel
def B_Mo_draw_0 (a1 : Int32) (σ : Sto) : Option (Int32 × Sto) :=
  (lt1 (sI σ 48 32 (((gI σ 48 32) * (1103515245 : Int32)) + (12345 : Int32))) fun σ1 => (if ¬ a1 = 0 then some ((irm (iur (gI σ1 48 32) (8 : Int32)) a1), σ1) else none))
set_option maxHeartbeats 4000000 in
set_option maxRecDepth 100000 in
theorem vB_Mo_draw_0 {X : Xt} {E : En} (g : GG X E 1 b_Mo_draw R_Mo 2) (a1 : Int32) (σ : Sto) : VV X E b_Mo_draw 2 eI 0 [(0, .ref (E.2.1 48)), (1, .int a1)] [] σ (B_Mo_draw_0 a1 σ) := by
  unfold B_Mo_draw_0
  refine v_aload_n 0 g d_Mo_draw_0 rfl ?_
  refine v_aload_n 0 g d_Mo_draw_1 rfl ?_
  refine v_getI g ff_Mo_330 rfl rfl d_Mo_draw_2 ?_
  refine v_ldc_w (v := (1103515245 : Int32)) g (m1 1499 (by decide +kernel) (by decide +kernel)) d_Mo_draw_5 ?_
  refine v_imul g d_Mo_draw_8 ?_
  refine v_sipush (v := (12345 : Int32)) g d_Mo_draw_9 (by decide +kernel) ?_
  refine v_iadd g d_Mo_draw_12 ?_
  refine v_putI g fp_Mo_330 rfl rfl d_Mo_draw_13 ?_
  refine v_nlet (fun σ1 eσ1 => ?_)
  rw [← eσ1]
  refine v_aload_n 0 g d_Mo_draw_16 rfl ?_
  refine v_getI g ff_Mo_330 rfl rfl d_Mo_draw_17 ?_
  refine v_bipush (v := (8 : Int32)) g d_Mo_draw_20 (by decide +kernel) ?_
  refine v_iushr g d_Mo_draw_22 ?_
  refine v_iload_n 1 g d_Mo_draw_23 rfl ?_
  refine v_irem g d_Mo_draw_24 (fun _ => ?_)
  exact v_ret d_Mo_draw_25 rfl
def f_Mo_draw (a1 : Int32) (σ : Sto) : Option (Int32 × Sto) := B_Mo_draw_0 a1 σ
theorem sp_Mo_draw {l : Launch} {E : En} (hE : Dj E) {a1 : Int32} {σ : Sto} {r : Int32} {σ' : Sto} (h : f_Mo_draw a1 σ = some (r, σ')) : Ct l E y_Mo_draw (wsM y_Mo_draw b_Mo_draw 2 (some .int)) 1 [.ref (E.2.1 48), .int a1] σ (eI r) σ' :=
  ct_of hE (by decide +kernel) (Nat.le_of_ble_eq_true rfl) (fun x => Or.inl ⟨rfl, x, rfl⟩) (fun X _ g => vB_Mo_draw_0 g a1 σ) r σ' h
/-! method FittingRingsModel.joinsAhead(II)V -/
theorem yv_Mo_joinsAhead : YV y_Mo_joinsAhead b_Mo_joinsAhead 4 (none) 2 10 := ⟨m1 1502 (by decide +kernel) (by decide +kernel), m1 67 (by decide +kernel) (by decide +kernel), ini_Mo, m1 1503 (by decide +kernel) (by decide +kernel), ⟨by decide +kernel, by decide +kernel, by decide +kernel⟩, by decide, by decide, T_Mo, 39, rfl⟩
theorem d_Mo_joinsAhead_0 : decode b_Mo_joinsAhead 0 = .ok (.iconst 0, 1) := by decide +kernel
theorem d_Mo_joinsAhead_1 : decode b_Mo_joinsAhead 1 = .ok (.istore_n 3, 1) := by decide +kernel
theorem d_Mo_joinsAhead_2 : decode b_Mo_joinsAhead 2 = .ok (.iload_n 3, 1) := by decide +kernel
theorem d_Mo_joinsAhead_3 : decode b_Mo_joinsAhead 3 = .ok (.iload_n 1, 1) := by decide +kernel
theorem d_Mo_joinsAhead_4 : decode b_Mo_joinsAhead 4 = .ok (.if_icmp .ge 26, 3) := by decide +kernel
theorem d_Mo_joinsAhead_7 : decode b_Mo_joinsAhead 7 = .ok (.aload_n 0, 1) := by decide +kernel
theorem d_Mo_joinsAhead_8 : decode b_Mo_joinsAhead 8 = .ok (.bipush 10, 2) := by decide +kernel
theorem d_Mo_joinsAhead_10 : decode b_Mo_joinsAhead 10 = .ok (.invokevirtual 334, 3) := by decide +kernel
theorem d_Mo_joinsAhead_13 : decode b_Mo_joinsAhead 13 = .ok (.iload_n 2, 1) := by decide +kernel
theorem d_Mo_joinsAhead_14 : decode b_Mo_joinsAhead 14 = .ok (.if_icmp .ge 10, 3) := by decide +kernel
theorem d_Mo_joinsAhead_17 : decode b_Mo_joinsAhead 17 = .ok (.aload_n 0, 1) := by decide +kernel
theorem d_Mo_joinsAhead_18 : decode b_Mo_joinsAhead 18 = .ok (.iload_n 1, 1) := by decide +kernel
theorem d_Mo_joinsAhead_19 : decode b_Mo_joinsAhead 19 = .ok (.iload_n 3, 1) := by decide +kernel
theorem d_Mo_joinsAhead_20 : decode b_Mo_joinsAhead 20 = .ok (.iconst 1, 1) := by decide +kernel
theorem d_Mo_joinsAhead_21 : decode b_Mo_joinsAhead 21 = .ok (.invokevirtual 123, 3) := by decide +kernel
theorem d_Mo_joinsAhead_24 : decode b_Mo_joinsAhead 24 = .ok (.iinc 3 1, 3) := by decide +kernel
theorem d_Mo_joinsAhead_27 : decode b_Mo_joinsAhead 27 = .ok (.goto (-25), 3) := by decide +kernel
theorem d_Mo_joinsAhead_30 : decode b_Mo_joinsAhead 30 = .ok (.return_, 1) := by decide +kernel
def B_Mo_joinsAhead_2 (k2 : Int32 → Int32 → Int32 → Sto → Option (Unit × Sto)) (v1 : Int32) (v2 : Int32) (v3 : Int32) (σ : Sto) : Option (Unit × Sto) :=
  (if v1 ≤ v3 then some ((), σ)
 else ((f_Mo_draw (10 : Int32) σ).bind fun q1 => (if v2 ≤ q1.1 then k2 v1 v2 (v3 + (1 : Int32)) q1.2
  else ((f_Mo_puts v1 v3 (1 : Int32) q1.2).bind fun q2 => k2 v1 v2 (v3 + (1 : Int32)) q2.2))))
set_option maxHeartbeats 4000000 in
set_option maxRecDepth 100000 in
theorem vB_Mo_joinsAhead_2 {X : Xt} {E : En} (g : GG X E 3 b_Mo_joinsAhead R_Mo 4) {k2 : Int32 → Int32 → Int32 → Sto → Option (Unit × Sto)} (hk2 : ∀ (v1 : Int32) (v2 : Int32) (v3 : Int32) (σ : Sto), VV X E b_Mo_joinsAhead 4 eU 2 [(0, .ref (E.2.1 48)), (1, .int v1), (2, .int v2), (3, .int v3)] [] σ (k2 v1 v2 v3 σ)) (v1 : Int32) (v2 : Int32) (v3 : Int32) (σ : Sto) : VV X E b_Mo_joinsAhead 4 eU 2 [(0, .ref (E.2.1 48)), (1, .int v1), (2, .int v2), (3, .int v3)] [] σ (B_Mo_joinsAhead_2 k2 v1 v2 v3 σ) := by
  unfold B_Mo_joinsAhead_2
  refine v_iload_n 3 g d_Mo_joinsAhead_2 rfl ?_
  refine v_iload_n 1 g d_Mo_joinsAhead_3 rfl ?_
  refine v_icmp_ge 30 g d_Mo_joinsAhead_4 (by decide) (fun _ => ?_) (fun _ => ?_)
  · exact v_ret d_Mo_joinsAhead_30 rfl
  · refine v_aload_n 0 g d_Mo_joinsAhead_7 rfl ?_
    refine v_bipush (v := (10 : Int32)) g d_Mo_joinsAhead_8 (by decide +kernel) ?_
    refine v_callI (r_V (rest := []) [.int (10 : Int32)] g (m1 1495 (by decide +kernel) (by decide +kernel)) yv_Mo_draw rfl (fun r σ1 h => sp_Mo_draw g.2.2.1  h) rfl rfl (by decide) (Nat.le_of_ble_eq_true rfl) d_Mo_joinsAhead_10) (fun q1 => ?_)
    refine v_iload_n 2 g d_Mo_joinsAhead_13 rfl ?_
    refine v_icmp_ge 24 g d_Mo_joinsAhead_14 (by decide) (fun _ => ?_) (fun _ => ?_)
    · refine v_iinc 3 [(3, .int (v3 + (1 : Int32))), (0, .ref (E.2.1 48)), (1, .int v1), (2, .int v2)] g d_Mo_joinsAhead_24 rfl (v := (1 : Int32)) (by decide +kernel) (by decide) rfl ?_
      refine v_goto 2 g d_Mo_joinsAhead_27 (by decide) ?_
      exact v_sub [1,2,3,0] rfl (hk2 v1 v2 (v3 + (1 : Int32)) q1.2)
    · refine v_aload_n 0 g d_Mo_joinsAhead_17 rfl ?_
      refine v_iload_n 1 g d_Mo_joinsAhead_18 rfl ?_
      refine v_iload_n 3 g d_Mo_joinsAhead_19 rfl ?_
      refine v_iconst (v := (1 : Int32)) g d_Mo_joinsAhead_20 (by decide +kernel) ?_
      refine v_callU (r_V (rest := []) [.int v1, .int v3, .int (1 : Int32)] g (m1 1209 (by decide +kernel) (by decide +kernel)) yv_Mo_puts rfl (fun r σ1 h => sp_Mo_puts g.2.2.1  h) rfl rfl (by decide) (Nat.le_of_ble_eq_true rfl) d_Mo_joinsAhead_21) (fun q2 => ?_)
      refine v_iinc 3 [(3, .int (v3 + (1 : Int32))), (0, .ref (E.2.1 48)), (1, .int v1), (2, .int v2)] g d_Mo_joinsAhead_24 rfl (v := (1 : Int32)) (by decide +kernel) (by decide) rfl ?_
      refine v_goto 2 g d_Mo_joinsAhead_27 (by decide) ?_
      exact v_sub [1,2,3,0] rfl (hk2 v1 v2 (v3 + (1 : Int32)) q2.2)
def L_Mo_joinsAhead_2 : Nat → Int32 → Int32 → Int32 → Sto → Option (Unit × Sto)
  | 0, _, _, _, _ => none
  | fu + 1, v1, v2, v3, σ => B_Mo_joinsAhead_2 (L_Mo_joinsAhead_2 fu) v1 v2 v3 σ
theorem vL_Mo_joinsAhead_2 {X : Xt} {E : En} (g : GG X E 3 b_Mo_joinsAhead R_Mo 4) (fu : Nat) : ∀ (v1 : Int32) (v2 : Int32) (v3 : Int32) (σ : Sto), VV X E b_Mo_joinsAhead 4 eU 2 [(0, .ref (E.2.1 48)), (1, .int v1), (2, .int v2), (3, .int v3)] [] σ (L_Mo_joinsAhead_2 fu v1 v2 v3 σ) := by
  induction fu with
  | zero => intros; exact v_none
  | succ fu ih =>
    intro v1 v2 v3 σ
    exact vB_Mo_joinsAhead_2 g ih v1 v2 v3 σ
def B_Mo_joinsAhead_0 (a1 : Int32) (a2 : Int32) (σ : Sto) : Option (Unit × Sto) :=
  L_Mo_joinsAhead_2 LF a1 a2 (0 : Int32) σ
set_option maxHeartbeats 4000000 in
set_option maxRecDepth 100000 in
theorem vB_Mo_joinsAhead_0 {X : Xt} {E : En} (g : GG X E 3 b_Mo_joinsAhead R_Mo 4) (a1 : Int32) (a2 : Int32) (σ : Sto) : VV X E b_Mo_joinsAhead 4 eU 0 [(0, .ref (E.2.1 48)), (1, .int a1), (2, .int a2)] [] σ (B_Mo_joinsAhead_0 a1 a2 σ) := by
  unfold B_Mo_joinsAhead_0
  refine v_iconst (v := (0 : Int32)) g d_Mo_joinsAhead_0 (by decide +kernel) ?_
  refine v_istore_n [(3, .int (0 : Int32)), (0, .ref (E.2.1 48)), (1, .int a1), (2, .int a2)] g d_Mo_joinsAhead_1 (by decide) rfl ?_
  exact v_sub [1,2,3,0] rfl (vL_Mo_joinsAhead_2 g LF a1 a2 (0 : Int32) σ)
def f_Mo_joinsAhead (a1 : Int32) (a2 : Int32) (σ : Sto) : Option (Unit × Sto) := B_Mo_joinsAhead_0 a1 a2 σ
theorem sp_Mo_joinsAhead {l : Launch} {E : En} (hE : Dj E) {a1 : Int32} {a2 : Int32} {σ : Sto} {r : Unit} {σ' : Sto} (h : f_Mo_joinsAhead a1 a2 σ = some (r, σ')) : Ct l E y_Mo_joinsAhead (wsM y_Mo_joinsAhead b_Mo_joinsAhead 4 (none)) 3 [.ref (E.2.1 48), .int a1, .int a2] σ (eU r) σ' :=
  ct_of hE (by decide +kernel) (Nat.le_of_ble_eq_true rfl) (fun _ => Or.inr (Or.inr (Or.inr (Or.inl ⟨rfl, rfl⟩)))) (fun X _ g => vB_Mo_joinsAhead_0 g a1 a2 σ) r σ' h
/-! method FittingRingsModel.deal(III)I -/
theorem yv_Mo_deal : YV y_Mo_deal b_Mo_deal 7 (some .int) 3 10 := ⟨m1 1490 (by decide +kernel) (by decide +kernel), m1 1491 (by decide +kernel) (by decide +kernel), ini_Mo, m1 1492 (by decide +kernel) (by decide +kernel), ⟨by decide +kernel, by decide +kernel, by decide +kernel⟩, by decide, by decide, T_Mo, 39, rfl⟩
theorem d_Mo_deal_0 : decode b_Mo_deal 0 = .ok (.iload_n 2, 1) := by decide +kernel
theorem d_Mo_deal_1 : decode b_Mo_deal 1 = .ok (.i2l, 1) := by decide +kernel
theorem d_Mo_deal_2 : decode b_Mo_deal 2 = .ok (.lconst 1, 1) := by decide +kernel
theorem d_Mo_deal_3 : decode b_Mo_deal 3 = .ok (.ldc2_w 337, 3) := by decide +kernel
theorem d_Mo_deal_6 : decode b_Mo_deal 6 = .ok (.invokestatic 84, 3) := by decide +kernel
theorem d_Mo_deal_9 : decode b_Mo_deal 9 = .ok (.ifCond .eq 15, 3) := by decide +kernel
theorem d_Mo_deal_12 : decode b_Mo_deal 12 = .ok (.iload_n 3, 1) := by decide +kernel
theorem d_Mo_deal_13 : decode b_Mo_deal 13 = .ok (.i2l, 1) := by decide +kernel
theorem d_Mo_deal_14 : decode b_Mo_deal 14 = .ok (.lconst 0, 1) := by decide +kernel
theorem d_Mo_deal_15 : decode b_Mo_deal 15 = .ok (.ldc2_w 339, 3) := by decide +kernel
theorem d_Mo_deal_18 : decode b_Mo_deal 18 = .ok (.invokestatic 84, 3) := by decide +kernel
theorem d_Mo_deal_21 : decode b_Mo_deal 21 = .ok (.ifCond .ne 6, 3) := by decide +kernel
theorem d_Mo_deal_24 : decode b_Mo_deal 24 = .ok (.bipush (-2), 2) := by decide +kernel
theorem d_Mo_deal_26 : decode b_Mo_deal 26 = .ok (.ireturn, 1) := by decide +kernel
theorem d_Mo_deal_27 : decode b_Mo_deal 27 = .ok (.aload_n 0, 1) := by decide +kernel
theorem d_Mo_deal_28 : decode b_Mo_deal 28 = .ok (.getfield 80, 3) := by decide +kernel
theorem d_Mo_deal_31 : decode b_Mo_deal 31 = .ok (.iload_n 2, 1) := by decide +kernel
theorem d_Mo_deal_32 : decode b_Mo_deal 32 = .ok (.iadd, 1) := by decide +kernel
theorem d_Mo_deal_33 : decode b_Mo_deal 33 = .ok (.bipush 40, 2) := by decide +kernel
theorem d_Mo_deal_35 : decode b_Mo_deal 35 = .ok (.if_icmp .le 6, 3) := by decide +kernel
theorem d_Mo_deal_38 : decode b_Mo_deal 38 = .ok (.bipush (-4), 2) := by decide +kernel
theorem d_Mo_deal_40 : decode b_Mo_deal 40 = .ok (.ireturn, 1) := by decide +kernel
theorem d_Mo_deal_41 : decode b_Mo_deal 41 = .ok (.aload_n 0, 1) := by decide +kernel
theorem d_Mo_deal_42 : decode b_Mo_deal 42 = .ok (.iload_n 1, 1) := by decide +kernel
theorem d_Mo_deal_43 : decode b_Mo_deal 43 = .ok (.putfield 330, 3) := by decide +kernel
theorem d_Mo_deal_46 : decode b_Mo_deal 46 = .ok (.iconst 0, 1) := by decide +kernel
theorem d_Mo_deal_47 : decode b_Mo_deal 47 = .ok (.istore 4, 2) := by decide +kernel
theorem d_Mo_deal_49 : decode b_Mo_deal 49 = .ok (.iload 4, 2) := by decide +kernel
theorem d_Mo_deal_51 : decode b_Mo_deal 51 = .ok (.iload_n 2, 1) := by decide +kernel
theorem d_Mo_deal_52 : decode b_Mo_deal 52 = .ok (.if_icmp .ge 38, 3) := by decide +kernel
theorem d_Mo_deal_55 : decode b_Mo_deal 55 = .ok (.aload_n 0, 1) := by decide +kernel
theorem d_Mo_deal_56 : decode b_Mo_deal 56 = .ok (.bipush 6, 2) := by decide +kernel
theorem d_Mo_deal_58 : decode b_Mo_deal 58 = .ok (.invokevirtual 334, 3) := by decide +kernel
theorem d_Mo_deal_61 : decode b_Mo_deal 61 = .ok (.istore 5, 2) := by decide +kernel
theorem d_Mo_deal_63 : decode b_Mo_deal 63 = .ok (.aload_n 0, 1) := by decide +kernel
theorem d_Mo_deal_64 : decode b_Mo_deal 64 = .ok (.iload 5, 2) := by decide +kernel
theorem d_Mo_deal_66 : decode b_Mo_deal 66 = .ok (.aload_n 0, 1) := by decide +kernel
theorem d_Mo_deal_67 : decode b_Mo_deal 67 = .ok (.bipush 100, 2) := by decide +kernel
theorem d_Mo_deal_69 : decode b_Mo_deal 69 = .ok (.invokevirtual 334, 3) := by decide +kernel
theorem d_Mo_deal_72 : decode b_Mo_deal 72 = .ok (.invokevirtual 92, 3) := by decide +kernel
theorem d_Mo_deal_75 : decode b_Mo_deal 75 = .ok (.istore 6, 2) := by decide +kernel
theorem d_Mo_deal_77 : decode b_Mo_deal 77 = .ok (.aload_n 0, 1) := by decide +kernel
theorem d_Mo_deal_78 : decode b_Mo_deal 78 = .ok (.iload 6, 2) := by decide +kernel
theorem d_Mo_deal_80 : decode b_Mo_deal 80 = .ok (.iload_n 3, 1) := by decide +kernel
theorem d_Mo_deal_81 : decode b_Mo_deal 81 = .ok (.invokevirtual 341, 3) := by decide +kernel
theorem d_Mo_deal_84 : decode b_Mo_deal 84 = .ok (.iinc 4 1, 3) := by decide +kernel
theorem d_Mo_deal_87 : decode b_Mo_deal 87 = .ok (.goto (-38), 3) := by decide +kernel
theorem d_Mo_deal_90 : decode b_Mo_deal 90 = .ok (.aload_n 0, 1) := by decide +kernel
theorem d_Mo_deal_91 : decode b_Mo_deal 91 = .ok (.getfield 80, 3) := by decide +kernel
theorem d_Mo_deal_94 : decode b_Mo_deal 94 = .ok (.ireturn, 1) := by decide +kernel
def B_Mo_deal_49 (k49 : Int32 → Int32 → Int32 → Sto → Option (Int32 × Sto)) (v2 : Int32) (v3 : Int32) (v4 : Int32) (σ : Sto) : Option (Int32 × Sto) :=
  (if v2 ≤ v4 then some ((gI σ 48 0), σ)
 else ((f_Mo_draw (6 : Int32) σ).bind fun q3 => ((f_Mo_draw (100 : Int32) q3.2).bind fun q4 => ((f_Mo_comes q3.1 q4.1 q4.2).bind fun q5 => ((f_Mo_joinsAhead q5.1 v3 q5.2).bind fun q6 => k49 v2 v3 (v4 + (1 : Int32)) q6.2)))))
set_option maxHeartbeats 4000000 in
set_option maxRecDepth 100000 in
theorem vB_Mo_deal_49 {X : Xt} {E : En} (g : GG X E 4 b_Mo_deal R_Mo 7) {k49 : Int32 → Int32 → Int32 → Sto → Option (Int32 × Sto)} (hk49 : ∀ (v2 : Int32) (v3 : Int32) (v4 : Int32) (σ : Sto), VV X E b_Mo_deal 7 eI 49 [(0, .ref (E.2.1 48)), (2, .int v2), (3, .int v3), (4, .int v4)] [] σ (k49 v2 v3 v4 σ)) (v2 : Int32) (v3 : Int32) (v4 : Int32) (σ : Sto) : VV X E b_Mo_deal 7 eI 49 [(0, .ref (E.2.1 48)), (2, .int v2), (3, .int v3), (4, .int v4)] [] σ (B_Mo_deal_49 k49 v2 v3 v4 σ) := by
  unfold B_Mo_deal_49
  refine v_iload 3 g d_Mo_deal_49 rfl ?_
  refine v_iload_n 1 g d_Mo_deal_51 rfl ?_
  refine v_icmp_ge 90 g d_Mo_deal_52 (by decide) (fun _ => ?_) (fun _ => ?_)
  · refine v_aload_n 0 g d_Mo_deal_90 rfl ?_
    refine v_getI g ff_Mo_80 rfl rfl d_Mo_deal_91 ?_
    exact v_ret d_Mo_deal_94 rfl
  · refine v_aload_n 0 g d_Mo_deal_55 rfl ?_
    refine v_bipush (v := (6 : Int32)) g d_Mo_deal_56 (by decide +kernel) ?_
    refine v_callI (r_V (rest := []) [.int (6 : Int32)] g (m1 1495 (by decide +kernel) (by decide +kernel)) yv_Mo_draw rfl (fun r σ1 h => sp_Mo_draw g.2.2.1  h) rfl rfl (by decide) (Nat.le_of_ble_eq_true rfl) d_Mo_deal_58) (fun q3 => ?_)
    refine v_istore [(5, .int q3.1), (0, .ref (E.2.1 48)), (2, .int v2), (3, .int v3), (4, .int v4)] g d_Mo_deal_61 (by decide) rfl ?_
    refine v_aload_n 1 g d_Mo_deal_63 rfl ?_
    refine v_iload 0 g d_Mo_deal_64 rfl ?_
    refine v_aload_n 1 g d_Mo_deal_66 rfl ?_
    refine v_bipush (v := (100 : Int32)) g d_Mo_deal_67 (by decide +kernel) ?_
    refine v_callI (r_V (rest := [.int q3.1, .ref (E.2.1 48)]) [.int (100 : Int32)] g (m1 1495 (by decide +kernel) (by decide +kernel)) yv_Mo_draw rfl (fun r σ1 h => sp_Mo_draw g.2.2.1  h) rfl rfl (by decide) (Nat.le_of_ble_eq_true rfl) d_Mo_deal_69) (fun q4 => ?_)
    refine v_callI (r_V (rest := []) [.int q3.1, .int q4.1] g (m1 1171 (by decide +kernel) (by decide +kernel)) yv_Mo_comes rfl (fun r σ1 h => sp_Mo_comes g.2.2.1  h) rfl rfl (by decide) (Nat.le_of_ble_eq_true rfl) d_Mo_deal_72) (fun q5 => ?_)
    refine v_istore [(6, .int q5.1), (5, .int q3.1), (0, .ref (E.2.1 48)), (2, .int v2), (3, .int v3), (4, .int v4)] g d_Mo_deal_75 (by decide) rfl ?_
    refine v_aload_n 2 g d_Mo_deal_77 rfl ?_
    refine v_iload 0 g d_Mo_deal_78 rfl ?_
    refine v_iload_n 4 g d_Mo_deal_80 rfl ?_
    refine v_callU (r_V (rest := []) [.int q5.1, .int v3] g (m1 1500 (by decide +kernel) (by decide +kernel)) yv_Mo_joinsAhead rfl (fun r σ1 h => sp_Mo_joinsAhead g.2.2.1  h) rfl rfl (by decide) (Nat.le_of_ble_eq_true rfl) d_Mo_deal_81) (fun q6 => ?_)
    refine v_iinc 5 [(4, .int (v4 + (1 : Int32))), (6, .int q5.1), (5, .int q3.1), (0, .ref (E.2.1 48)), (2, .int v2), (3, .int v3)] g d_Mo_deal_84 rfl (v := (1 : Int32)) (by decide +kernel) (by decide) rfl ?_
    refine v_goto 49 g d_Mo_deal_87 (by decide) ?_
    exact v_sub [3,4,5,0] rfl (hk49 v2 v3 (v4 + (1 : Int32)) q6.2)
def L_Mo_deal_49 : Nat → Int32 → Int32 → Int32 → Sto → Option (Int32 × Sto)
  | 0, _, _, _, _ => none
  | fu + 1, v2, v3, v4, σ => B_Mo_deal_49 (L_Mo_deal_49 fu) v2 v3 v4 σ
theorem vL_Mo_deal_49 {X : Xt} {E : En} (g : GG X E 4 b_Mo_deal R_Mo 7) (fu : Nat) : ∀ (v2 : Int32) (v3 : Int32) (v4 : Int32) (σ : Sto), VV X E b_Mo_deal 7 eI 49 [(0, .ref (E.2.1 48)), (2, .int v2), (3, .int v3), (4, .int v4)] [] σ (L_Mo_deal_49 fu v2 v3 v4 σ) := by
  induction fu with
  | zero => intros; exact v_none
  | succ fu ih =>
    intro v2 v3 v4 σ
    exact vB_Mo_deal_49 g ih v2 v3 v4 σ
def B_Mo_deal_0 (a1 : Int32) (a2 : Int32) (a3 : Int32) (σ : Sto) : Option (Int32 × Sto) :=
  ((f_Mo_in (Int32.toInt64 a2) (1 : Int64) (40 : Int64) σ).bind fun q1 => (if (b2i q1.1) = 0 then some ((-2 : Int32), q1.2)
 else ((f_Mo_in (Int32.toInt64 a3) (0 : Int64) (10 : Int64) q1.2).bind fun q2 => (if (b2i q2.1) = 0 then some ((-2 : Int32), q2.2)
  else (if ((gI q2.2 48 0) + a2) ≤ (40 : Int32) then L_Mo_deal_49 LF a2 a3 (0 : Int32) (sI q2.2 48 32 a1)
   else some ((-4 : Int32), q2.2))))))
set_option maxHeartbeats 4000000 in
set_option maxRecDepth 100000 in
theorem vB_Mo_deal_0 {X : Xt} {E : En} (g : GG X E 4 b_Mo_deal R_Mo 7) (a1 : Int32) (a2 : Int32) (a3 : Int32) (σ : Sto) : VV X E b_Mo_deal 7 eI 0 [(0, .ref (E.2.1 48)), (1, .int a1), (2, .int a2), (3, .int a3)] [] σ (B_Mo_deal_0 a1 a2 a3 σ) := by
  unfold B_Mo_deal_0
  refine v_iload_n 2 g d_Mo_deal_0 rfl ?_
  refine v_i2l g d_Mo_deal_1 ?_
  refine v_lconst (v := (1 : Int64)) g d_Mo_deal_2 (by decide +kernel) ?_
  refine v_ldc2 (v := (40 : Int64)) g (m1 1493 (by decide +kernel) (by decide +kernel)) d_Mo_deal_3 ?_
  refine v_callB (r_S (rest := []) [.long (Int32.toInt64 a2), .long (1 : Int64), .long (40 : Int64)] g (m1 1167 (by decide +kernel) (by decide +kernel)) ys_Mo_in (fun r σ1 h => sp_Mo_in g.2.2.1  h) rfl rfl (by decide) (Nat.le_of_ble_eq_true rfl) d_Mo_deal_6) (fun q1 => ?_)
  refine v_if_eq 24 g d_Mo_deal_9 (by decide) (fun _ => ?_) (fun _ => ?_)
  · refine v_bipush (v := (-2 : Int32)) g d_Mo_deal_24 (by decide +kernel) ?_
    exact v_ret d_Mo_deal_26 rfl
  · refine v_iload_n 3 g d_Mo_deal_12 rfl ?_
    refine v_i2l g d_Mo_deal_13 ?_
    refine v_lconst (v := (0 : Int64)) g d_Mo_deal_14 (by decide +kernel) ?_
    refine v_ldc2 (v := (10 : Int64)) g (m1 1494 (by decide +kernel) (by decide +kernel)) d_Mo_deal_15 ?_
    refine v_callB (r_S (rest := []) [.long (Int32.toInt64 a3), .long (0 : Int64), .long (10 : Int64)] g (m1 1167 (by decide +kernel) (by decide +kernel)) ys_Mo_in (fun r σ1 h => sp_Mo_in g.2.2.1  h) rfl rfl (by decide) (Nat.le_of_ble_eq_true rfl) d_Mo_deal_18) (fun q2 => ?_)
    refine v_if_ne 27 g d_Mo_deal_21 (by decide) (fun _ => ?_) (fun _ => ?_)
    · refine v_aload_n 0 g d_Mo_deal_27 rfl ?_
      refine v_getI g ff_Mo_80 rfl rfl d_Mo_deal_28 ?_
      refine v_iload_n 2 g d_Mo_deal_31 rfl ?_
      refine v_iadd g d_Mo_deal_32 ?_
      refine v_bipush (v := (40 : Int32)) g d_Mo_deal_33 (by decide +kernel) ?_
      refine v_icmp_le 41 g d_Mo_deal_35 (by decide) (fun _ => ?_) (fun _ => ?_)
      · refine v_aload_n 0 g d_Mo_deal_41 rfl ?_
        refine v_iload_n 1 g d_Mo_deal_42 rfl ?_
        refine v_putI g fp_Mo_330 rfl rfl d_Mo_deal_43 ?_
        refine v_iconst (v := (0 : Int32)) g d_Mo_deal_46 (by decide +kernel) ?_
        refine v_istore [(4, .int (0 : Int32)), (0, .ref (E.2.1 48)), (1, .int a1), (2, .int a2), (3, .int a3)] g d_Mo_deal_47 (by decide) rfl ?_
        exact v_sub [1,3,4,0] rfl (vL_Mo_deal_49 g LF a2 a3 (0 : Int32) (sI q2.2 48 32 a1))
      · refine v_bipush (v := (-4 : Int32)) g d_Mo_deal_38 (by decide +kernel) ?_
        exact v_ret d_Mo_deal_40 rfl
    · refine v_bipush (v := (-2 : Int32)) g d_Mo_deal_24 (by decide +kernel) ?_
      exact v_ret d_Mo_deal_26 rfl
def f_Mo_deal (a1 : Int32) (a2 : Int32) (a3 : Int32) (σ : Sto) : Option (Int32 × Sto) := B_Mo_deal_0 a1 a2 a3 σ
theorem sp_Mo_deal {l : Launch} {E : En} (hE : Dj E) {a1 : Int32} {a2 : Int32} {a3 : Int32} {σ : Sto} {r : Int32} {σ' : Sto} (h : f_Mo_deal a1 a2 a3 σ = some (r, σ')) : Ct l E y_Mo_deal (wsM y_Mo_deal b_Mo_deal 7 (some .int)) 4 [.ref (E.2.1 48), .int a1, .int a2, .int a3] σ (eI r) σ' :=
  ct_of hE (by decide +kernel) (Nat.le_of_ble_eq_true rfl) (fun x => Or.inl ⟨rfl, x, rfl⟩) (fun X _ g => vB_Mo_deal_0 g a1 a2 a3 σ) r σ' h
/-! method FittingRingsModel.mean(IIIII)J -/
theorem yv_Mo_mean : YV y_Mo_mean b_Mo_mean 15 (some .long) 5 10 := ⟨m1 1505 (by decide +kernel) (by decide +kernel), m1 1506 (by decide +kernel) (by decide +kernel), ini_Mo, m1 1507 (by decide +kernel) (by decide +kernel), ⟨by decide +kernel, by decide +kernel, by decide +kernel⟩, by decide, by decide, T_Mo, 39, rfl⟩
theorem d_Mo_mean_0 : decode b_Mo_mean 0 = .ok (.iload_n 2, 1) := by decide +kernel
theorem d_Mo_mean_1 : decode b_Mo_mean 1 = .ok (.i2l, 1) := by decide +kernel
theorem d_Mo_mean_2 : decode b_Mo_mean 2 = .ok (.lconst 1, 1) := by decide +kernel
theorem d_Mo_mean_3 : decode b_Mo_mean 3 = .ok (.ldc2_w 344, 3) := by decide +kernel
theorem d_Mo_mean_6 : decode b_Mo_mean 6 = .ok (.invokestatic 84, 3) := by decide +kernel
theorem d_Mo_mean_9 : decode b_Mo_mean 9 = .ok (.ifCond .eq 36, 3) := by decide +kernel
theorem d_Mo_mean_12 : decode b_Mo_mean 12 = .ok (.iload_n 3, 1) := by decide +kernel
theorem d_Mo_mean_13 : decode b_Mo_mean 13 = .ok (.i2l, 1) := by decide +kernel
theorem d_Mo_mean_14 : decode b_Mo_mean 14 = .ok (.lconst 0, 1) := by decide +kernel
theorem d_Mo_mean_15 : decode b_Mo_mean 15 = .ok (.ldc2_w 339, 3) := by decide +kernel
theorem d_Mo_mean_18 : decode b_Mo_mean 18 = .ok (.invokestatic 84, 3) := by decide +kernel
theorem d_Mo_mean_21 : decode b_Mo_mean 21 = .ok (.ifCond .eq 24, 3) := by decide +kernel
theorem d_Mo_mean_24 : decode b_Mo_mean 24 = .ok (.iload 4, 2) := by decide +kernel
theorem d_Mo_mean_26 : decode b_Mo_mean 26 = .ok (.i2l, 1) := by decide +kernel
theorem d_Mo_mean_27 : decode b_Mo_mean 27 = .ok (.lconst 0, 1) := by decide +kernel
theorem d_Mo_mean_28 : decode b_Mo_mean 28 = .ok (.ldc2_w 339, 3) := by decide +kernel
theorem d_Mo_mean_31 : decode b_Mo_mean 31 = .ok (.invokestatic 84, 3) := by decide +kernel
theorem d_Mo_mean_34 : decode b_Mo_mean 34 = .ok (.ifCond .eq 11, 3) := by decide +kernel
theorem d_Mo_mean_37 : decode b_Mo_mean 37 = .ok (.iload 5, 2) := by decide +kernel
theorem d_Mo_mean_39 : decode b_Mo_mean 39 = .ok (.invokestatic 116, 3) := by decide +kernel
theorem d_Mo_mean_42 : decode b_Mo_mean 42 = .ok (.ifCond .ne 7, 3) := by decide +kernel
theorem d_Mo_mean_45 : decode b_Mo_mean 45 = .ok (.ldc2_w 139, 3) := by decide +kernel
theorem d_Mo_mean_48 : decode b_Mo_mean 48 = .ok (.lreturn, 1) := by decide +kernel
theorem d_Mo_mean_49 : decode b_Mo_mean 49 = .ok (.aload_n 0, 1) := by decide +kernel
theorem d_Mo_mean_50 : decode b_Mo_mean 50 = .ok (.getfield 80, 3) := by decide +kernel
theorem d_Mo_mean_53 : decode b_Mo_mean 53 = .ok (.istore 6, 2) := by decide +kernel
theorem d_Mo_mean_55 : decode b_Mo_mean 55 = .ok (.aload_n 0, 1) := by decide +kernel
theorem d_Mo_mean_56 : decode b_Mo_mean 56 = .ok (.getfield 9, 3) := by decide +kernel
theorem d_Mo_mean_59 : decode b_Mo_mean 59 = .ok (.aload_n 0, 1) := by decide +kernel
theorem d_Mo_mean_60 : decode b_Mo_mean 60 = .ok (.getfield 56, 3) := by decide +kernel
theorem d_Mo_mean_63 : decode b_Mo_mean 63 = .ok (.aload_n 0, 1) := by decide +kernel
theorem d_Mo_mean_64 : decode b_Mo_mean 64 = .ok (.getfield 13, 3) := by decide +kernel
theorem d_Mo_mean_67 : decode b_Mo_mean 67 = .ok (.aload_n 0, 1) := by decide +kernel
theorem d_Mo_mean_68 : decode b_Mo_mean 68 = .ok (.getfield 53, 3) := by decide +kernel
theorem d_Mo_mean_71 : decode b_Mo_mean 71 = .ok (.aload_n 0, 1) := by decide +kernel
theorem d_Mo_mean_72 : decode b_Mo_mean 72 = .ok (.getfield 16, 3) := by decide +kernel
theorem d_Mo_mean_75 : decode b_Mo_mean 75 = .ok (.aload_n 0, 1) := by decide +kernel
theorem d_Mo_mean_76 : decode b_Mo_mean 76 = .ok (.getfield 59, 3) := by decide +kernel
theorem d_Mo_mean_79 : decode b_Mo_mean 79 = .ok (.invokestatic 323, 3) := by decide +kernel
theorem d_Mo_mean_82 : decode b_Mo_mean 82 = .ok (.aload_n 0, 1) := by decide +kernel
theorem d_Mo_mean_83 : decode b_Mo_mean 83 = .ok (.iload_n 1, 1) := by decide +kernel
theorem d_Mo_mean_84 : decode b_Mo_mean 84 = .ok (.putfield 330, 3) := by decide +kernel
theorem d_Mo_mean_87 : decode b_Mo_mean 87 = .ok (.lconst 0, 1) := by decide +kernel
theorem d_Mo_mean_88 : decode b_Mo_mean 88 = .ok (.lstore 7, 2) := by decide +kernel
theorem d_Mo_mean_90 : decode b_Mo_mean 90 = .ok (.iconst 0, 1) := by decide +kernel
theorem d_Mo_mean_91 : decode b_Mo_mean 91 = .ok (.istore 9, 2) := by decide +kernel
theorem d_Mo_mean_93 : decode b_Mo_mean 93 = .ok (.iload 9, 2) := by decide +kernel
theorem d_Mo_mean_95 : decode b_Mo_mean 95 = .ok (.iload_n 2, 1) := by decide +kernel
theorem d_Mo_mean_96 : decode b_Mo_mean 96 = .ok (.if_icmp .ge 57, 3) := by decide +kernel
theorem d_Mo_mean_99 : decode b_Mo_mean 99 = .ok (.aload_n 0, 1) := by decide +kernel
theorem d_Mo_mean_100 : decode b_Mo_mean 100 = .ok (.iconst 0, 1) := by decide +kernel
theorem d_Mo_mean_101 : decode b_Mo_mean 101 = .ok (.putfield 80, 3) := by decide +kernel
theorem d_Mo_mean_104 : decode b_Mo_mean 104 = .ok (.iconst 0, 1) := by decide +kernel
theorem d_Mo_mean_105 : decode b_Mo_mean 105 = .ok (.istore 10, 2) := by decide +kernel
theorem d_Mo_mean_107 : decode b_Mo_mean 107 = .ok (.iload 10, 2) := by decide +kernel
theorem d_Mo_mean_109 : decode b_Mo_mean 109 = .ok (.iload_n 3, 1) := by decide +kernel
theorem d_Mo_mean_110 : decode b_Mo_mean 110 = .ok (.if_icmp .ge 21, 3) := by decide +kernel
theorem d_Mo_mean_113 : decode b_Mo_mean 113 = .ok (.aload_n 0, 1) := by decide +kernel
theorem d_Mo_mean_114 : decode b_Mo_mean 114 = .ok (.aload_n 0, 1) := by decide +kernel
theorem d_Mo_mean_115 : decode b_Mo_mean 115 = .ok (.iconst 0, 1) := by decide +kernel
theorem d_Mo_mean_116 : decode b_Mo_mean 116 = .ok (.iconst 0, 1) := by decide +kernel
theorem d_Mo_mean_117 : decode b_Mo_mean 117 = .ok (.invokevirtual 92, 3) := by decide +kernel
theorem d_Mo_mean_120 : decode b_Mo_mean 120 = .ok (.iload 4, 2) := by decide +kernel
theorem d_Mo_mean_122 : decode b_Mo_mean 122 = .ok (.invokevirtual 341, 3) := by decide +kernel
theorem d_Mo_mean_125 : decode b_Mo_mean 125 = .ok (.iinc 10 1, 3) := by decide +kernel
theorem d_Mo_mean_128 : decode b_Mo_mean 128 = .ok (.goto (-21), 3) := by decide +kernel
theorem d_Mo_mean_131 : decode b_Mo_mean 131 = .ok (.lload 7, 2) := by decide +kernel
theorem d_Mo_mean_133 : decode b_Mo_mean 133 = .ok (.aload_n 0, 1) := by decide +kernel
theorem d_Mo_mean_134 : decode b_Mo_mean 134 = .ok (.iconst 0, 1) := by decide +kernel
theorem d_Mo_mean_135 : decode b_Mo_mean 135 = .ok (.iconst 0, 1) := by decide +kernel
theorem d_Mo_mean_136 : decode b_Mo_mean 136 = .ok (.aload_n 0, 1) := by decide +kernel
theorem d_Mo_mean_137 : decode b_Mo_mean 137 = .ok (.invokevirtual 266, 3) := by decide +kernel
theorem d_Mo_mean_140 : decode b_Mo_mean 140 = .ok (.invokevirtual 226, 3) := by decide +kernel
theorem d_Mo_mean_143 : decode b_Mo_mean 143 = .ok (.i2l, 1) := by decide +kernel
theorem d_Mo_mean_144 : decode b_Mo_mean 144 = .ok (.ladd, 1) := by decide +kernel
theorem d_Mo_mean_145 : decode b_Mo_mean 145 = .ok (.lstore 7, 2) := by decide +kernel
theorem d_Mo_mean_147 : decode b_Mo_mean 147 = .ok (.iinc 9 1, 3) := by decide +kernel
theorem d_Mo_mean_150 : decode b_Mo_mean 150 = .ok (.goto (-57), 3) := by decide +kernel
theorem d_Mo_mean_153 : decode b_Mo_mean 153 = .ok (.aload_n 0, 1) := by decide +kernel
theorem d_Mo_mean_154 : decode b_Mo_mean 154 = .ok (.iload 6, 2) := by decide +kernel
theorem d_Mo_mean_156 : decode b_Mo_mean 156 = .ok (.putfield 80, 3) := by decide +kernel
theorem d_Mo_mean_159 : decode b_Mo_mean 159 = .ok (.aload_n 0, 1) := by decide +kernel
theorem d_Mo_mean_160 : decode b_Mo_mean 160 = .ok (.getfield 56, 3) := by decide +kernel
theorem d_Mo_mean_163 : decode b_Mo_mean 163 = .ok (.aload_n 0, 1) := by decide +kernel
theorem d_Mo_mean_164 : decode b_Mo_mean 164 = .ok (.getfield 9, 3) := by decide +kernel
theorem d_Mo_mean_167 : decode b_Mo_mean 167 = .ok (.aload_n 0, 1) := by decide +kernel
theorem d_Mo_mean_168 : decode b_Mo_mean 168 = .ok (.getfield 53, 3) := by decide +kernel
theorem d_Mo_mean_171 : decode b_Mo_mean 171 = .ok (.aload_n 0, 1) := by decide +kernel
theorem d_Mo_mean_172 : decode b_Mo_mean 172 = .ok (.getfield 13, 3) := by decide +kernel
theorem d_Mo_mean_175 : decode b_Mo_mean 175 = .ok (.aload_n 0, 1) := by decide +kernel
theorem d_Mo_mean_176 : decode b_Mo_mean 176 = .ok (.getfield 59, 3) := by decide +kernel
theorem d_Mo_mean_179 : decode b_Mo_mean 179 = .ok (.aload_n 0, 1) := by decide +kernel
theorem d_Mo_mean_180 : decode b_Mo_mean 180 = .ok (.getfield 16, 3) := by decide +kernel
theorem d_Mo_mean_183 : decode b_Mo_mean 183 = .ok (.invokestatic 323, 3) := by decide +kernel
theorem d_Mo_mean_186 : decode b_Mo_mean 186 = .ok (.lload 7, 2) := by decide +kernel
theorem d_Mo_mean_188 : decode b_Mo_mean 188 = .ok (.lconst 0, 1) := by decide +kernel
theorem d_Mo_mean_189 : decode b_Mo_mean 189 = .ok (.lcmp, 1) := by decide +kernel
theorem d_Mo_mean_190 : decode b_Mo_mean 190 = .ok (.ifCond .ne 7, 3) := by decide +kernel
theorem d_Mo_mean_193 : decode b_Mo_mean 193 = .ok (.iload 5, 2) := by decide +kernel
theorem d_Mo_mean_195 : decode b_Mo_mean 195 = .ok (.i2l, 1) := by decide +kernel
theorem d_Mo_mean_196 : decode b_Mo_mean 196 = .ok (.lreturn, 1) := by decide +kernel
theorem d_Mo_mean_197 : decode b_Mo_mean 197 = .ok (.lload 7, 2) := by decide +kernel
theorem d_Mo_mean_199 : decode b_Mo_mean 199 = .ok (.lstore 9, 2) := by decide +kernel
theorem d_Mo_mean_201 : decode b_Mo_mean 201 = .ok (.iload_n 2, 1) := by decide +kernel
theorem d_Mo_mean_202 : decode b_Mo_mean 202 = .ok (.i2l, 1) := by decide +kernel
theorem d_Mo_mean_203 : decode b_Mo_mean 203 = .ok (.lstore 11, 2) := by decide +kernel
theorem d_Mo_mean_205 : decode b_Mo_mean 205 = .ok (.lload 11, 2) := by decide +kernel
theorem d_Mo_mean_207 : decode b_Mo_mean 207 = .ok (.lconst 0, 1) := by decide +kernel
theorem d_Mo_mean_208 : decode b_Mo_mean 208 = .ok (.lcmp, 1) := by decide +kernel
theorem d_Mo_mean_209 : decode b_Mo_mean 209 = .ok (.ifCond .eq 21, 3) := by decide +kernel
theorem d_Mo_mean_212 : decode b_Mo_mean 212 = .ok (.lload 9, 2) := by decide +kernel
theorem d_Mo_mean_214 : decode b_Mo_mean 214 = .ok (.lload 11, 2) := by decide +kernel
theorem d_Mo_mean_216 : decode b_Mo_mean 216 = .ok (.lrem, 1) := by decide +kernel
theorem d_Mo_mean_217 : decode b_Mo_mean 217 = .ok (.lstore 13, 2) := by decide +kernel
theorem d_Mo_mean_219 : decode b_Mo_mean 219 = .ok (.lload 11, 2) := by decide +kernel
theorem d_Mo_mean_221 : decode b_Mo_mean 221 = .ok (.lstore 9, 2) := by decide +kernel
theorem d_Mo_mean_223 : decode b_Mo_mean 223 = .ok (.lload 13, 2) := by decide +kernel
theorem d_Mo_mean_225 : decode b_Mo_mean 225 = .ok (.lstore 11, 2) := by decide +kernel
theorem d_Mo_mean_227 : decode b_Mo_mean 227 = .ok (.goto (-22), 3) := by decide +kernel
theorem d_Mo_mean_230 : decode b_Mo_mean 230 = .ok (.iload 5, 2) := by decide +kernel
theorem d_Mo_mean_232 : decode b_Mo_mean 232 = .ok (.ifCond .ne 8, 3) := by decide +kernel
theorem d_Mo_mean_235 : decode b_Mo_mean 235 = .ok (.lload 7, 2) := by decide +kernel
theorem d_Mo_mean_237 : decode b_Mo_mean 237 = .ok (.goto 5, 3) := by decide +kernel
theorem d_Mo_mean_240 : decode b_Mo_mean 240 = .ok (.iload_n 2, 1) := by decide +kernel
theorem d_Mo_mean_241 : decode b_Mo_mean 241 = .ok (.i2l, 1) := by decide +kernel
theorem d_Mo_mean_242 : decode b_Mo_mean 242 = .ok (.lload 9, 2) := by decide +kernel
theorem d_Mo_mean_244 : decode b_Mo_mean 244 = .ok (.ldiv, 1) := by decide +kernel
theorem d_Mo_mean_245 : decode b_Mo_mean 245 = .ok (.lreturn, 1) := by decide +kernel
def B_Mo_mean_107 (k93 : Int32 → Int32 → Int32 → Int32 → Int32 → Int64 → Int32 → Sto → Option (Int64 × Sto)) (k107 : Int32 → Int32 → Int32 → Int32 → Int32 → Int64 → Int32 → Int32 → Sto → Option (Int64 × Sto)) (v2 : Int32) (v3 : Int32) (v4 : Int32) (v5 : Int32) (v6 : Int32) (v7 : Int64) (v9 : Int32) (v10 : Int32) (σ : Sto) : Option (Int64 × Sto) :=
  (if v3 ≤ v10 then ((f_Mo_everybody  σ).bind fun q7 => ((f_Mo_topOf (0 : Int32) (0 : Int32) q7.1 q7.2).bind fun q8 => (lt1 (v7 + (Int32.toInt64 q8.1)) fun x9 => k93 v2 v3 v4 v5 v6 x9 (v9 + (1 : Int32)) q8.2)))
 else ((f_Mo_comes (0 : Int32) (0 : Int32) σ).bind fun q10 => ((f_Mo_joinsAhead q10.1 v4 q10.2).bind fun q11 => k107 v2 v3 v4 v5 v6 v7 v9 (v10 + (1 : Int32)) q11.2)))
set_option maxHeartbeats 4000000 in
set_option maxRecDepth 100000 in
theorem vB_Mo_mean_107 {X : Xt} {E : En} (g : GG X E 7 b_Mo_mean R_Mo 15) {k93 : Int32 → Int32 → Int32 → Int32 → Int32 → Int64 → Int32 → Sto → Option (Int64 × Sto)} {k107 : Int32 → Int32 → Int32 → Int32 → Int32 → Int64 → Int32 → Int32 → Sto → Option (Int64 × Sto)} (hk93 : ∀ (v2 : Int32) (v3 : Int32) (v4 : Int32) (v5 : Int32) (v6 : Int32) (v7 : Int64) (v9 : Int32) (σ : Sto), VV X E b_Mo_mean 15 eL 93 [(0, .ref (E.2.1 48)), (2, .int v2), (3, .int v3), (4, .int v4), (5, .int v5), (6, .int v6), (7, .long v7), (9, .int v9)] [] σ (k93 v2 v3 v4 v5 v6 v7 v9 σ)) (hk107 : ∀ (v2 : Int32) (v3 : Int32) (v4 : Int32) (v5 : Int32) (v6 : Int32) (v7 : Int64) (v9 : Int32) (v10 : Int32) (σ : Sto), VV X E b_Mo_mean 15 eL 107 [(0, .ref (E.2.1 48)), (2, .int v2), (3, .int v3), (4, .int v4), (5, .int v5), (6, .int v6), (7, .long v7), (9, .int v9), (10, .int v10)] [] σ (k107 v2 v3 v4 v5 v6 v7 v9 v10 σ)) (v2 : Int32) (v3 : Int32) (v4 : Int32) (v5 : Int32) (v6 : Int32) (v7 : Int64) (v9 : Int32) (v10 : Int32) (σ : Sto) : VV X E b_Mo_mean 15 eL 107 [(0, .ref (E.2.1 48)), (2, .int v2), (3, .int v3), (4, .int v4), (5, .int v5), (6, .int v6), (7, .long v7), (9, .int v9), (10, .int v10)] [] σ (B_Mo_mean_107 k93 k107 v2 v3 v4 v5 v6 v7 v9 v10 σ) := by
  unfold B_Mo_mean_107
  refine v_iload 8 g d_Mo_mean_107 rfl ?_
  refine v_iload_n 2 g d_Mo_mean_109 rfl ?_
  refine v_icmp_ge 131 g d_Mo_mean_110 (by decide) (fun _ => ?_) (fun _ => ?_)
  · refine v_lload 6 g d_Mo_mean_131 rfl ?_
    refine v_aload_n 0 g d_Mo_mean_133 rfl ?_
    refine v_iconst (v := (0 : Int32)) g d_Mo_mean_134 (by decide +kernel) ?_
    refine v_iconst (v := (0 : Int32)) g d_Mo_mean_135 (by decide +kernel) ?_
    refine v_aload_n 0 g d_Mo_mean_136 rfl ?_
    refine v_callL (r_V (rest := [.int (0 : Int32), .int (0 : Int32), .ref (E.2.1 48), .long v7]) [] g (m1 1432 (by decide +kernel) (by decide +kernel)) yv_Mo_everybody rfl (fun r σ1 h => sp_Mo_everybody g.2.2.1  h) rfl rfl (by decide) (Nat.le_of_ble_eq_true rfl) d_Mo_mean_137) (fun q7 => ?_)
    refine v_callI (r_V (rest := [.long v7]) [.int (0 : Int32), .int (0 : Int32), .long q7.1] g (m1 1360 (by decide +kernel) (by decide +kernel)) yv_Mo_topOf rfl (fun r σ1 h => sp_Mo_topOf g.2.2.1  h) rfl rfl (by decide) (Nat.le_of_ble_eq_true rfl) d_Mo_mean_140) (fun q8 => ?_)
    refine v_i2l g d_Mo_mean_143 ?_
    refine v_ladd g d_Mo_mean_144 ?_
    refine v_nlet (fun x9 ex9 => ?_)
    rw [← ex9]
    refine v_lstore [(7, .long x9), (0, .ref (E.2.1 48)), (2, .int v2), (3, .int v3), (4, .int v4), (5, .int v5), (6, .int v6), (9, .int v9), (10, .int v10)] g d_Mo_mean_145 (by decide) rfl ?_
    refine v_iinc 7 [(9, .int (v9 + (1 : Int32))), (7, .long x9), (0, .ref (E.2.1 48)), (2, .int v2), (3, .int v3), (4, .int v4), (5, .int v5), (6, .int v6), (10, .int v10)] g d_Mo_mean_147 rfl (v := (1 : Int32)) (by decide +kernel) (by decide) rfl ?_
    refine v_goto 93 g d_Mo_mean_150 (by decide) ?_
    exact v_sub [2,3,4,5,6,7,1,0] rfl (hk93 v2 v3 v4 v5 v6 x9 (v9 + (1 : Int32)) q8.2)
  · refine v_aload_n 0 g d_Mo_mean_113 rfl ?_
    refine v_aload_n 0 g d_Mo_mean_114 rfl ?_
    refine v_iconst (v := (0 : Int32)) g d_Mo_mean_115 (by decide +kernel) ?_
    refine v_iconst (v := (0 : Int32)) g d_Mo_mean_116 (by decide +kernel) ?_
    refine v_callI (r_V (rest := [.ref (E.2.1 48)]) [.int (0 : Int32), .int (0 : Int32)] g (m1 1171 (by decide +kernel) (by decide +kernel)) yv_Mo_comes rfl (fun r σ1 h => sp_Mo_comes g.2.2.1  h) rfl rfl (by decide) (Nat.le_of_ble_eq_true rfl) d_Mo_mean_117) (fun q10 => ?_)
    refine v_iload 3 g d_Mo_mean_120 rfl ?_
    refine v_callU (r_V (rest := []) [.int q10.1, .int v4] g (m1 1500 (by decide +kernel) (by decide +kernel)) yv_Mo_joinsAhead rfl (fun r σ1 h => sp_Mo_joinsAhead g.2.2.1  h) rfl rfl (by decide) (Nat.le_of_ble_eq_true rfl) d_Mo_mean_122) (fun q11 => ?_)
    refine v_iinc 8 [(10, .int (v10 + (1 : Int32))), (0, .ref (E.2.1 48)), (2, .int v2), (3, .int v3), (4, .int v4), (5, .int v5), (6, .int v6), (7, .long v7), (9, .int v9)] g d_Mo_mean_125 rfl (v := (1 : Int32)) (by decide +kernel) (by decide) rfl ?_
    refine v_goto 107 g d_Mo_mean_128 (by decide) ?_
    exact v_sub [1,2,3,4,5,6,7,8,0] rfl (hk107 v2 v3 v4 v5 v6 v7 v9 (v10 + (1 : Int32)) q11.2)
def L_Mo_mean_107 (k93 : Int32 → Int32 → Int32 → Int32 → Int32 → Int64 → Int32 → Sto → Option (Int64 × Sto)) : Nat → Int32 → Int32 → Int32 → Int32 → Int32 → Int64 → Int32 → Int32 → Sto → Option (Int64 × Sto)
  | 0, _, _, _, _, _, _, _, _, _ => none
  | fu + 1, v2, v3, v4, v5, v6, v7, v9, v10, σ => B_Mo_mean_107 k93 (L_Mo_mean_107 k93 fu) v2 v3 v4 v5 v6 v7 v9 v10 σ
theorem vL_Mo_mean_107 {X : Xt} {E : En} (g : GG X E 7 b_Mo_mean R_Mo 15) {k93 : Int32 → Int32 → Int32 → Int32 → Int32 → Int64 → Int32 → Sto → Option (Int64 × Sto)} (hk93 : ∀ (v2 : Int32) (v3 : Int32) (v4 : Int32) (v5 : Int32) (v6 : Int32) (v7 : Int64) (v9 : Int32) (σ : Sto), VV X E b_Mo_mean 15 eL 93 [(0, .ref (E.2.1 48)), (2, .int v2), (3, .int v3), (4, .int v4), (5, .int v5), (6, .int v6), (7, .long v7), (9, .int v9)] [] σ (k93 v2 v3 v4 v5 v6 v7 v9 σ)) (fu : Nat) : ∀ (v2 : Int32) (v3 : Int32) (v4 : Int32) (v5 : Int32) (v6 : Int32) (v7 : Int64) (v9 : Int32) (v10 : Int32) (σ : Sto), VV X E b_Mo_mean 15 eL 107 [(0, .ref (E.2.1 48)), (2, .int v2), (3, .int v3), (4, .int v4), (5, .int v5), (6, .int v6), (7, .long v7), (9, .int v9), (10, .int v10)] [] σ (L_Mo_mean_107 k93 fu v2 v3 v4 v5 v6 v7 v9 v10 σ) := by
  induction fu with
  | zero => intros; exact v_none
  | succ fu ih =>
    intro v2 v3 v4 v5 v6 v7 v9 v10 σ
    exact vB_Mo_mean_107 g hk93 ih v2 v3 v4 v5 v6 v7 v9 v10 σ
def B_Mo_mean_205 (k205 : Int32 → Int32 → Int64 → Int64 → Int64 → Sto → Option (Int64 × Sto)) (v2 : Int32) (v5 : Int32) (v7 : Int64) (v9 : Int64) (v11 : Int64) (σ : Sto) : Option (Int64 × Sto) :=
  (if v11 = (0 : Int64) then (if v5 = 0 then (if ¬ v9 = 0 then some ((v7 / v9), σ) else none)
  else (if ¬ v9 = 0 then some (((Int32.toInt64 v2) / v9), σ) else none))
 else (if ¬ v11 = 0 then k205 v2 v5 v7 v11 (lrm v9 v11) σ else none))
set_option maxHeartbeats 4000000 in
set_option maxRecDepth 100000 in
theorem vB_Mo_mean_205 {X : Xt} {E : En} (g : GG X E 7 b_Mo_mean R_Mo 15) {k205 : Int32 → Int32 → Int64 → Int64 → Int64 → Sto → Option (Int64 × Sto)} (hk205 : ∀ (v2 : Int32) (v5 : Int32) (v7 : Int64) (v9 : Int64) (v11 : Int64) (σ : Sto), VV X E b_Mo_mean 15 eL 205 [(2, .int v2), (5, .int v5), (7, .long v7), (9, .long v9), (11, .long v11)] [] σ (k205 v2 v5 v7 v9 v11 σ)) (v2 : Int32) (v5 : Int32) (v7 : Int64) (v9 : Int64) (v11 : Int64) (σ : Sto) : VV X E b_Mo_mean 15 eL 205 [(2, .int v2), (5, .int v5), (7, .long v7), (9, .long v9), (11, .long v11)] [] σ (B_Mo_mean_205 k205 v2 v5 v7 v9 v11 σ) := by
  unfold B_Mo_mean_205
  refine v_lload 4 g d_Mo_mean_205 rfl ?_
  refine v_lconst (v := (0 : Int64)) g d_Mo_mean_207 (by decide +kernel) ?_
  refine v_lcmp_eq 230 g d_Mo_mean_208 d_Mo_mean_209 (by decide) (fun _ => ?_) (fun _ => ?_)
  · refine v_iload 1 g d_Mo_mean_230 rfl ?_
    refine v_if_ne 240 g d_Mo_mean_232 (by decide) (fun _ => ?_) (fun _ => ?_)
    · refine v_iload_n 0 g d_Mo_mean_240 rfl ?_
      refine v_i2l g d_Mo_mean_241 ?_
      refine v_lload 3 g d_Mo_mean_242 rfl ?_
      refine v_ldiv g d_Mo_mean_244 (fun _ => ?_)
      exact v_ret d_Mo_mean_245 rfl
    · refine v_lload 2 g d_Mo_mean_235 rfl ?_
      refine v_goto 242 g d_Mo_mean_237 (by decide) ?_
      refine v_lload 3 g d_Mo_mean_242 rfl ?_
      refine v_ldiv g d_Mo_mean_244 (fun _ => ?_)
      exact v_ret d_Mo_mean_245 rfl
  · refine v_lload 3 g d_Mo_mean_212 rfl ?_
    refine v_lload 4 g d_Mo_mean_214 rfl ?_
    refine v_lrem g d_Mo_mean_216 (fun _ => ?_)
    refine v_lstore [(13, .long (lrm v9 v11)), (2, .int v2), (5, .int v5), (7, .long v7), (9, .long v9), (11, .long v11)] g d_Mo_mean_217 (by decide) rfl ?_
    refine v_lload 5 g d_Mo_mean_219 rfl ?_
    refine v_lstore [(9, .long v11), (13, .long (lrm v9 v11)), (2, .int v2), (5, .int v5), (7, .long v7), (11, .long v11)] g d_Mo_mean_221 (by decide) rfl ?_
    refine v_lload 1 g d_Mo_mean_223 rfl ?_
    refine v_lstore [(11, .long (lrm v9 v11)), (9, .long v11), (13, .long (lrm v9 v11)), (2, .int v2), (5, .int v5), (7, .long v7)] g d_Mo_mean_225 (by decide) rfl ?_
    refine v_goto 205 g d_Mo_mean_227 (by decide) ?_
    exact v_sub [3,4,5,1,0] rfl (hk205 v2 v5 v7 v11 (lrm v9 v11) σ)
def L_Mo_mean_205 : Nat → Int32 → Int32 → Int64 → Int64 → Int64 → Sto → Option (Int64 × Sto)
  | 0, _, _, _, _, _, _ => none
  | fu + 1, v2, v5, v7, v9, v11, σ => B_Mo_mean_205 (L_Mo_mean_205 fu) v2 v5 v7 v9 v11 σ
theorem vL_Mo_mean_205 {X : Xt} {E : En} (g : GG X E 7 b_Mo_mean R_Mo 15) (fu : Nat) : ∀ (v2 : Int32) (v5 : Int32) (v7 : Int64) (v9 : Int64) (v11 : Int64) (σ : Sto), VV X E b_Mo_mean 15 eL 205 [(2, .int v2), (5, .int v5), (7, .long v7), (9, .long v9), (11, .long v11)] [] σ (L_Mo_mean_205 fu v2 v5 v7 v9 v11 σ) := by
  induction fu with
  | zero => intros; exact v_none
  | succ fu ih =>
    intro v2 v5 v7 v9 v11 σ
    exact vB_Mo_mean_205 g ih v2 v5 v7 v9 v11 σ
def B_Mo_mean_93 (k93 : Int32 → Int32 → Int32 → Int32 → Int32 → Int64 → Int32 → Sto → Option (Int64 × Sto)) (v2 : Int32) (v3 : Int32) (v4 : Int32) (v5 : Int32) (v6 : Int32) (v7 : Int64) (v9 : Int32) (σ : Sto) : Option (Int64 × Sto) :=
  (if v2 ≤ v9 then ((f_Mo_copies 64 49 63 50 65 51 (sI σ 48 0 v6)).bind fun q6 => (if v7 = (0 : Int64) then some ((Int32.toInt64 v5), q6.2)
  else L_Mo_mean_205 LF v2 v5 v7 v7 (Int32.toInt64 v2) q6.2))
 else L_Mo_mean_107 k93 LF v2 v3 v4 v5 v6 v7 v9 (0 : Int32) (sI σ 48 0 (0 : Int32)))
set_option maxHeartbeats 4000000 in
set_option maxRecDepth 100000 in
theorem vB_Mo_mean_93 {X : Xt} {E : En} (g : GG X E 7 b_Mo_mean R_Mo 15) {k93 : Int32 → Int32 → Int32 → Int32 → Int32 → Int64 → Int32 → Sto → Option (Int64 × Sto)} (hk93 : ∀ (v2 : Int32) (v3 : Int32) (v4 : Int32) (v5 : Int32) (v6 : Int32) (v7 : Int64) (v9 : Int32) (σ : Sto), VV X E b_Mo_mean 15 eL 93 [(0, .ref (E.2.1 48)), (2, .int v2), (3, .int v3), (4, .int v4), (5, .int v5), (6, .int v6), (7, .long v7), (9, .int v9)] [] σ (k93 v2 v3 v4 v5 v6 v7 v9 σ)) (v2 : Int32) (v3 : Int32) (v4 : Int32) (v5 : Int32) (v6 : Int32) (v7 : Int64) (v9 : Int32) (σ : Sto) : VV X E b_Mo_mean 15 eL 93 [(0, .ref (E.2.1 48)), (2, .int v2), (3, .int v3), (4, .int v4), (5, .int v5), (6, .int v6), (7, .long v7), (9, .int v9)] [] σ (B_Mo_mean_93 k93 v2 v3 v4 v5 v6 v7 v9 σ) := by
  unfold B_Mo_mean_93
  refine v_iload 7 g d_Mo_mean_93 rfl ?_
  refine v_iload_n 1 g d_Mo_mean_95 rfl ?_
  refine v_icmp_ge 153 g d_Mo_mean_96 (by decide) (fun _ => ?_) (fun _ => ?_)
  · refine v_aload_n 0 g d_Mo_mean_153 rfl ?_
    refine v_iload 5 g d_Mo_mean_154 rfl ?_
    refine v_putI g fp_Mo_80 rfl rfl d_Mo_mean_156 ?_
    refine v_aload_n 0 g d_Mo_mean_159 rfl ?_
    refine v_getR 64 g ff_Mo_56 rfl rfl rfl d_Mo_mean_160 ?_
    refine v_aload_n 0 g d_Mo_mean_163 rfl ?_
    refine v_getR 49 g ff_Mo_9 rfl rfl rfl d_Mo_mean_164 ?_
    refine v_aload_n 0 g d_Mo_mean_167 rfl ?_
    refine v_getR 63 g ff_Mo_53 rfl rfl rfl d_Mo_mean_168 ?_
    refine v_aload_n 0 g d_Mo_mean_171 rfl ?_
    refine v_getR 50 g ff_Mo_13 rfl rfl rfl d_Mo_mean_172 ?_
    refine v_aload_n 0 g d_Mo_mean_175 rfl ?_
    refine v_getR 65 g ff_Mo_59 rfl rfl rfl d_Mo_mean_176 ?_
    refine v_aload_n 0 g d_Mo_mean_179 rfl ?_
    refine v_getR 51 g ff_Mo_16 rfl rfl rfl d_Mo_mean_180 ?_
    refine v_callU (r_S (rest := []) [.ref (E.2.1 64), .ref (E.2.1 49), .ref (E.2.1 63), .ref (E.2.1 50), .ref (E.2.1 65), .ref (E.2.1 51)] g (m1 1446 (by decide +kernel) (by decide +kernel)) ys_Mo_copies (fun r σ1 h => sp_Mo_copies g.2.2.1 rfl rfl rfl rfl rfl rfl h) rfl rfl (by decide) (Nat.le_of_ble_eq_true rfl) d_Mo_mean_183) (fun q6 => ?_)
    refine v_lload 6 g d_Mo_mean_186 rfl ?_
    refine v_lconst (v := (0 : Int64)) g d_Mo_mean_188 (by decide +kernel) ?_
    refine v_lcmp_ne 197 g d_Mo_mean_189 d_Mo_mean_190 (by decide) (fun _ => ?_) (fun _ => ?_)
    · refine v_lload 6 g d_Mo_mean_197 rfl ?_
      refine v_lstore [(9, .long v7), (0, .ref (E.2.1 48)), (2, .int v2), (3, .int v3), (4, .int v4), (5, .int v5), (6, .int v6), (7, .long v7)] g d_Mo_mean_199 (by decide) rfl ?_
      refine v_iload_n 2 g d_Mo_mean_201 rfl ?_
      refine v_i2l g d_Mo_mean_202 ?_
      refine v_lstore [(11, .long (Int32.toInt64 v2)), (9, .long v7), (0, .ref (E.2.1 48)), (2, .int v2), (3, .int v3), (4, .int v4), (5, .int v5), (6, .int v6), (7, .long v7)] g d_Mo_mean_203 (by decide) rfl ?_
      exact v_sub [3,6,8,1,0] rfl (vL_Mo_mean_205 g LF v2 v5 v7 v7 (Int32.toInt64 v2) q6.2)
    · refine v_iload 4 g d_Mo_mean_193 rfl ?_
      refine v_i2l g d_Mo_mean_195 ?_
      exact v_ret d_Mo_mean_196 rfl
  · refine v_aload_n 0 g d_Mo_mean_99 rfl ?_
    refine v_iconst (v := (0 : Int32)) g d_Mo_mean_100 (by decide +kernel) ?_
    refine v_putI g fp_Mo_80 rfl rfl d_Mo_mean_101 ?_
    refine v_iconst (v := (0 : Int32)) g d_Mo_mean_104 (by decide +kernel) ?_
    refine v_istore [(10, .int (0 : Int32)), (0, .ref (E.2.1 48)), (2, .int v2), (3, .int v3), (4, .int v4), (5, .int v5), (6, .int v6), (7, .long v7), (9, .int v9)] g d_Mo_mean_105 (by decide) rfl ?_
    exact v_sub [1,2,3,4,5,6,7,8,0] rfl (vL_Mo_mean_107 g hk93 LF v2 v3 v4 v5 v6 v7 v9 (0 : Int32) (sI σ 48 0 (0 : Int32)))
def L_Mo_mean_93 : Nat → Int32 → Int32 → Int32 → Int32 → Int32 → Int64 → Int32 → Sto → Option (Int64 × Sto)
  | 0, _, _, _, _, _, _, _, _ => none
  | fu + 1, v2, v3, v4, v5, v6, v7, v9, σ => B_Mo_mean_93 (L_Mo_mean_93 fu) v2 v3 v4 v5 v6 v7 v9 σ
theorem vL_Mo_mean_93 {X : Xt} {E : En} (g : GG X E 7 b_Mo_mean R_Mo 15) (fu : Nat) : ∀ (v2 : Int32) (v3 : Int32) (v4 : Int32) (v5 : Int32) (v6 : Int32) (v7 : Int64) (v9 : Int32) (σ : Sto), VV X E b_Mo_mean 15 eL 93 [(0, .ref (E.2.1 48)), (2, .int v2), (3, .int v3), (4, .int v4), (5, .int v5), (6, .int v6), (7, .long v7), (9, .int v9)] [] σ (L_Mo_mean_93 fu v2 v3 v4 v5 v6 v7 v9 σ) := by
  induction fu with
  | zero => intros; exact v_none
  | succ fu ih =>
    intro v2 v3 v4 v5 v6 v7 v9 σ
    exact vB_Mo_mean_93 g ih v2 v3 v4 v5 v6 v7 v9 σ
def B_Mo_mean_0 (a1 : Int32) (a2 : Int32) (a3 : Int32) (a4 : Int32) (a5 : Int32) (σ : Sto) : Option (Int64 × Sto) :=
  ((f_Mo_in (Int32.toInt64 a2) (1 : Int64) (12 : Int64) σ).bind fun q1 => (if (b2i q1.1) = 0 then some ((-2 : Int64), q1.2)
 else ((f_Mo_in (Int32.toInt64 a3) (0 : Int64) (10 : Int64) q1.2).bind fun q2 => (if (b2i q2.1) = 0 then some ((-2 : Int64), q2.2)
  else ((f_Mo_in (Int32.toInt64 a4) (0 : Int64) (10 : Int64) q2.2).bind fun q3 => (if (b2i q3.1) = 0 then some ((-2 : Int64), q3.2)
   else ((f_Mo_isOne a5 q3.2).bind fun q4 => (if (b2i q4.1) = 0 then some ((-2 : Int64), q4.2)
    else ((f_Mo_copies 49 64 50 63 51 65 q4.2).bind fun q5 => L_Mo_mean_93 LF a2 a3 a4 a5 (gI q4.2 48 0) (0 : Int64) (0 : Int32) (sI q5.2 48 32 a1))))))))))
set_option maxHeartbeats 4000000 in
set_option maxRecDepth 100000 in
theorem vB_Mo_mean_0 {X : Xt} {E : En} (g : GG X E 7 b_Mo_mean R_Mo 15) (a1 : Int32) (a2 : Int32) (a3 : Int32) (a4 : Int32) (a5 : Int32) (σ : Sto) : VV X E b_Mo_mean 15 eL 0 [(0, .ref (E.2.1 48)), (1, .int a1), (2, .int a2), (3, .int a3), (4, .int a4), (5, .int a5)] [] σ (B_Mo_mean_0 a1 a2 a3 a4 a5 σ) := by
  unfold B_Mo_mean_0
  refine v_iload_n 2 g d_Mo_mean_0 rfl ?_
  refine v_i2l g d_Mo_mean_1 ?_
  refine v_lconst (v := (1 : Int64)) g d_Mo_mean_2 (by decide +kernel) ?_
  refine v_ldc2 (v := (12 : Int64)) g (m1 1508 (by decide +kernel) (by decide +kernel)) d_Mo_mean_3 ?_
  refine v_callB (r_S (rest := []) [.long (Int32.toInt64 a2), .long (1 : Int64), .long (12 : Int64)] g (m1 1167 (by decide +kernel) (by decide +kernel)) ys_Mo_in (fun r σ1 h => sp_Mo_in g.2.2.1  h) rfl rfl (by decide) (Nat.le_of_ble_eq_true rfl) d_Mo_mean_6) (fun q1 => ?_)
  refine v_if_eq 45 g d_Mo_mean_9 (by decide) (fun _ => ?_) (fun _ => ?_)
  · refine v_ldc2 (v := (-2 : Int64)) g (m1 1237 (by decide +kernel) (by decide +kernel)) d_Mo_mean_45 ?_
    exact v_ret d_Mo_mean_48 rfl
  · refine v_iload_n 3 g d_Mo_mean_12 rfl ?_
    refine v_i2l g d_Mo_mean_13 ?_
    refine v_lconst (v := (0 : Int64)) g d_Mo_mean_14 (by decide +kernel) ?_
    refine v_ldc2 (v := (10 : Int64)) g (m1 1494 (by decide +kernel) (by decide +kernel)) d_Mo_mean_15 ?_
    refine v_callB (r_S (rest := []) [.long (Int32.toInt64 a3), .long (0 : Int64), .long (10 : Int64)] g (m1 1167 (by decide +kernel) (by decide +kernel)) ys_Mo_in (fun r σ1 h => sp_Mo_in g.2.2.1  h) rfl rfl (by decide) (Nat.le_of_ble_eq_true rfl) d_Mo_mean_18) (fun q2 => ?_)
    refine v_if_eq 45 g d_Mo_mean_21 (by decide) (fun _ => ?_) (fun _ => ?_)
    · refine v_ldc2 (v := (-2 : Int64)) g (m1 1237 (by decide +kernel) (by decide +kernel)) d_Mo_mean_45 ?_
      exact v_ret d_Mo_mean_48 rfl
    · refine v_iload 4 g d_Mo_mean_24 rfl ?_
      refine v_i2l g d_Mo_mean_26 ?_
      refine v_lconst (v := (0 : Int64)) g d_Mo_mean_27 (by decide +kernel) ?_
      refine v_ldc2 (v := (10 : Int64)) g (m1 1494 (by decide +kernel) (by decide +kernel)) d_Mo_mean_28 ?_
      refine v_callB (r_S (rest := []) [.long (Int32.toInt64 a4), .long (0 : Int64), .long (10 : Int64)] g (m1 1167 (by decide +kernel) (by decide +kernel)) ys_Mo_in (fun r σ1 h => sp_Mo_in g.2.2.1  h) rfl rfl (by decide) (Nat.le_of_ble_eq_true rfl) d_Mo_mean_31) (fun q3 => ?_)
      refine v_if_eq 45 g d_Mo_mean_34 (by decide) (fun _ => ?_) (fun _ => ?_)
      · refine v_ldc2 (v := (-2 : Int64)) g (m1 1237 (by decide +kernel) (by decide +kernel)) d_Mo_mean_45 ?_
        exact v_ret d_Mo_mean_48 rfl
      · refine v_iload 5 g d_Mo_mean_37 rfl ?_
        refine v_callB (r_S (rest := []) [.int a5] g (m1 1203 (by decide +kernel) (by decide +kernel)) ys_Mo_isOne (fun r σ1 h => sp_Mo_isOne g.2.2.1  h) rfl rfl (by decide) (Nat.le_of_ble_eq_true rfl) d_Mo_mean_39) (fun q4 => ?_)
        refine v_if_ne 49 g d_Mo_mean_42 (by decide) (fun _ => ?_) (fun _ => ?_)
        · refine v_aload_n 0 g d_Mo_mean_49 rfl ?_
          refine v_getI g ff_Mo_80 rfl rfl d_Mo_mean_50 ?_
          refine v_istore [(6, .int (gI q4.2 48 0)), (0, .ref (E.2.1 48)), (1, .int a1), (2, .int a2), (3, .int a3), (4, .int a4), (5, .int a5)] g d_Mo_mean_53 (by decide) rfl ?_
          refine v_aload_n 1 g d_Mo_mean_55 rfl ?_
          refine v_getR 49 g ff_Mo_9 rfl rfl rfl d_Mo_mean_56 ?_
          refine v_aload_n 1 g d_Mo_mean_59 rfl ?_
          refine v_getR 64 g ff_Mo_56 rfl rfl rfl d_Mo_mean_60 ?_
          refine v_aload_n 1 g d_Mo_mean_63 rfl ?_
          refine v_getR 50 g ff_Mo_13 rfl rfl rfl d_Mo_mean_64 ?_
          refine v_aload_n 1 g d_Mo_mean_67 rfl ?_
          refine v_getR 63 g ff_Mo_53 rfl rfl rfl d_Mo_mean_68 ?_
          refine v_aload_n 1 g d_Mo_mean_71 rfl ?_
          refine v_getR 51 g ff_Mo_16 rfl rfl rfl d_Mo_mean_72 ?_
          refine v_aload_n 1 g d_Mo_mean_75 rfl ?_
          refine v_getR 65 g ff_Mo_59 rfl rfl rfl d_Mo_mean_76 ?_
          refine v_callU (r_S (rest := []) [.ref (E.2.1 49), .ref (E.2.1 64), .ref (E.2.1 50), .ref (E.2.1 63), .ref (E.2.1 51), .ref (E.2.1 65)] g (m1 1446 (by decide +kernel) (by decide +kernel)) ys_Mo_copies (fun r σ1 h => sp_Mo_copies g.2.2.1 rfl rfl rfl rfl rfl rfl h) rfl rfl (by decide) (Nat.le_of_ble_eq_true rfl) d_Mo_mean_79) (fun q5 => ?_)
          refine v_aload_n 1 g d_Mo_mean_82 rfl ?_
          refine v_iload_n 2 g d_Mo_mean_83 rfl ?_
          refine v_putI g fp_Mo_330 rfl rfl d_Mo_mean_84 ?_
          refine v_lconst (v := (0 : Int64)) g d_Mo_mean_87 (by decide +kernel) ?_
          refine v_lstore [(7, .long (0 : Int64)), (6, .int (gI q4.2 48 0)), (0, .ref (E.2.1 48)), (1, .int a1), (2, .int a2), (3, .int a3), (4, .int a4), (5, .int a5)] g d_Mo_mean_88 (by decide) rfl ?_
          refine v_iconst (v := (0 : Int32)) g d_Mo_mean_90 (by decide +kernel) ?_
          refine v_istore [(9, .int (0 : Int32)), (7, .long (0 : Int64)), (6, .int (gI q4.2 48 0)), (0, .ref (E.2.1 48)), (1, .int a1), (2, .int a2), (3, .int a3), (4, .int a4), (5, .int a5)] g d_Mo_mean_91 (by decide) rfl ?_
          exact v_sub [3,5,6,7,8,2,1,0] rfl (vL_Mo_mean_93 g LF a2 a3 a4 a5 (gI q4.2 48 0) (0 : Int64) (0 : Int32) (sI q5.2 48 32 a1))
        · refine v_ldc2 (v := (-2 : Int64)) g (m1 1237 (by decide +kernel) (by decide +kernel)) d_Mo_mean_45 ?_
          exact v_ret d_Mo_mean_48 rfl
def f_Mo_mean (a1 : Int32) (a2 : Int32) (a3 : Int32) (a4 : Int32) (a5 : Int32) (σ : Sto) : Option (Int64 × Sto) := B_Mo_mean_0 a1 a2 a3 a4 a5 σ
theorem sp_Mo_mean {l : Launch} {E : En} (hE : Dj E) {a1 : Int32} {a2 : Int32} {a3 : Int32} {a4 : Int32} {a5 : Int32} {σ : Sto} {r : Int64} {σ' : Sto} (h : f_Mo_mean a1 a2 a3 a4 a5 σ = some (r, σ')) : Ct l E y_Mo_mean (wsM y_Mo_mean b_Mo_mean 15 (some .long)) 7 [.ref (E.2.1 48), .int a1, .int a2, .int a3, .int a4, .int a5] σ (eL r) σ' :=
  ct_of hE (by decide +kernel) (Nat.le_of_ble_eq_true rfl) (fun x => Or.inr (Or.inr (Or.inl ⟨rfl, x, rfl⟩))) (fun X _ g => vB_Mo_mean_0 g a1 a2 a3 a4 a5 σ) r σ' h
/-! method FittingRingsModel.isHand(I)Z -/
theorem ys_Mo_isHand : YS y_Mo_isHand b_Mo_isHand 1 (some .boolean) 1 := ⟨m1 1514 (by decide +kernel) (by decide +kernel), ini_Mo, m1 1515 (by decide +kernel) (by decide +kernel), ⟨by decide +kernel, by decide +kernel, by decide +kernel⟩, by decide⟩
theorem d_Mo_isHand_0 : decode b_Mo_isHand 0 = .ok (.iload_n 0, 1) := by decide +kernel
theorem d_Mo_isHand_1 : decode b_Mo_isHand 1 = .ok (.i2l, 1) := by decide +kernel
theorem d_Mo_isHand_2 : decode b_Mo_isHand 2 = .ok (.lconst 0, 1) := by decide +kernel
theorem d_Mo_isHand_3 : decode b_Mo_isHand 3 = .ok (.ldc2_w 104, 3) := by decide +kernel
theorem d_Mo_isHand_6 : decode b_Mo_isHand 6 = .ok (.invokestatic 84, 3) := by decide +kernel
theorem d_Mo_isHand_9 : decode b_Mo_isHand 9 = .ok (.ireturn, 1) := by decide +kernel
def B_Mo_isHand_0 (a0 : Int32) (σ : Sto) : Option (Bool × Sto) :=
  ((f_Mo_in (Int32.toInt64 a0) (0 : Int64) (3 : Int64) σ).bind fun q1 => some (q1.1, q1.2))
set_option maxHeartbeats 4000000 in
set_option maxRecDepth 100000 in
theorem vB_Mo_isHand_0 {X : Xt} {E : En} (g : GG X E 2 b_Mo_isHand R_Mo 1) (a0 : Int32) (σ : Sto) : VV X E b_Mo_isHand 1 eB 0 [(0, .int a0)] [] σ (B_Mo_isHand_0 a0 σ) := by
  unfold B_Mo_isHand_0
  refine v_iload_n 0 g d_Mo_isHand_0 rfl ?_
  refine v_i2l g d_Mo_isHand_1 ?_
  refine v_lconst (v := (0 : Int64)) g d_Mo_isHand_2 (by decide +kernel) ?_
  refine v_ldc2 (v := (3 : Int64)) g (m1 1183 (by decide +kernel) (by decide +kernel)) d_Mo_isHand_3 ?_
  refine v_callB (r_S (rest := []) [.long (Int32.toInt64 a0), .long (0 : Int64), .long (3 : Int64)] g (m1 1167 (by decide +kernel) (by decide +kernel)) ys_Mo_in (fun r σ1 h => sp_Mo_in g.2.2.1  h) rfl rfl (by decide) (Nat.le_of_ble_eq_true rfl) d_Mo_isHand_6) (fun q1 => ?_)
  exact v_ret d_Mo_isHand_9 rfl
def f_Mo_isHand (a0 : Int32) (σ : Sto) : Option (Bool × Sto) := B_Mo_isHand_0 a0 σ
theorem sp_Mo_isHand {l : Launch} {E : En} (hE : Dj E) {a0 : Int32} {σ : Sto} {r : Bool} {σ' : Sto} (h : f_Mo_isHand a0 σ = some (r, σ')) : Ct l E y_Mo_isHand (wsM y_Mo_isHand b_Mo_isHand 1 (some .boolean)) 2 [.int a0] σ (eB r) σ' :=
  ct_of hE (by decide +kernel) (Nat.le_of_ble_eq_true rfl) (fun b => Or.inr (Or.inl ⟨rfl, b, rfl⟩)) (fun X _ g => vB_Mo_isHand_0 g a0 σ) r σ' h
/-! method FittingRingsModel.hold(IIJ)I -/
theorem yv_Mo_hold : YV y_Mo_hold b_Mo_hold 6 (some .int) 3 10 := ⟨m1 1510 (by decide +kernel) (by decide +kernel), m1 1511 (by decide +kernel) (by decide +kernel), ini_Mo, m1 1512 (by decide +kernel) (by decide +kernel), ⟨by decide +kernel, by decide +kernel, by decide +kernel⟩, by decide, by decide, T_Mo, 39, rfl⟩
theorem d_Mo_hold_0 : decode b_Mo_hold 0 = .ok (.iload_n 1, 1) := by decide +kernel
theorem d_Mo_hold_1 : decode b_Mo_hold 1 = .ok (.invokestatic 346, 3) := by decide +kernel
theorem d_Mo_hold_4 : decode b_Mo_hold 4 = .ok (.ifCond .eq 51, 3) := by decide +kernel
theorem d_Mo_hold_7 : decode b_Mo_hold 7 = .ok (.iload_n 2, 1) := by decide +kernel
theorem d_Mo_hold_8 : decode b_Mo_hold 8 = .ok (.i2l, 1) := by decide +kernel
theorem d_Mo_hold_9 : decode b_Mo_hold 9 = .ok (.lconst 0, 1) := by decide +kernel
theorem d_Mo_hold_10 : decode b_Mo_hold 10 = .ok (.ldc2_w 104, 3) := by decide +kernel
theorem d_Mo_hold_13 : decode b_Mo_hold 13 = .ok (.invokestatic 84, 3) := by decide +kernel
theorem d_Mo_hold_16 : decode b_Mo_hold 16 = .ok (.ifCond .eq 39, 3) := by decide +kernel
theorem d_Mo_hold_19 : decode b_Mo_hold 19 = .ok (.iload_n 2, 1) := by decide +kernel
theorem d_Mo_hold_20 : decode b_Mo_hold 20 = .ok (.iconst 1, 1) := by decide +kernel
theorem d_Mo_hold_21 : decode b_Mo_hold 21 = .ok (.if_icmp .ne 18, 3) := by decide +kernel
theorem d_Mo_hold_24 : decode b_Mo_hold 24 = .ok (.lload_n 3, 1) := by decide +kernel
theorem d_Mo_hold_25 : decode b_Mo_hold 25 = .ok (.lconst 0, 1) := by decide +kernel
theorem d_Mo_hold_26 : decode b_Mo_hold 26 = .ok (.aload_n 0, 1) := by decide +kernel
theorem d_Mo_hold_27 : decode b_Mo_hold 27 = .ok (.getfield 80, 3) := by decide +kernel
theorem d_Mo_hold_30 : decode b_Mo_hold 30 = .ok (.iconst 1, 1) := by decide +kernel
theorem d_Mo_hold_31 : decode b_Mo_hold 31 = .ok (.isub, 1) := by decide +kernel
theorem d_Mo_hold_32 : decode b_Mo_hold 32 = .ok (.i2l, 1) := by decide +kernel
theorem d_Mo_hold_33 : decode b_Mo_hold 33 = .ok (.invokestatic 84, 3) := by decide +kernel
theorem d_Mo_hold_36 : decode b_Mo_hold 36 = .ok (.ifCond .eq 19, 3) := by decide +kernel
theorem d_Mo_hold_39 : decode b_Mo_hold 39 = .ok (.iload_n 2, 1) := by decide +kernel
theorem d_Mo_hold_40 : decode b_Mo_hold 40 = .ok (.iconst 2, 1) := by decide +kernel
theorem d_Mo_hold_41 : decode b_Mo_hold 41 = .ok (.if_icmp .ne 17, 3) := by decide +kernel
theorem d_Mo_hold_44 : decode b_Mo_hold 44 = .ok (.lload_n 3, 1) := by decide +kernel
theorem d_Mo_hold_45 : decode b_Mo_hold 45 = .ok (.lconst 0, 1) := by decide +kernel
theorem d_Mo_hold_46 : decode b_Mo_hold 46 = .ok (.ldc2_w 191, 3) := by decide +kernel
theorem d_Mo_hold_49 : decode b_Mo_hold 49 = .ok (.invokestatic 84, 3) := by decide +kernel
theorem d_Mo_hold_52 : decode b_Mo_hold 52 = .ok (.ifCond .ne 6, 3) := by decide +kernel
theorem d_Mo_hold_55 : decode b_Mo_hold 55 = .ok (.bipush (-2), 2) := by decide +kernel
theorem d_Mo_hold_57 : decode b_Mo_hold 57 = .ok (.ireturn, 1) := by decide +kernel
theorem d_Mo_hold_58 : decode b_Mo_hold 58 = .ok (.aload_n 0, 1) := by decide +kernel
theorem d_Mo_hold_59 : decode b_Mo_hold 59 = .ok (.getfield 62, 3) := by decide +kernel
theorem d_Mo_hold_62 : decode b_Mo_hold 62 = .ok (.iload_n 1, 1) := by decide +kernel
theorem d_Mo_hold_63 : decode b_Mo_hold 63 = .ok (.iaload, 1) := by decide +kernel
theorem d_Mo_hold_64 : decode b_Mo_hold 64 = .ok (.istore 5, 2) := by decide +kernel
theorem d_Mo_hold_66 : decode b_Mo_hold 66 = .ok (.aload_n 0, 1) := by decide +kernel
theorem d_Mo_hold_67 : decode b_Mo_hold 67 = .ok (.getfield 62, 3) := by decide +kernel
theorem d_Mo_hold_70 : decode b_Mo_hold 70 = .ok (.iload_n 1, 1) := by decide +kernel
theorem d_Mo_hold_71 : decode b_Mo_hold 71 = .ok (.iload_n 2, 1) := by decide +kernel
theorem d_Mo_hold_72 : decode b_Mo_hold 72 = .ok (.iastore, 1) := by decide +kernel
theorem d_Mo_hold_73 : decode b_Mo_hold 73 = .ok (.aload_n 0, 1) := by decide +kernel
theorem d_Mo_hold_74 : decode b_Mo_hold 74 = .ok (.getfield 65, 3) := by decide +kernel
theorem d_Mo_hold_77 : decode b_Mo_hold 77 = .ok (.iload_n 1, 1) := by decide +kernel
theorem d_Mo_hold_78 : decode b_Mo_hold 78 = .ok (.iload_n 2, 1) := by decide +kernel
theorem d_Mo_hold_79 : decode b_Mo_hold 79 = .ok (.iconst 1, 1) := by decide +kernel
theorem d_Mo_hold_80 : decode b_Mo_hold 80 = .ok (.if_icmp .ne 14, 3) := by decide +kernel
theorem d_Mo_hold_83 : decode b_Mo_hold 83 = .ok (.aload_n 0, 1) := by decide +kernel
theorem d_Mo_hold_84 : decode b_Mo_hold 84 = .ok (.getfield 13, 3) := by decide +kernel
theorem d_Mo_hold_87 : decode b_Mo_hold 87 = .ok (.lload_n 3, 1) := by decide +kernel
theorem d_Mo_hold_88 : decode b_Mo_hold 88 = .ok (.l2i, 1) := by decide +kernel
theorem d_Mo_hold_89 : decode b_Mo_hold 89 = .ok (.iaload, 1) := by decide +kernel
theorem d_Mo_hold_90 : decode b_Mo_hold 90 = .ok (.i2l, 1) := by decide +kernel
theorem d_Mo_hold_91 : decode b_Mo_hold 91 = .ok (.goto 4, 3) := by decide +kernel
theorem d_Mo_hold_94 : decode b_Mo_hold 94 = .ok (.lload_n 3, 1) := by decide +kernel
theorem d_Mo_hold_95 : decode b_Mo_hold 95 = .ok (.lastore, 1) := by decide +kernel
theorem d_Mo_hold_96 : decode b_Mo_hold 96 = .ok (.aload_n 0, 1) := by decide +kernel
theorem d_Mo_hold_97 : decode b_Mo_hold 97 = .ok (.getfield 68, 3) := by decide +kernel
theorem d_Mo_hold_100 : decode b_Mo_hold 100 = .ok (.iload_n 1, 1) := by decide +kernel
theorem d_Mo_hold_101 : decode b_Mo_hold 101 = .ok (.iload_n 2, 1) := by decide +kernel
theorem d_Mo_hold_102 : decode b_Mo_hold 102 = .ok (.iconst 1, 1) := by decide +kernel
theorem d_Mo_hold_103 : decode b_Mo_hold 103 = .ok (.if_icmp .ne 13, 3) := by decide +kernel
theorem d_Mo_hold_106 : decode b_Mo_hold 106 = .ok (.aload_n 0, 1) := by decide +kernel
theorem d_Mo_hold_107 : decode b_Mo_hold 107 = .ok (.getfield 9, 3) := by decide +kernel
theorem d_Mo_hold_110 : decode b_Mo_hold 110 = .ok (.lload_n 3, 1) := by decide +kernel
theorem d_Mo_hold_111 : decode b_Mo_hold 111 = .ok (.l2i, 1) := by decide +kernel
theorem d_Mo_hold_112 : decode b_Mo_hold 112 = .ok (.iaload, 1) := by decide +kernel
theorem d_Mo_hold_113 : decode b_Mo_hold 113 = .ok (.goto 4, 3) := by decide +kernel
theorem d_Mo_hold_116 : decode b_Mo_hold 116 = .ok (.iconst 0, 1) := by decide +kernel
theorem d_Mo_hold_117 : decode b_Mo_hold 117 = .ok (.iastore, 1) := by decide +kernel
theorem d_Mo_hold_118 : decode b_Mo_hold 118 = .ok (.iload 5, 2) := by decide +kernel
theorem d_Mo_hold_120 : decode b_Mo_hold 120 = .ok (.ireturn, 1) := by decide +kernel
def B_Mo_hold_58 (v1 : Int32) (v2 : Int32) (v3 : Int64) (σ : Sto) : Option (Int32 × Sto) :=
  (if inb v1 4 = true then (lt1 (gI σ 66 (Int32.toNatClampNeg v1)) fun x6 => (if inb v1 4 = true then (if v2 = (1 : Int32) then (if inb (Int64.toInt32 v3) 40 = true then (if inb v1 4 = true then (lt1 (sL (sI σ 66 (Int32.toNatClampNeg v1) v2) 67 (Int32.toNatClampNeg v1) (Int32.toInt64 (gI (sI σ 66 (Int32.toNatClampNeg v1) v2) 50 (Int32.toNatClampNeg (Int64.toInt32 v3))))) fun σ9 => (if v2 = (1 : Int32) then (if inb (Int64.toInt32 v3) 40 = true then (if inb v1 4 = true then (lt1 (sI σ9 68 (Int32.toNatClampNeg v1) (gI σ9 49 (Int32.toNatClampNeg (Int64.toInt32 v3)))) fun σ10 => some (x6, σ10)) else none) else none)
  else (if inb v1 4 = true then some (x6, (sI σ9 68 (Int32.toNatClampNeg v1) (0 : Int32))) else none))) else none) else none)
 else (if inb v1 4 = true then (lt1 (sL (sI σ 66 (Int32.toNatClampNeg v1) v2) 67 (Int32.toNatClampNeg v1) v3) fun σ7 => (if v2 = (1 : Int32) then (if inb (Int64.toInt32 v3) 40 = true then (if inb v1 4 = true then (lt1 (sI σ7 68 (Int32.toNatClampNeg v1) (gI σ7 49 (Int32.toNatClampNeg (Int64.toInt32 v3)))) fun σ8 => some (x6, σ8)) else none) else none)
  else (if inb v1 4 = true then some (x6, (sI σ7 68 (Int32.toNatClampNeg v1) (0 : Int32))) else none))) else none)) else none)) else none)
set_option maxHeartbeats 4000000 in
set_option maxRecDepth 100000 in
theorem vB_Mo_hold_58 {X : Xt} {E : En} (g : GG X E 3 b_Mo_hold R_Mo 6) (v1 : Int32) (v2 : Int32) (v3 : Int64) (σ : Sto) : VV X E b_Mo_hold 6 eI 58 [(0, .ref (E.2.1 48)), (1, .int v1), (2, .int v2), (3, .long v3)] [] σ (B_Mo_hold_58 v1 v2 v3 σ) := by
  unfold B_Mo_hold_58
  refine v_aload_n 0 g d_Mo_hold_58 rfl ?_
  refine v_getR 66 g ff_Mo_62 rfl rfl rfl d_Mo_hold_59 ?_
  refine v_iload_n 1 g d_Mo_hold_62 rfl ?_
  refine v_iald g rfl rfl d_Mo_hold_63 (fun _ => ?_)
  refine v_nlet (fun x6 ex6 => ?_)
  rw [← ex6]
  refine v_istore [(5, .int x6), (0, .ref (E.2.1 48)), (1, .int v1), (2, .int v2), (3, .long v3)] g d_Mo_hold_64 (by decide) rfl ?_
  refine v_aload_n 1 g d_Mo_hold_66 rfl ?_
  refine v_getR 66 g ff_Mo_62 rfl rfl rfl d_Mo_hold_67 ?_
  refine v_iload_n 2 g d_Mo_hold_70 rfl ?_
  refine v_iload_n 3 g d_Mo_hold_71 rfl ?_
  refine v_iast g rfl rfl d_Mo_hold_72 (fun _ => ?_)
  refine v_aload_n 1 g d_Mo_hold_73 rfl ?_
  refine v_getR 67 g ff_Mo_65 rfl rfl rfl d_Mo_hold_74 ?_
  refine v_iload_n 2 g d_Mo_hold_77 rfl ?_
  refine v_iload_n 3 g d_Mo_hold_78 rfl ?_
  refine v_iconst (v := (1 : Int32)) g d_Mo_hold_79 (by decide +kernel) ?_
  refine v_icmp_ne 94 g d_Mo_hold_80 (by decide) (fun _ => ?_) (fun _ => ?_)
  · refine v_lload_n 4 g d_Mo_hold_94 rfl ?_
    refine v_last g rfl rfl d_Mo_hold_95 (fun _ => ?_)
    refine v_nlet (fun σ7 eσ7 => ?_)
    rw [← eσ7]
    refine v_aload_n 1 g d_Mo_hold_96 rfl ?_
    refine v_getR 68 g ff_Mo_68 rfl rfl rfl d_Mo_hold_97 ?_
    refine v_iload_n 2 g d_Mo_hold_100 rfl ?_
    refine v_iload_n 3 g d_Mo_hold_101 rfl ?_
    refine v_iconst (v := (1 : Int32)) g d_Mo_hold_102 (by decide +kernel) ?_
    refine v_icmp_ne 116 g d_Mo_hold_103 (by decide) (fun _ => ?_) (fun _ => ?_)
    · refine v_iconst (v := (0 : Int32)) g d_Mo_hold_116 (by decide +kernel) ?_
      refine v_iast g rfl rfl d_Mo_hold_117 (fun _ => ?_)
      refine v_iload 0 g d_Mo_hold_118 rfl ?_
      exact v_ret d_Mo_hold_120 rfl
    · refine v_aload_n 1 g d_Mo_hold_106 rfl ?_
      refine v_getR 49 g ff_Mo_9 rfl rfl rfl d_Mo_hold_107 ?_
      refine v_lload_n 4 g d_Mo_hold_110 rfl ?_
      refine v_l2i g d_Mo_hold_111 ?_
      refine v_iald g rfl rfl d_Mo_hold_112 (fun _ => ?_)
      refine v_goto 117 g d_Mo_hold_113 (by decide) ?_
      refine v_iast g rfl rfl d_Mo_hold_117 (fun _ => ?_)
      refine v_nlet (fun σ8 eσ8 => ?_)
      rw [← eσ8]
      refine v_iload 0 g d_Mo_hold_118 rfl ?_
      exact v_ret d_Mo_hold_120 rfl
  · refine v_aload_n 1 g d_Mo_hold_83 rfl ?_
    refine v_getR 50 g ff_Mo_13 rfl rfl rfl d_Mo_hold_84 ?_
    refine v_lload_n 4 g d_Mo_hold_87 rfl ?_
    refine v_l2i g d_Mo_hold_88 ?_
    refine v_iald g rfl rfl d_Mo_hold_89 (fun _ => ?_)
    refine v_i2l g d_Mo_hold_90 ?_
    refine v_goto 95 g d_Mo_hold_91 (by decide) ?_
    refine v_last g rfl rfl d_Mo_hold_95 (fun _ => ?_)
    refine v_nlet (fun σ9 eσ9 => ?_)
    rw [← eσ9]
    refine v_aload_n 1 g d_Mo_hold_96 rfl ?_
    refine v_getR 68 g ff_Mo_68 rfl rfl rfl d_Mo_hold_97 ?_
    refine v_iload_n 2 g d_Mo_hold_100 rfl ?_
    refine v_iload_n 3 g d_Mo_hold_101 rfl ?_
    refine v_iconst (v := (1 : Int32)) g d_Mo_hold_102 (by decide +kernel) ?_
    refine v_icmp_ne 116 g d_Mo_hold_103 (by decide) (fun _ => ?_) (fun _ => ?_)
    · refine v_iconst (v := (0 : Int32)) g d_Mo_hold_116 (by decide +kernel) ?_
      refine v_iast g rfl rfl d_Mo_hold_117 (fun _ => ?_)
      refine v_iload 0 g d_Mo_hold_118 rfl ?_
      exact v_ret d_Mo_hold_120 rfl
    · refine v_aload_n 1 g d_Mo_hold_106 rfl ?_
      refine v_getR 49 g ff_Mo_9 rfl rfl rfl d_Mo_hold_107 ?_
      refine v_lload_n 4 g d_Mo_hold_110 rfl ?_
      refine v_l2i g d_Mo_hold_111 ?_
      refine v_iald g rfl rfl d_Mo_hold_112 (fun _ => ?_)
      refine v_goto 117 g d_Mo_hold_113 (by decide) ?_
      refine v_iast g rfl rfl d_Mo_hold_117 (fun _ => ?_)
      refine v_nlet (fun σ10 eσ10 => ?_)
      rw [← eσ10]
      refine v_iload 0 g d_Mo_hold_118 rfl ?_
      exact v_ret d_Mo_hold_120 rfl
def B_Mo_hold_0 (a1 : Int32) (a2 : Int32) (a3 : Int64) (σ : Sto) : Option (Int32 × Sto) :=
  ((f_Mo_isHand a1 σ).bind fun q1 => (if (b2i q1.1) = 0 then some ((-2 : Int32), q1.2)
 else ((f_Mo_in (Int32.toInt64 a2) (0 : Int64) (3 : Int64) q1.2).bind fun q2 => (if (b2i q2.1) = 0 then some ((-2 : Int32), q2.2)
  else (if a2 = (1 : Int32) then ((f_Mo_in a3 (0 : Int64) (Int32.toInt64 ((gI q2.2 48 0) - (1 : Int32))) q2.2).bind fun q4 => (if (b2i q4.1) = 0 then some ((-2 : Int32), q4.2)
    else (if a2 = (2 : Int32) then ((f_Mo_in a3 (0 : Int64) (4 : Int64) q4.2).bind fun q5 => (if (b2i q5.1) = 0 then some ((-2 : Int32), q5.2)
      else B_Mo_hold_58 a1 a2 a3 q5.2))
     else B_Mo_hold_58 a1 a2 a3 q4.2)))
   else (if a2 = (2 : Int32) then ((f_Mo_in a3 (0 : Int64) (4 : Int64) q2.2).bind fun q3 => (if (b2i q3.1) = 0 then some ((-2 : Int32), q3.2)
     else B_Mo_hold_58 a1 a2 a3 q3.2))
    else B_Mo_hold_58 a1 a2 a3 q2.2))))))
set_option maxHeartbeats 4000000 in
set_option maxRecDepth 100000 in
theorem vB_Mo_hold_0 {X : Xt} {E : En} (g : GG X E 3 b_Mo_hold R_Mo 6) (a1 : Int32) (a2 : Int32) (a3 : Int64) (σ : Sto) : VV X E b_Mo_hold 6 eI 0 [(0, .ref (E.2.1 48)), (1, .int a1), (2, .int a2), (3, .long a3)] [] σ (B_Mo_hold_0 a1 a2 a3 σ) := by
  unfold B_Mo_hold_0
  refine v_iload_n 1 g d_Mo_hold_0 rfl ?_
  refine v_callB (r_S (rest := []) [.int a1] g (m1 1513 (by decide +kernel) (by decide +kernel)) ys_Mo_isHand (fun r σ1 h => sp_Mo_isHand g.2.2.1  h) rfl rfl (by decide) (Nat.le_of_ble_eq_true rfl) d_Mo_hold_1) (fun q1 => ?_)
  refine v_if_eq 55 g d_Mo_hold_4 (by decide) (fun _ => ?_) (fun _ => ?_)
  · refine v_bipush (v := (-2 : Int32)) g d_Mo_hold_55 (by decide +kernel) ?_
    exact v_ret d_Mo_hold_57 rfl
  · refine v_iload_n 2 g d_Mo_hold_7 rfl ?_
    refine v_i2l g d_Mo_hold_8 ?_
    refine v_lconst (v := (0 : Int64)) g d_Mo_hold_9 (by decide +kernel) ?_
    refine v_ldc2 (v := (3 : Int64)) g (m1 1183 (by decide +kernel) (by decide +kernel)) d_Mo_hold_10 ?_
    refine v_callB (r_S (rest := []) [.long (Int32.toInt64 a2), .long (0 : Int64), .long (3 : Int64)] g (m1 1167 (by decide +kernel) (by decide +kernel)) ys_Mo_in (fun r σ1 h => sp_Mo_in g.2.2.1  h) rfl rfl (by decide) (Nat.le_of_ble_eq_true rfl) d_Mo_hold_13) (fun q2 => ?_)
    refine v_if_eq 55 g d_Mo_hold_16 (by decide) (fun _ => ?_) (fun _ => ?_)
    · refine v_bipush (v := (-2 : Int32)) g d_Mo_hold_55 (by decide +kernel) ?_
      exact v_ret d_Mo_hold_57 rfl
    · refine v_iload_n 2 g d_Mo_hold_19 rfl ?_
      refine v_iconst (v := (1 : Int32)) g d_Mo_hold_20 (by decide +kernel) ?_
      refine v_icmp_ne 39 g d_Mo_hold_21 (by decide) (fun _ => ?_) (fun _ => ?_)
      · refine v_iload_n 2 g d_Mo_hold_39 rfl ?_
        refine v_iconst (v := (2 : Int32)) g d_Mo_hold_40 (by decide +kernel) ?_
        refine v_icmp_ne 58 g d_Mo_hold_41 (by decide) (fun _ => ?_) (fun _ => ?_)
        · exact v_sub [0,1,2,3] rfl (vB_Mo_hold_58 g a1 a2 a3 q2.2)
        · refine v_lload_n 3 g d_Mo_hold_44 rfl ?_
          refine v_lconst (v := (0 : Int64)) g d_Mo_hold_45 (by decide +kernel) ?_
          refine v_ldc2 (v := (4 : Int64)) g (m1 1305 (by decide +kernel) (by decide +kernel)) d_Mo_hold_46 ?_
          refine v_callB (r_S (rest := []) [.long a3, .long (0 : Int64), .long (4 : Int64)] g (m1 1167 (by decide +kernel) (by decide +kernel)) ys_Mo_in (fun r σ1 h => sp_Mo_in g.2.2.1  h) rfl rfl (by decide) (Nat.le_of_ble_eq_true rfl) d_Mo_hold_49) (fun q3 => ?_)
          refine v_if_ne 58 g d_Mo_hold_52 (by decide) (fun _ => ?_) (fun _ => ?_)
          · exact v_sub [0,1,2,3] rfl (vB_Mo_hold_58 g a1 a2 a3 q3.2)
          · refine v_bipush (v := (-2 : Int32)) g d_Mo_hold_55 (by decide +kernel) ?_
            exact v_ret d_Mo_hold_57 rfl
      · refine v_lload_n 3 g d_Mo_hold_24 rfl ?_
        refine v_lconst (v := (0 : Int64)) g d_Mo_hold_25 (by decide +kernel) ?_
        refine v_aload_n 0 g d_Mo_hold_26 rfl ?_
        refine v_getI g ff_Mo_80 rfl rfl d_Mo_hold_27 ?_
        refine v_iconst (v := (1 : Int32)) g d_Mo_hold_30 (by decide +kernel) ?_
        refine v_isub g d_Mo_hold_31 ?_
        refine v_i2l g d_Mo_hold_32 ?_
        refine v_callB (r_S (rest := []) [.long a3, .long (0 : Int64), .long (Int32.toInt64 ((gI q2.2 48 0) - (1 : Int32)))] g (m1 1167 (by decide +kernel) (by decide +kernel)) ys_Mo_in (fun r σ1 h => sp_Mo_in g.2.2.1  h) rfl rfl (by decide) (Nat.le_of_ble_eq_true rfl) d_Mo_hold_33) (fun q4 => ?_)
        refine v_if_eq 55 g d_Mo_hold_36 (by decide) (fun _ => ?_) (fun _ => ?_)
        · refine v_bipush (v := (-2 : Int32)) g d_Mo_hold_55 (by decide +kernel) ?_
          exact v_ret d_Mo_hold_57 rfl
        · refine v_iload_n 2 g d_Mo_hold_39 rfl ?_
          refine v_iconst (v := (2 : Int32)) g d_Mo_hold_40 (by decide +kernel) ?_
          refine v_icmp_ne 58 g d_Mo_hold_41 (by decide) (fun _ => ?_) (fun _ => ?_)
          · exact v_sub [0,1,2,3] rfl (vB_Mo_hold_58 g a1 a2 a3 q4.2)
          · refine v_lload_n 3 g d_Mo_hold_44 rfl ?_
            refine v_lconst (v := (0 : Int64)) g d_Mo_hold_45 (by decide +kernel) ?_
            refine v_ldc2 (v := (4 : Int64)) g (m1 1305 (by decide +kernel) (by decide +kernel)) d_Mo_hold_46 ?_
            refine v_callB (r_S (rest := []) [.long a3, .long (0 : Int64), .long (4 : Int64)] g (m1 1167 (by decide +kernel) (by decide +kernel)) ys_Mo_in (fun r σ1 h => sp_Mo_in g.2.2.1  h) rfl rfl (by decide) (Nat.le_of_ble_eq_true rfl) d_Mo_hold_49) (fun q5 => ?_)
            refine v_if_ne 58 g d_Mo_hold_52 (by decide) (fun _ => ?_) (fun _ => ?_)
            · exact v_sub [0,1,2,3] rfl (vB_Mo_hold_58 g a1 a2 a3 q5.2)
            · refine v_bipush (v := (-2 : Int32)) g d_Mo_hold_55 (by decide +kernel) ?_
              exact v_ret d_Mo_hold_57 rfl
def f_Mo_hold (a1 : Int32) (a2 : Int32) (a3 : Int64) (σ : Sto) : Option (Int32 × Sto) := B_Mo_hold_0 a1 a2 a3 σ
theorem sp_Mo_hold {l : Launch} {E : En} (hE : Dj E) {a1 : Int32} {a2 : Int32} {a3 : Int64} {σ : Sto} {r : Int32} {σ' : Sto} (h : f_Mo_hold a1 a2 a3 σ = some (r, σ')) : Ct l E y_Mo_hold (wsM y_Mo_hold b_Mo_hold 6 (some .int)) 3 [.ref (E.2.1 48), .int a1, .int a2, .long a3] σ (eI r) σ' :=
  ct_of hE (by decide +kernel) (Nat.le_of_ble_eq_true rfl) (fun x => Or.inl ⟨rfl, x, rfl⟩) (fun X _ g => vB_Mo_hold_0 g a1 a2 a3 σ) r σ' h
/-! method FittingRingsModel.lacks(II)I -/
theorem yv_Mo_lacks : YV y_Mo_lacks b_Mo_lacks 3 (some .int) 2 10 := ⟨m1 1522 (by decide +kernel) (by decide +kernel), m1 68 (by decide +kernel) (by decide +kernel), ini_Mo, m1 1523 (by decide +kernel) (by decide +kernel), ⟨by decide +kernel, by decide +kernel, by decide +kernel⟩, by decide, by decide, T_Mo, 39, rfl⟩
theorem d_Mo_lacks_0 : decode b_Mo_lacks 0 = .ok (.aload_n 0, 1) := by decide +kernel
theorem d_Mo_lacks_1 : decode b_Mo_lacks 1 = .ok (.getfield 62, 3) := by decide +kernel
theorem d_Mo_lacks_4 : decode b_Mo_lacks 4 = .ok (.iload_n 1, 1) := by decide +kernel
theorem d_Mo_lacks_5 : decode b_Mo_lacks 5 = .ok (.iaload, 1) := by decide +kernel
theorem d_Mo_lacks_6 : decode b_Mo_lacks 6 = .ok (.ifCond .ne 8, 3) := by decide +kernel
theorem d_Mo_lacks_9 : decode b_Mo_lacks 9 = .ok (.bipush (-11), 2) := by decide +kernel
theorem d_Mo_lacks_11 : decode b_Mo_lacks 11 = .ok (.goto 19, 3) := by decide +kernel
theorem d_Mo_lacks_14 : decode b_Mo_lacks 14 = .ok (.aload_n 0, 1) := by decide +kernel
theorem d_Mo_lacks_15 : decode b_Mo_lacks 15 = .ok (.getfield 62, 3) := by decide +kernel
theorem d_Mo_lacks_18 : decode b_Mo_lacks 18 = .ok (.iload_n 1, 1) := by decide +kernel
theorem d_Mo_lacks_19 : decode b_Mo_lacks 19 = .ok (.iaload, 1) := by decide +kernel
theorem d_Mo_lacks_20 : decode b_Mo_lacks 20 = .ok (.iload_n 2, 1) := by decide +kernel
theorem d_Mo_lacks_21 : decode b_Mo_lacks 21 = .ok (.if_icmp .eq 8, 3) := by decide +kernel
theorem d_Mo_lacks_24 : decode b_Mo_lacks 24 = .ok (.bipush (-13), 2) := by decide +kernel
theorem d_Mo_lacks_26 : decode b_Mo_lacks 26 = .ok (.goto 4, 3) := by decide +kernel
theorem d_Mo_lacks_29 : decode b_Mo_lacks 29 = .ok (.iconst 0, 1) := by decide +kernel
theorem d_Mo_lacks_30 : decode b_Mo_lacks 30 = .ok (.ireturn, 1) := by decide +kernel
def B_Mo_lacks_0 (a1 : Int32) (a2 : Int32) (σ : Sto) : Option (Int32 × Sto) :=
  (if inb a1 4 = true then (if (gI σ 66 (Int32.toNatClampNeg a1)) = 0 then some ((-11 : Int32), σ)
 else (if inb a1 4 = true then (if (gI σ 66 (Int32.toNatClampNeg a1)) = a2 then some ((0 : Int32), σ)
  else some ((-13 : Int32), σ)) else none)) else none)
set_option maxHeartbeats 4000000 in
set_option maxRecDepth 100000 in
theorem vB_Mo_lacks_0 {X : Xt} {E : En} (g : GG X E 1 b_Mo_lacks R_Mo 3) (a1 : Int32) (a2 : Int32) (σ : Sto) : VV X E b_Mo_lacks 3 eI 0 [(0, .ref (E.2.1 48)), (1, .int a1), (2, .int a2)] [] σ (B_Mo_lacks_0 a1 a2 σ) := by
  unfold B_Mo_lacks_0
  refine v_aload_n 0 g d_Mo_lacks_0 rfl ?_
  refine v_getR 66 g ff_Mo_62 rfl rfl rfl d_Mo_lacks_1 ?_
  refine v_iload_n 1 g d_Mo_lacks_4 rfl ?_
  refine v_iald g rfl rfl d_Mo_lacks_5 (fun _ => ?_)
  refine v_if_ne 14 g d_Mo_lacks_6 (by decide) (fun _ => ?_) (fun _ => ?_)
  · refine v_aload_n 0 g d_Mo_lacks_14 rfl ?_
    refine v_getR 66 g ff_Mo_62 rfl rfl rfl d_Mo_lacks_15 ?_
    refine v_iload_n 1 g d_Mo_lacks_18 rfl ?_
    refine v_iald g rfl rfl d_Mo_lacks_19 (fun _ => ?_)
    refine v_iload_n 2 g d_Mo_lacks_20 rfl ?_
    refine v_icmp_eq 29 g d_Mo_lacks_21 (by decide) (fun _ => ?_) (fun _ => ?_)
    · refine v_iconst (v := (0 : Int32)) g d_Mo_lacks_29 (by decide +kernel) ?_
      exact v_ret d_Mo_lacks_30 rfl
    · refine v_bipush (v := (-13 : Int32)) g d_Mo_lacks_24 (by decide +kernel) ?_
      refine v_goto 30 g d_Mo_lacks_26 (by decide) ?_
      exact v_ret d_Mo_lacks_30 rfl
  · refine v_bipush (v := (-11 : Int32)) g d_Mo_lacks_9 (by decide +kernel) ?_
    refine v_goto 30 g d_Mo_lacks_11 (by decide) ?_
    exact v_ret d_Mo_lacks_30 rfl
def f_Mo_lacks (a1 : Int32) (a2 : Int32) (σ : Sto) : Option (Int32 × Sto) := B_Mo_lacks_0 a1 a2 σ
theorem sp_Mo_lacks {l : Launch} {E : En} (hE : Dj E) {a1 : Int32} {a2 : Int32} {σ : Sto} {r : Int32} {σ' : Sto} (h : f_Mo_lacks a1 a2 σ = some (r, σ')) : Ct l E y_Mo_lacks (wsM y_Mo_lacks b_Mo_lacks 3 (some .int)) 1 [.ref (E.2.1 48), .int a1, .int a2] σ (eI r) σ' :=
  ct_of hE (by decide +kernel) (Nat.le_of_ble_eq_true rfl) (fun x => Or.inl ⟨rfl, x, rfl⟩) (fun X _ g => vB_Mo_lacks_0 g a1 a2 σ) r σ' h
/-! method FittingRingsModel.isUnder(II)Z -/
theorem ys_Mo_isUnder : YS y_Mo_isUnder b_Mo_isUnder 2 (some .boolean) 2 := ⟨m1 1525 (by decide +kernel) (by decide +kernel), ini_Mo, m1 1526 (by decide +kernel) (by decide +kernel), ⟨by decide +kernel, by decide +kernel, by decide +kernel⟩, by decide⟩
theorem d_Mo_isUnder_0 : decode b_Mo_isUnder 0 = .ok (.iload_n 1, 1) := by decide +kernel
theorem d_Mo_isUnder_1 : decode b_Mo_isUnder 1 = .ok (.ifCond .eq 28, 3) := by decide +kernel
theorem d_Mo_isUnder_4 : decode b_Mo_isUnder 4 = .ok (.iload_n 0, 1) := by decide +kernel
theorem d_Mo_isUnder_5 : decode b_Mo_isUnder 5 = .ok (.iload_n 1, 1) := by decide +kernel
theorem d_Mo_isUnder_6 : decode b_Mo_isUnder 6 = .ok (.if_icmp .eq 23, 3) := by decide +kernel
theorem d_Mo_isUnder_9 : decode b_Mo_isUnder 9 = .ok (.iload_n 1, 1) := by decide +kernel
theorem d_Mo_isUnder_10 : decode b_Mo_isUnder 10 = .ok (.iconst 1, 1) := by decide +kernel
theorem d_Mo_isUnder_11 : decode b_Mo_isUnder 11 = .ok (.if_icmp .ne 8, 3) := by decide +kernel
theorem d_Mo_isUnder_14 : decode b_Mo_isUnder 14 = .ok (.iload_n 0, 1) := by decide +kernel
theorem d_Mo_isUnder_15 : decode b_Mo_isUnder 15 = .ok (.iconst 3, 1) := by decide +kernel
theorem d_Mo_isUnder_16 : decode b_Mo_isUnder 16 = .ok (.if_icmp .eq 13, 3) := by decide +kernel
theorem d_Mo_isUnder_19 : decode b_Mo_isUnder 19 = .ok (.iload_n 1, 1) := by decide +kernel
theorem d_Mo_isUnder_20 : decode b_Mo_isUnder 20 = .ok (.iconst 2, 1) := by decide +kernel
theorem d_Mo_isUnder_21 : decode b_Mo_isUnder 21 = .ok (.if_icmp .ne 12, 3) := by decide +kernel
theorem d_Mo_isUnder_24 : decode b_Mo_isUnder 24 = .ok (.iload_n 0, 1) := by decide +kernel
theorem d_Mo_isUnder_25 : decode b_Mo_isUnder 25 = .ok (.iconst 4, 1) := by decide +kernel
theorem d_Mo_isUnder_26 : decode b_Mo_isUnder 26 = .ok (.if_icmp .ne 7, 3) := by decide +kernel
theorem d_Mo_isUnder_29 : decode b_Mo_isUnder 29 = .ok (.iconst 1, 1) := by decide +kernel
theorem d_Mo_isUnder_30 : decode b_Mo_isUnder 30 = .ok (.goto 4, 3) := by decide +kernel
theorem d_Mo_isUnder_33 : decode b_Mo_isUnder 33 = .ok (.iconst 0, 1) := by decide +kernel
theorem d_Mo_isUnder_34 : decode b_Mo_isUnder 34 = .ok (.ireturn, 1) := by decide +kernel
def B_Mo_isUnder_0 (a0 : Int32) (a1 : Int32) (σ : Sto) : Option (Bool × Sto) :=
  (if a1 = 0 then some (true, σ)
 else (if a0 = a1 then some (true, σ)
  else (if a1 = (1 : Int32) then (if a0 = (3 : Int32) then some (true, σ)
    else (if a1 = (2 : Int32) then (if a0 = (4 : Int32) then some (true, σ)
      else some (false, σ))
     else some (false, σ)))
   else (if a1 = (2 : Int32) then (if a0 = (4 : Int32) then some (true, σ)
     else some (false, σ))
    else some (false, σ)))))
set_option maxHeartbeats 4000000 in
set_option maxRecDepth 100000 in
theorem vB_Mo_isUnder_0 {X : Xt} {E : En} (g : GG X E 1 b_Mo_isUnder R_Mo 2) (a0 : Int32) (a1 : Int32) (σ : Sto) : VV X E b_Mo_isUnder 2 eB 0 [(0, .int a0), (1, .int a1)] [] σ (B_Mo_isUnder_0 a0 a1 σ) := by
  unfold B_Mo_isUnder_0
  refine v_iload_n 1 g d_Mo_isUnder_0 rfl ?_
  refine v_if_eq 29 g d_Mo_isUnder_1 (by decide) (fun _ => ?_) (fun _ => ?_)
  · refine v_iconst (v := (1 : Int32)) g d_Mo_isUnder_29 (by decide +kernel) ?_
    refine v_goto 34 g d_Mo_isUnder_30 (by decide) ?_
    exact v_ret d_Mo_isUnder_34 rfl
  · refine v_iload_n 0 g d_Mo_isUnder_4 rfl ?_
    refine v_iload_n 1 g d_Mo_isUnder_5 rfl ?_
    refine v_icmp_eq 29 g d_Mo_isUnder_6 (by decide) (fun _ => ?_) (fun _ => ?_)
    · refine v_iconst (v := (1 : Int32)) g d_Mo_isUnder_29 (by decide +kernel) ?_
      refine v_goto 34 g d_Mo_isUnder_30 (by decide) ?_
      exact v_ret d_Mo_isUnder_34 rfl
    · refine v_iload_n 1 g d_Mo_isUnder_9 rfl ?_
      refine v_iconst (v := (1 : Int32)) g d_Mo_isUnder_10 (by decide +kernel) ?_
      refine v_icmp_ne 19 g d_Mo_isUnder_11 (by decide) (fun _ => ?_) (fun _ => ?_)
      · refine v_iload_n 1 g d_Mo_isUnder_19 rfl ?_
        refine v_iconst (v := (2 : Int32)) g d_Mo_isUnder_20 (by decide +kernel) ?_
        refine v_icmp_ne 33 g d_Mo_isUnder_21 (by decide) (fun _ => ?_) (fun _ => ?_)
        · refine v_iconst (v := (0 : Int32)) g d_Mo_isUnder_33 (by decide +kernel) ?_
          exact v_ret d_Mo_isUnder_34 rfl
        · refine v_iload_n 0 g d_Mo_isUnder_24 rfl ?_
          refine v_iconst (v := (4 : Int32)) g d_Mo_isUnder_25 (by decide +kernel) ?_
          refine v_icmp_ne 33 g d_Mo_isUnder_26 (by decide) (fun _ => ?_) (fun _ => ?_)
          · refine v_iconst (v := (0 : Int32)) g d_Mo_isUnder_33 (by decide +kernel) ?_
            exact v_ret d_Mo_isUnder_34 rfl
          · refine v_iconst (v := (1 : Int32)) g d_Mo_isUnder_29 (by decide +kernel) ?_
            refine v_goto 34 g d_Mo_isUnder_30 (by decide) ?_
            exact v_ret d_Mo_isUnder_34 rfl
      · refine v_iload_n 0 g d_Mo_isUnder_14 rfl ?_
        refine v_iconst (v := (3 : Int32)) g d_Mo_isUnder_15 (by decide +kernel) ?_
        refine v_icmp_eq 29 g d_Mo_isUnder_16 (by decide) (fun _ => ?_) (fun _ => ?_)
        · refine v_iconst (v := (1 : Int32)) g d_Mo_isUnder_29 (by decide +kernel) ?_
          refine v_goto 34 g d_Mo_isUnder_30 (by decide) ?_
          exact v_ret d_Mo_isUnder_34 rfl
        · refine v_iload_n 1 g d_Mo_isUnder_19 rfl ?_
          refine v_iconst (v := (2 : Int32)) g d_Mo_isUnder_20 (by decide +kernel) ?_
          refine v_icmp_ne 33 g d_Mo_isUnder_21 (by decide) (fun _ => ?_) (fun _ => ?_)
          · refine v_iconst (v := (0 : Int32)) g d_Mo_isUnder_33 (by decide +kernel) ?_
            exact v_ret d_Mo_isUnder_34 rfl
          · refine v_iload_n 0 g d_Mo_isUnder_24 rfl ?_
            refine v_iconst (v := (4 : Int32)) g d_Mo_isUnder_25 (by decide +kernel) ?_
            refine v_icmp_ne 33 g d_Mo_isUnder_26 (by decide) (fun _ => ?_) (fun _ => ?_)
            · refine v_iconst (v := (0 : Int32)) g d_Mo_isUnder_33 (by decide +kernel) ?_
              exact v_ret d_Mo_isUnder_34 rfl
            · refine v_iconst (v := (1 : Int32)) g d_Mo_isUnder_29 (by decide +kernel) ?_
              refine v_goto 34 g d_Mo_isUnder_30 (by decide) ?_
              exact v_ret d_Mo_isUnder_34 rfl
def f_Mo_isUnder (a0 : Int32) (a1 : Int32) (σ : Sto) : Option (Bool × Sto) := B_Mo_isUnder_0 a0 a1 σ
theorem sp_Mo_isUnder {l : Launch} {E : En} (hE : Dj E) {a0 : Int32} {a1 : Int32} {σ : Sto} {r : Bool} {σ' : Sto} (h : f_Mo_isUnder a0 a1 σ = some (r, σ')) : Ct l E y_Mo_isUnder (wsM y_Mo_isUnder b_Mo_isUnder 2 (some .boolean)) 1 [.int a0, .int a1] σ (eB r) σ' :=
  ct_of hE (by decide +kernel) (Nat.le_of_ble_eq_true rfl) (fun b => Or.inr (Or.inl ⟨rfl, b, rfl⟩)) (fun X _ g => vB_Mo_isUnder_0 g a0 a1 σ) r σ' h
/-! method FittingRingsModel.handAs(II)I -/
theorem yv_Mo_handAs : YV y_Mo_handAs b_Mo_handAs 4 (some .int) 2 10 := ⟨m1 1517 (by decide +kernel) (by decide +kernel), m1 1518 (by decide +kernel) (by decide +kernel), ini_Mo, m1 1519 (by decide +kernel) (by decide +kernel), ⟨by decide +kernel, by decide +kernel, by decide +kernel⟩, by decide, by decide, T_Mo, 39, rfl⟩
theorem d_Mo_handAs_0 : decode b_Mo_handAs 0 = .ok (.iload_n 1, 1) := by decide +kernel
theorem d_Mo_handAs_1 : decode b_Mo_handAs 1 = .ok (.invokestatic 346, 3) := by decide +kernel
theorem d_Mo_handAs_4 : decode b_Mo_handAs 4 = .ok (.ifCond .eq 15, 3) := by decide +kernel
theorem d_Mo_handAs_7 : decode b_Mo_handAs 7 = .ok (.iload_n 2, 1) := by decide +kernel
theorem d_Mo_handAs_8 : decode b_Mo_handAs 8 = .ok (.i2l, 1) := by decide +kernel
theorem d_Mo_handAs_9 : decode b_Mo_handAs 9 = .ok (.lconst 0, 1) := by decide +kernel
theorem d_Mo_handAs_10 : decode b_Mo_handAs 10 = .ok (.ldc2_w 88, 3) := by decide +kernel
theorem d_Mo_handAs_13 : decode b_Mo_handAs 13 = .ok (.invokestatic 84, 3) := by decide +kernel
theorem d_Mo_handAs_16 : decode b_Mo_handAs 16 = .ok (.ifCond .ne 6, 3) := by decide +kernel
theorem d_Mo_handAs_19 : decode b_Mo_handAs 19 = .ok (.bipush (-2), 2) := by decide +kernel
theorem d_Mo_handAs_21 : decode b_Mo_handAs 21 = .ok (.ireturn, 1) := by decide +kernel
theorem d_Mo_handAs_22 : decode b_Mo_handAs 22 = .ok (.aload_n 0, 1) := by decide +kernel
theorem d_Mo_handAs_23 : decode b_Mo_handAs 23 = .ok (.iload_n 1, 1) := by decide +kernel
theorem d_Mo_handAs_24 : decode b_Mo_handAs 24 = .ok (.iconst 1, 1) := by decide +kernel
theorem d_Mo_handAs_25 : decode b_Mo_handAs 25 = .ok (.invokevirtual 349, 3) := by decide +kernel
theorem d_Mo_handAs_28 : decode b_Mo_handAs 28 = .ok (.istore_n 3, 1) := by decide +kernel
theorem d_Mo_handAs_29 : decode b_Mo_handAs 29 = .ok (.iload_n 3, 1) := by decide +kernel
theorem d_Mo_handAs_30 : decode b_Mo_handAs 30 = .ok (.ifCond .eq 7, 3) := by decide +kernel
theorem d_Mo_handAs_33 : decode b_Mo_handAs 33 = .ok (.iload_n 3, 1) := by decide +kernel
theorem d_Mo_handAs_34 : decode b_Mo_handAs 34 = .ok (.goto 28, 3) := by decide +kernel
theorem d_Mo_handAs_37 : decode b_Mo_handAs 37 = .ok (.aload_n 0, 1) := by decide +kernel
theorem d_Mo_handAs_38 : decode b_Mo_handAs 38 = .ok (.getfield 68, 3) := by decide +kernel
theorem d_Mo_handAs_41 : decode b_Mo_handAs 41 = .ok (.iload_n 1, 1) := by decide +kernel
theorem d_Mo_handAs_42 : decode b_Mo_handAs 42 = .ok (.iaload, 1) := by decide +kernel
theorem d_Mo_handAs_43 : decode b_Mo_handAs 43 = .ok (.iload_n 2, 1) := by decide +kernel
theorem d_Mo_handAs_44 : decode b_Mo_handAs 44 = .ok (.invokestatic 352, 3) := by decide +kernel
theorem d_Mo_handAs_47 : decode b_Mo_handAs 47 = .ok (.ifCond .eq 13, 3) := by decide +kernel
theorem d_Mo_handAs_50 : decode b_Mo_handAs 50 = .ok (.aload_n 0, 1) := by decide +kernel
theorem d_Mo_handAs_51 : decode b_Mo_handAs 51 = .ok (.getfield 65, 3) := by decide +kernel
theorem d_Mo_handAs_54 : decode b_Mo_handAs 54 = .ok (.iload_n 1, 1) := by decide +kernel
theorem d_Mo_handAs_55 : decode b_Mo_handAs 55 = .ok (.laload, 1) := by decide +kernel
theorem d_Mo_handAs_56 : decode b_Mo_handAs 56 = .ok (.l2i, 1) := by decide +kernel
theorem d_Mo_handAs_57 : decode b_Mo_handAs 57 = .ok (.goto 5, 3) := by decide +kernel
theorem d_Mo_handAs_60 : decode b_Mo_handAs 60 = .ok (.bipush (-13), 2) := by decide +kernel
theorem d_Mo_handAs_62 : decode b_Mo_handAs 62 = .ok (.ireturn, 1) := by decide +kernel
def B_Mo_handAs_0 (a1 : Int32) (a2 : Int32) (σ : Sto) : Option (Int32 × Sto) :=
  ((f_Mo_isHand a1 σ).bind fun q1 => (if (b2i q1.1) = 0 then some ((-2 : Int32), q1.2)
 else ((f_Mo_in (Int32.toInt64 a2) (0 : Int64) (5 : Int64) q1.2).bind fun q2 => (if (b2i q2.1) = 0 then some ((-2 : Int32), q2.2)
  else ((f_Mo_lacks a1 (1 : Int32) q2.2).bind fun q3 => (if q3.1 = 0 then (if inb a1 4 = true then ((f_Mo_isUnder (gI q3.2 68 (Int32.toNatClampNeg a1)) a2 q3.2).bind fun q4 => (if (b2i q4.1) = 0 then some ((-13 : Int32), q4.2)
    else (if inb a1 4 = true then some ((Int64.toInt32 (gL q4.2 67 (Int32.toNatClampNeg a1))), q4.2) else none))) else none)
   else some (q3.1, q3.2)))))))
set_option maxHeartbeats 4000000 in
set_option maxRecDepth 100000 in
theorem vB_Mo_handAs_0 {X : Xt} {E : En} (g : GG X E 3 b_Mo_handAs R_Mo 4) (a1 : Int32) (a2 : Int32) (σ : Sto) : VV X E b_Mo_handAs 4 eI 0 [(0, .ref (E.2.1 48)), (1, .int a1), (2, .int a2)] [] σ (B_Mo_handAs_0 a1 a2 σ) := by
  unfold B_Mo_handAs_0
  refine v_iload_n 1 g d_Mo_handAs_0 rfl ?_
  refine v_callB (r_S (rest := []) [.int a1] g (m1 1513 (by decide +kernel) (by decide +kernel)) ys_Mo_isHand (fun r σ1 h => sp_Mo_isHand g.2.2.1  h) rfl rfl (by decide) (Nat.le_of_ble_eq_true rfl) d_Mo_handAs_1) (fun q1 => ?_)
  refine v_if_eq 19 g d_Mo_handAs_4 (by decide) (fun _ => ?_) (fun _ => ?_)
  · refine v_bipush (v := (-2 : Int32)) g d_Mo_handAs_19 (by decide +kernel) ?_
    exact v_ret d_Mo_handAs_21 rfl
  · refine v_iload_n 2 g d_Mo_handAs_7 rfl ?_
    refine v_i2l g d_Mo_handAs_8 ?_
    refine v_lconst (v := (0 : Int64)) g d_Mo_handAs_9 (by decide +kernel) ?_
    refine v_ldc2 (v := (5 : Int64)) g (m1 1166 (by decide +kernel) (by decide +kernel)) d_Mo_handAs_10 ?_
    refine v_callB (r_S (rest := []) [.long (Int32.toInt64 a2), .long (0 : Int64), .long (5 : Int64)] g (m1 1167 (by decide +kernel) (by decide +kernel)) ys_Mo_in (fun r σ1 h => sp_Mo_in g.2.2.1  h) rfl rfl (by decide) (Nat.le_of_ble_eq_true rfl) d_Mo_handAs_13) (fun q2 => ?_)
    refine v_if_ne 22 g d_Mo_handAs_16 (by decide) (fun _ => ?_) (fun _ => ?_)
    · refine v_aload_n 0 g d_Mo_handAs_22 rfl ?_
      refine v_iload_n 1 g d_Mo_handAs_23 rfl ?_
      refine v_iconst (v := (1 : Int32)) g d_Mo_handAs_24 (by decide +kernel) ?_
      refine v_callI (r_V (rest := []) [.int a1, .int (1 : Int32)] g (m1 1520 (by decide +kernel) (by decide +kernel)) yv_Mo_lacks rfl (fun r σ1 h => sp_Mo_lacks g.2.2.1  h) rfl rfl (by decide) (Nat.le_of_ble_eq_true rfl) d_Mo_handAs_25) (fun q3 => ?_)
      refine v_istore_n [(3, .int q3.1), (0, .ref (E.2.1 48)), (1, .int a1), (2, .int a2)] g d_Mo_handAs_28 (by decide) rfl ?_
      refine v_iload_n 0 g d_Mo_handAs_29 rfl ?_
      refine v_if_eq 37 g d_Mo_handAs_30 (by decide) (fun _ => ?_) (fun _ => ?_)
      · refine v_aload_n 1 g d_Mo_handAs_37 rfl ?_
        refine v_getR 68 g ff_Mo_68 rfl rfl rfl d_Mo_handAs_38 ?_
        refine v_iload_n 2 g d_Mo_handAs_41 rfl ?_
        refine v_iald g rfl rfl d_Mo_handAs_42 (fun _ => ?_)
        refine v_iload_n 3 g d_Mo_handAs_43 rfl ?_
        refine v_callB (r_S (rest := []) [.int (gI q3.2 68 (Int32.toNatClampNeg a1)), .int a2] g (m1 1524 (by decide +kernel) (by decide +kernel)) ys_Mo_isUnder (fun r σ1 h => sp_Mo_isUnder g.2.2.1  h) rfl rfl (by decide) (Nat.le_of_ble_eq_true rfl) d_Mo_handAs_44) (fun q4 => ?_)
        refine v_if_eq 60 g d_Mo_handAs_47 (by decide) (fun _ => ?_) (fun _ => ?_)
        · refine v_bipush (v := (-13 : Int32)) g d_Mo_handAs_60 (by decide +kernel) ?_
          exact v_ret d_Mo_handAs_62 rfl
        · refine v_aload_n 1 g d_Mo_handAs_50 rfl ?_
          refine v_getR 67 g ff_Mo_65 rfl rfl rfl d_Mo_handAs_51 ?_
          refine v_iload_n 2 g d_Mo_handAs_54 rfl ?_
          refine v_lald g rfl rfl d_Mo_handAs_55 (fun _ => ?_)
          refine v_l2i g d_Mo_handAs_56 ?_
          refine v_goto 62 g d_Mo_handAs_57 (by decide) ?_
          exact v_ret d_Mo_handAs_62 rfl
      · refine v_iload_n 0 g d_Mo_handAs_33 rfl ?_
        refine v_goto 62 g d_Mo_handAs_34 (by decide) ?_
        exact v_ret d_Mo_handAs_62 rfl
    · refine v_bipush (v := (-2 : Int32)) g d_Mo_handAs_19 (by decide +kernel) ?_
      exact v_ret d_Mo_handAs_21 rfl
def f_Mo_handAs (a1 : Int32) (a2 : Int32) (σ : Sto) : Option (Int32 × Sto) := B_Mo_handAs_0 a1 a2 σ
theorem sp_Mo_handAs {l : Launch} {E : En} (hE : Dj E) {a1 : Int32} {a2 : Int32} {σ : Sto} {r : Int32} {σ' : Sto} (h : f_Mo_handAs a1 a2 σ = some (r, σ')) : Ct l E y_Mo_handAs (wsM y_Mo_handAs b_Mo_handAs 4 (some .int)) 3 [.ref (E.2.1 48), .int a1, .int a2] σ (eI r) σ' :=
  ct_of hE (by decide +kernel) (Nat.le_of_ble_eq_true rfl) (fun x => Or.inl ⟨rfl, x, rfl⟩) (fun X _ g => vB_Mo_handAs_0 g a1 a2 σ) r σ' h
/-! method FittingRingsModel.handBound(IIIJ)I -/
theorem yv_Mo_handBound : YV y_Mo_handBound b_Mo_handBound 7 (some .int) 4 10 := ⟨m1 1528 (by decide +kernel) (by decide +kernel), m1 1529 (by decide +kernel) (by decide +kernel), ini_Mo, m1 1530 (by decide +kernel) (by decide +kernel), ⟨by decide +kernel, by decide +kernel, by decide +kernel⟩, by decide, by decide, T_Mo, 39, rfl⟩
theorem d_Mo_handBound_0 : decode b_Mo_handBound 0 = .ok (.iload_n 1, 1) := by decide +kernel
theorem d_Mo_handBound_1 : decode b_Mo_handBound 1 = .ok (.invokestatic 346, 3) := by decide +kernel
theorem d_Mo_handBound_4 : decode b_Mo_handBound 4 = .ok (.ifCond .eq 26, 3) := by decide +kernel
theorem d_Mo_handBound_7 : decode b_Mo_handBound 7 = .ok (.iload_n 2, 1) := by decide +kernel
theorem d_Mo_handBound_8 : decode b_Mo_handBound 8 = .ok (.invokestatic 116, 3) := by decide +kernel
theorem d_Mo_handBound_11 : decode b_Mo_handBound 11 = .ok (.ifCond .eq 19, 3) := by decide +kernel
theorem d_Mo_handBound_14 : decode b_Mo_handBound 14 = .ok (.iload_n 3, 1) := by decide +kernel
theorem d_Mo_handBound_15 : decode b_Mo_handBound 15 = .ok (.invokestatic 116, 3) := by decide +kernel
theorem d_Mo_handBound_18 : decode b_Mo_handBound 18 = .ok (.ifCond .eq 12, 3) := by decide +kernel
theorem d_Mo_handBound_21 : decode b_Mo_handBound 21 = .ok (.aload_n 0, 1) := by decide +kernel
theorem d_Mo_handBound_22 : decode b_Mo_handBound 22 = .ok (.lload 4, 2) := by decide +kernel
theorem d_Mo_handBound_24 : decode b_Mo_handBound 24 = .ok (.invokevirtual 127, 3) := by decide +kernel
theorem d_Mo_handBound_27 : decode b_Mo_handBound 27 = .ok (.ifCond .ne 6, 3) := by decide +kernel
theorem d_Mo_handBound_30 : decode b_Mo_handBound 30 = .ok (.bipush (-2), 2) := by decide +kernel
theorem d_Mo_handBound_32 : decode b_Mo_handBound 32 = .ok (.ireturn, 1) := by decide +kernel
theorem d_Mo_handBound_33 : decode b_Mo_handBound 33 = .ok (.aload_n 0, 1) := by decide +kernel
theorem d_Mo_handBound_34 : decode b_Mo_handBound 34 = .ok (.iload_n 1, 1) := by decide +kernel
theorem d_Mo_handBound_35 : decode b_Mo_handBound 35 = .ok (.iconst 2, 1) := by decide +kernel
theorem d_Mo_handBound_36 : decode b_Mo_handBound 36 = .ok (.invokevirtual 349, 3) := by decide +kernel
theorem d_Mo_handBound_39 : decode b_Mo_handBound 39 = .ok (.istore 6, 2) := by decide +kernel
theorem d_Mo_handBound_41 : decode b_Mo_handBound 41 = .ok (.iload 6, 2) := by decide +kernel
theorem d_Mo_handBound_43 : decode b_Mo_handBound 43 = .ok (.ifCond .eq 8, 3) := by decide +kernel
theorem d_Mo_handBound_46 : decode b_Mo_handBound 46 = .ok (.iload 6, 2) := by decide +kernel
theorem d_Mo_handBound_48 : decode b_Mo_handBound 48 = .ok (.goto 18, 3) := by decide +kernel
theorem d_Mo_handBound_51 : decode b_Mo_handBound 51 = .ok (.aload_n 0, 1) := by decide +kernel
theorem d_Mo_handBound_52 : decode b_Mo_handBound 52 = .ok (.aload_n 0, 1) := by decide +kernel
theorem d_Mo_handBound_53 : decode b_Mo_handBound 53 = .ok (.getfield 65, 3) := by decide +kernel
theorem d_Mo_handBound_56 : decode b_Mo_handBound 56 = .ok (.iload_n 1, 1) := by decide +kernel
theorem d_Mo_handBound_57 : decode b_Mo_handBound 57 = .ok (.laload, 1) := by decide +kernel
theorem d_Mo_handBound_58 : decode b_Mo_handBound 58 = .ok (.l2i, 1) := by decide +kernel
theorem d_Mo_handBound_59 : decode b_Mo_handBound 59 = .ok (.iload_n 2, 1) := by decide +kernel
theorem d_Mo_handBound_60 : decode b_Mo_handBound 60 = .ok (.iload_n 3, 1) := by decide +kernel
theorem d_Mo_handBound_61 : decode b_Mo_handBound 61 = .ok (.lload 4, 2) := by decide +kernel
theorem d_Mo_handBound_63 : decode b_Mo_handBound 63 = .ok (.invokevirtual 196, 3) := by decide +kernel
theorem d_Mo_handBound_66 : decode b_Mo_handBound 66 = .ok (.ireturn, 1) := by decide +kernel
def B_Mo_handBound_0 (a1 : Int32) (a2 : Int32) (a3 : Int32) (a4 : Int64) (σ : Sto) : Option (Int32 × Sto) :=
  ((f_Mo_isHand a1 σ).bind fun q1 => (if (b2i q1.1) = 0 then some ((-2 : Int32), q1.2)
 else ((f_Mo_isOne a2 q1.2).bind fun q2 => (if (b2i q2.1) = 0 then some ((-2 : Int32), q2.2)
  else ((f_Mo_isOne a3 q2.2).bind fun q3 => (if (b2i q3.1) = 0 then some ((-2 : Int32), q3.2)
   else ((f_Mo_isSet a4 q3.2).bind fun q4 => (if (b2i q4.1) = 0 then some ((-2 : Int32), q4.2)
    else ((f_Mo_lacks a1 (2 : Int32) q4.2).bind fun q5 => (if q5.1 = 0 then (if inb a1 4 = true then ((f_Mo_boundOf (Int64.toInt32 (gL q5.2 67 (Int32.toNatClampNeg a1))) a2 a3 a4 q5.2).bind fun q6 => some (q6.1, q6.2)) else none)
     else some (q5.1, q5.2)))))))))))
set_option maxHeartbeats 4000000 in
set_option maxRecDepth 100000 in
theorem vB_Mo_handBound_0 {X : Xt} {E : En} (g : GG X E 7 b_Mo_handBound R_Mo 7) (a1 : Int32) (a2 : Int32) (a3 : Int32) (a4 : Int64) (σ : Sto) : VV X E b_Mo_handBound 7 eI 0 [(0, .ref (E.2.1 48)), (1, .int a1), (2, .int a2), (3, .int a3), (4, .long a4)] [] σ (B_Mo_handBound_0 a1 a2 a3 a4 σ) := by
  unfold B_Mo_handBound_0
  refine v_iload_n 1 g d_Mo_handBound_0 rfl ?_
  refine v_callB (r_S (rest := []) [.int a1] g (m1 1513 (by decide +kernel) (by decide +kernel)) ys_Mo_isHand (fun r σ1 h => sp_Mo_isHand g.2.2.1  h) rfl rfl (by decide) (Nat.le_of_ble_eq_true rfl) d_Mo_handBound_1) (fun q1 => ?_)
  refine v_if_eq 30 g d_Mo_handBound_4 (by decide) (fun _ => ?_) (fun _ => ?_)
  · refine v_bipush (v := (-2 : Int32)) g d_Mo_handBound_30 (by decide +kernel) ?_
    exact v_ret d_Mo_handBound_32 rfl
  · refine v_iload_n 2 g d_Mo_handBound_7 rfl ?_
    refine v_callB (r_S (rest := []) [.int a2] g (m1 1203 (by decide +kernel) (by decide +kernel)) ys_Mo_isOne (fun r σ1 h => sp_Mo_isOne g.2.2.1  h) rfl rfl (by decide) (Nat.le_of_ble_eq_true rfl) d_Mo_handBound_8) (fun q2 => ?_)
    refine v_if_eq 30 g d_Mo_handBound_11 (by decide) (fun _ => ?_) (fun _ => ?_)
    · refine v_bipush (v := (-2 : Int32)) g d_Mo_handBound_30 (by decide +kernel) ?_
      exact v_ret d_Mo_handBound_32 rfl
    · refine v_iload_n 3 g d_Mo_handBound_14 rfl ?_
      refine v_callB (r_S (rest := []) [.int a3] g (m1 1203 (by decide +kernel) (by decide +kernel)) ys_Mo_isOne (fun r σ1 h => sp_Mo_isOne g.2.2.1  h) rfl rfl (by decide) (Nat.le_of_ble_eq_true rfl) d_Mo_handBound_15) (fun q3 => ?_)
      refine v_if_eq 30 g d_Mo_handBound_18 (by decide) (fun _ => ?_) (fun _ => ?_)
      · refine v_bipush (v := (-2 : Int32)) g d_Mo_handBound_30 (by decide +kernel) ?_
        exact v_ret d_Mo_handBound_32 rfl
      · refine v_aload_n 0 g d_Mo_handBound_21 rfl ?_
        refine v_lload 4 g d_Mo_handBound_22 rfl ?_
        refine v_callB (r_V (rest := []) [.long a4] g (m1 1221 (by decide +kernel) (by decide +kernel)) yv_Mo_isSet rfl (fun r σ1 h => sp_Mo_isSet g.2.2.1  h) rfl rfl (by decide) (Nat.le_of_ble_eq_true rfl) d_Mo_handBound_24) (fun q4 => ?_)
        refine v_if_ne 33 g d_Mo_handBound_27 (by decide) (fun _ => ?_) (fun _ => ?_)
        · refine v_aload_n 0 g d_Mo_handBound_33 rfl ?_
          refine v_iload_n 1 g d_Mo_handBound_34 rfl ?_
          refine v_iconst (v := (2 : Int32)) g d_Mo_handBound_35 (by decide +kernel) ?_
          refine v_callI (r_V (rest := []) [.int a1, .int (2 : Int32)] g (m1 1520 (by decide +kernel) (by decide +kernel)) yv_Mo_lacks rfl (fun r σ1 h => sp_Mo_lacks g.2.2.1  h) rfl rfl (by decide) (Nat.le_of_ble_eq_true rfl) d_Mo_handBound_36) (fun q5 => ?_)
          refine v_istore [(6, .int q5.1), (0, .ref (E.2.1 48)), (1, .int a1), (2, .int a2), (3, .int a3), (4, .long a4)] g d_Mo_handBound_39 (by decide) rfl ?_
          refine v_iload 0 g d_Mo_handBound_41 rfl ?_
          refine v_if_eq 51 g d_Mo_handBound_43 (by decide) (fun _ => ?_) (fun _ => ?_)
          · refine v_aload_n 1 g d_Mo_handBound_51 rfl ?_
            refine v_aload_n 1 g d_Mo_handBound_52 rfl ?_
            refine v_getR 67 g ff_Mo_65 rfl rfl rfl d_Mo_handBound_53 ?_
            refine v_iload_n 2 g d_Mo_handBound_56 rfl ?_
            refine v_lald g rfl rfl d_Mo_handBound_57 (fun _ => ?_)
            refine v_l2i g d_Mo_handBound_58 ?_
            refine v_iload_n 3 g d_Mo_handBound_59 rfl ?_
            refine v_iload_n 4 g d_Mo_handBound_60 rfl ?_
            refine v_lload 5 g d_Mo_handBound_61 rfl ?_
            refine v_callI (r_V (rest := []) [.int (Int64.toInt32 (gL q5.2 67 (Int32.toNatClampNeg a1))), .int a2, .int a3, .long a4] g (m1 1306 (by decide +kernel) (by decide +kernel)) yv_Mo_boundOf rfl (fun r σ1 h => sp_Mo_boundOf g.2.2.1  h) rfl rfl (by decide) (Nat.le_of_ble_eq_true rfl) d_Mo_handBound_63) (fun q6 => ?_)
            exact v_ret d_Mo_handBound_66 rfl
          · refine v_iload 0 g d_Mo_handBound_46 rfl ?_
            refine v_goto 66 g d_Mo_handBound_48 (by decide) ?_
            exact v_ret d_Mo_handBound_66 rfl
        · refine v_bipush (v := (-2 : Int32)) g d_Mo_handBound_30 (by decide +kernel) ?_
          exact v_ret d_Mo_handBound_32 rfl
def f_Mo_handBound (a1 : Int32) (a2 : Int32) (a3 : Int32) (a4 : Int64) (σ : Sto) : Option (Int32 × Sto) := B_Mo_handBound_0 a1 a2 a3 a4 σ
theorem sp_Mo_handBound {l : Launch} {E : En} (hE : Dj E) {a1 : Int32} {a2 : Int32} {a3 : Int32} {a4 : Int64} {σ : Sto} {r : Int32} {σ' : Sto} (h : f_Mo_handBound a1 a2 a3 a4 σ = some (r, σ')) : Ct l E y_Mo_handBound (wsM y_Mo_handBound b_Mo_handBound 7 (some .int)) 7 [.ref (E.2.1 48), .int a1, .int a2, .int a3, .long a4] σ (eI r) σ' :=
  ct_of hE (by decide +kernel) (Nat.le_of_ble_eq_true rfl) (fun x => Or.inl ⟨rfl, x, rfl⟩) (fun X _ g => vB_Mo_handBound_0 g a1 a2 a3 a4 σ) r σ' h
/-! method FittingRingsModel.handLess(IJ)J -/
theorem yv_Mo_handLess : YV y_Mo_handLess b_Mo_handLess 5 (some .long) 2 10 := ⟨m1 1532 (by decide +kernel) (by decide +kernel), m1 1533 (by decide +kernel) (by decide +kernel), ini_Mo, m1 1534 (by decide +kernel) (by decide +kernel), ⟨by decide +kernel, by decide +kernel, by decide +kernel⟩, by decide, by decide, T_Mo, 39, rfl⟩
theorem d_Mo_handLess_0 : decode b_Mo_handLess 0 = .ok (.iload_n 1, 1) := by decide +kernel
theorem d_Mo_handLess_1 : decode b_Mo_handLess 1 = .ok (.invokestatic 346, 3) := by decide +kernel
theorem d_Mo_handLess_4 : decode b_Mo_handLess 4 = .ok (.ifCond .ne 7, 3) := by decide +kernel
theorem d_Mo_handLess_7 : decode b_Mo_handLess 7 = .ok (.ldc2_w 139, 3) := by decide +kernel
theorem d_Mo_handLess_10 : decode b_Mo_handLess 10 = .ok (.lreturn, 1) := by decide +kernel
theorem d_Mo_handLess_11 : decode b_Mo_handLess 11 = .ok (.aload_n 0, 1) := by decide +kernel
theorem d_Mo_handLess_12 : decode b_Mo_handLess 12 = .ok (.iload_n 1, 1) := by decide +kernel
theorem d_Mo_handLess_13 : decode b_Mo_handLess 13 = .ok (.iconst 3, 1) := by decide +kernel
theorem d_Mo_handLess_14 : decode b_Mo_handLess 14 = .ok (.invokevirtual 349, 3) := by decide +kernel
theorem d_Mo_handLess_17 : decode b_Mo_handLess 17 = .ok (.istore 4, 2) := by decide +kernel
theorem d_Mo_handLess_19 : decode b_Mo_handLess 19 = .ok (.iload 4, 2) := by decide +kernel
theorem d_Mo_handLess_21 : decode b_Mo_handLess 21 = .ok (.ifCond .eq 9, 3) := by decide +kernel
theorem d_Mo_handLess_24 : decode b_Mo_handLess 24 = .ok (.iload 4, 2) := by decide +kernel
theorem d_Mo_handLess_26 : decode b_Mo_handLess 26 = .ok (.i2l, 1) := by decide +kernel
theorem d_Mo_handLess_27 : decode b_Mo_handLess 27 = .ok (.goto 15, 3) := by decide +kernel
theorem d_Mo_handLess_30 : decode b_Mo_handLess 30 = .ok (.aload_n 0, 1) := by decide +kernel
theorem d_Mo_handLess_31 : decode b_Mo_handLess 31 = .ok (.getfield 65, 3) := by decide +kernel
theorem d_Mo_handLess_34 : decode b_Mo_handLess 34 = .ok (.iload_n 1, 1) := by decide +kernel
theorem d_Mo_handLess_35 : decode b_Mo_handLess 35 = .ok (.laload, 1) := by decide +kernel
theorem d_Mo_handLess_36 : decode b_Mo_handLess 36 = .ok (.lload_n 2, 1) := by decide +kernel
theorem d_Mo_handLess_37 : decode b_Mo_handLess 37 = .ok (.ldc2_w 114, 3) := by decide +kernel
theorem d_Mo_handLess_40 : decode b_Mo_handLess 40 = .ok (.lxor, 1) := by decide +kernel
theorem d_Mo_handLess_41 : decode b_Mo_handLess 41 = .ok (.land, 1) := by decide +kernel
theorem d_Mo_handLess_42 : decode b_Mo_handLess 42 = .ok (.lreturn, 1) := by decide +kernel
def B_Mo_handLess_0 (a1 : Int32) (a2 : Int64) (σ : Sto) : Option (Int64 × Sto) :=
  ((f_Mo_isHand a1 σ).bind fun q1 => (if (b2i q1.1) = 0 then some ((-2 : Int64), q1.2)
 else ((f_Mo_lacks a1 (3 : Int32) q1.2).bind fun q2 => (if q2.1 = 0 then (if inb a1 4 = true then some (((gL q2.2 67 (Int32.toNatClampNeg a1)) &&& (a2 ^^^ (-1 : Int64))), q2.2) else none)
  else some ((Int32.toInt64 q2.1), q2.2)))))
set_option maxHeartbeats 4000000 in
set_option maxRecDepth 100000 in
theorem vB_Mo_handLess_0 {X : Xt} {E : En} (g : GG X E 3 b_Mo_handLess R_Mo 5) (a1 : Int32) (a2 : Int64) (σ : Sto) : VV X E b_Mo_handLess 5 eL 0 [(0, .ref (E.2.1 48)), (1, .int a1), (2, .long a2)] [] σ (B_Mo_handLess_0 a1 a2 σ) := by
  unfold B_Mo_handLess_0
  refine v_iload_n 1 g d_Mo_handLess_0 rfl ?_
  refine v_callB (r_S (rest := []) [.int a1] g (m1 1513 (by decide +kernel) (by decide +kernel)) ys_Mo_isHand (fun r σ1 h => sp_Mo_isHand g.2.2.1  h) rfl rfl (by decide) (Nat.le_of_ble_eq_true rfl) d_Mo_handLess_1) (fun q1 => ?_)
  refine v_if_ne 11 g d_Mo_handLess_4 (by decide) (fun _ => ?_) (fun _ => ?_)
  · refine v_aload_n 0 g d_Mo_handLess_11 rfl ?_
    refine v_iload_n 1 g d_Mo_handLess_12 rfl ?_
    refine v_iconst (v := (3 : Int32)) g d_Mo_handLess_13 (by decide +kernel) ?_
    refine v_callI (r_V (rest := []) [.int a1, .int (3 : Int32)] g (m1 1520 (by decide +kernel) (by decide +kernel)) yv_Mo_lacks rfl (fun r σ1 h => sp_Mo_lacks g.2.2.1  h) rfl rfl (by decide) (Nat.le_of_ble_eq_true rfl) d_Mo_handLess_14) (fun q2 => ?_)
    refine v_istore [(4, .int q2.1), (0, .ref (E.2.1 48)), (1, .int a1), (2, .long a2)] g d_Mo_handLess_17 (by decide) rfl ?_
    refine v_iload 0 g d_Mo_handLess_19 rfl ?_
    refine v_if_eq 30 g d_Mo_handLess_21 (by decide) (fun _ => ?_) (fun _ => ?_)
    · refine v_aload_n 1 g d_Mo_handLess_30 rfl ?_
      refine v_getR 67 g ff_Mo_65 rfl rfl rfl d_Mo_handLess_31 ?_
      refine v_iload_n 2 g d_Mo_handLess_34 rfl ?_
      refine v_lald g rfl rfl d_Mo_handLess_35 (fun _ => ?_)
      refine v_lload_n 3 g d_Mo_handLess_36 rfl ?_
      refine v_ldc2 (v := (-1 : Int64)) g (m1 1216 (by decide +kernel) (by decide +kernel)) d_Mo_handLess_37 ?_
      refine v_lxor g d_Mo_handLess_40 ?_
      refine v_land g d_Mo_handLess_41 ?_
      exact v_ret d_Mo_handLess_42 rfl
    · refine v_iload 0 g d_Mo_handLess_24 rfl ?_
      refine v_i2l g d_Mo_handLess_26 ?_
      refine v_goto 42 g d_Mo_handLess_27 (by decide) ?_
      exact v_ret d_Mo_handLess_42 rfl
  · refine v_ldc2 (v := (-2 : Int64)) g (m1 1237 (by decide +kernel) (by decide +kernel)) d_Mo_handLess_7 ?_
    exact v_ret d_Mo_handLess_10 rfl
def f_Mo_handLess (a1 : Int32) (a2 : Int64) (σ : Sto) : Option (Int64 × Sto) := B_Mo_handLess_0 a1 a2 σ
theorem sp_Mo_handLess {l : Launch} {E : En} (hE : Dj E) {a1 : Int32} {a2 : Int64} {σ : Sto} {r : Int64} {σ' : Sto} (h : f_Mo_handLess a1 a2 σ = some (r, σ')) : Ct l E y_Mo_handLess (wsM y_Mo_handLess b_Mo_handLess 5 (some .long)) 3 [.ref (E.2.1 48), .int a1, .long a2] σ (eL r) σ' :=
  ct_of hE (by decide +kernel) (Nat.le_of_ble_eq_true rfl) (fun x => Or.inr (Or.inr (Or.inl ⟨rfl, x, rfl⟩))) (fun X _ g => vB_Mo_handLess_0 g a1 a2 σ) r σ' h
/-! method FittingRingsModel.sheet(III)I -/
theorem yv_Mo_sheet : YV y_Mo_sheet b_Mo_sheet 4 (some .int) 3 10 := ⟨m1 1536 (by decide +kernel) (by decide +kernel), m1 1537 (by decide +kernel) (by decide +kernel), ini_Mo, m1 1538 (by decide +kernel) (by decide +kernel), ⟨by decide +kernel, by decide +kernel, by decide +kernel⟩, by decide, by decide, T_Mo, 39, rfl⟩
theorem d_Mo_sheet_0 : decode b_Mo_sheet 0 = .ok (.iload_n 1, 1) := by decide +kernel
theorem d_Mo_sheet_1 : decode b_Mo_sheet 1 = .ok (.invokestatic 259, 3) := by decide +kernel
theorem d_Mo_sheet_4 : decode b_Mo_sheet 4 = .ok (.ifCond .eq 27, 3) := by decide +kernel
theorem d_Mo_sheet_7 : decode b_Mo_sheet 7 = .ok (.iload_n 2, 1) := by decide +kernel
theorem d_Mo_sheet_8 : decode b_Mo_sheet 8 = .ok (.i2l, 1) := by decide +kernel
theorem d_Mo_sheet_9 : decode b_Mo_sheet 9 = .ok (.ldc2_w 114, 3) := by decide +kernel
theorem d_Mo_sheet_12 : decode b_Mo_sheet 12 = .ok (.ldc2_w 224, 3) := by decide +kernel
theorem d_Mo_sheet_15 : decode b_Mo_sheet 15 = .ok (.invokestatic 84, 3) := by decide +kernel
theorem d_Mo_sheet_18 : decode b_Mo_sheet 18 = .ok (.ifCond .eq 13, 3) := by decide +kernel
theorem d_Mo_sheet_21 : decode b_Mo_sheet 21 = .ok (.iload_n 2, 1) := by decide +kernel
theorem d_Mo_sheet_22 : decode b_Mo_sheet 22 = .ok (.ifCond .lt 12, 3) := by decide +kernel
theorem d_Mo_sheet_25 : decode b_Mo_sheet 25 = .ok (.iload_n 3, 1) := by decide +kernel
theorem d_Mo_sheet_26 : decode b_Mo_sheet 26 = .ok (.bipush 60, 2) := by decide +kernel
theorem d_Mo_sheet_28 : decode b_Mo_sheet 28 = .ok (.if_icmp .le 6, 3) := by decide +kernel
theorem d_Mo_sheet_31 : decode b_Mo_sheet 31 = .ok (.bipush (-2), 2) := by decide +kernel
theorem d_Mo_sheet_33 : decode b_Mo_sheet 33 = .ok (.ireturn, 1) := by decide +kernel
theorem d_Mo_sheet_34 : decode b_Mo_sheet 34 = .ok (.iload_n 2, 1) := by decide +kernel
theorem d_Mo_sheet_35 : decode b_Mo_sheet 35 = .ok (.ifCond .lt 10, 3) := by decide +kernel
theorem d_Mo_sheet_38 : decode b_Mo_sheet 38 = .ok (.iload_n 3, 1) := by decide +kernel
theorem d_Mo_sheet_39 : decode b_Mo_sheet 39 = .ok (.ifCond .ge 6, 3) := by decide +kernel
theorem d_Mo_sheet_42 : decode b_Mo_sheet 42 = .ok (.bipush (-14), 2) := by decide +kernel
theorem d_Mo_sheet_44 : decode b_Mo_sheet 44 = .ok (.ireturn, 1) := by decide +kernel
theorem d_Mo_sheet_45 : decode b_Mo_sheet 45 = .ok (.aload_n 0, 1) := by decide +kernel
theorem d_Mo_sheet_46 : decode b_Mo_sheet 46 = .ok (.iload_n 1, 1) := by decide +kernel
theorem d_Mo_sheet_47 : decode b_Mo_sheet 47 = .ok (.iload_n 2, 1) := by decide +kernel
theorem d_Mo_sheet_48 : decode b_Mo_sheet 48 = .ok (.iload_n 3, 1) := by decide +kernel
theorem d_Mo_sheet_49 : decode b_Mo_sheet 49 = .ok (.invokevirtual 262, 3) := by decide +kernel
theorem d_Mo_sheet_52 : decode b_Mo_sheet 52 = .ok (.iconst 1, 1) := by decide +kernel
theorem d_Mo_sheet_53 : decode b_Mo_sheet 53 = .ok (.ireturn, 1) := by decide +kernel
def B_Mo_sheet_0 (a1 : Int32) (a2 : Int32) (a3 : Int32) (σ : Sto) : Option (Int32 × Sto) :=
  ((f_Mo_isSheet a1 σ).bind fun q1 => (if (b2i q1.1) = 0 then some ((-2 : Int32), q1.2)
 else ((f_Mo_in (Int32.toInt64 a2) (-1 : Int64) (2 : Int64) q1.2).bind fun q2 => (if (b2i q2.1) = 0 then some ((-2 : Int32), q2.2)
  else (if a2 < 0 then (if a2 < 0 then ((f_Mo_becomesRow a1 a2 a3 q2.2).bind fun q3 => some ((1 : Int32), q3.2))
    else (if 0 ≤ a3 then ((f_Mo_becomesRow a1 a2 a3 q2.2).bind fun q4 => some ((1 : Int32), q4.2))
     else some ((-14 : Int32), q2.2)))
   else (if a3 ≤ (60 : Int32) then (if a2 < 0 then ((f_Mo_becomesRow a1 a2 a3 q2.2).bind fun q5 => some ((1 : Int32), q5.2))
     else (if 0 ≤ a3 then ((f_Mo_becomesRow a1 a2 a3 q2.2).bind fun q6 => some ((1 : Int32), q6.2))
      else some ((-14 : Int32), q2.2)))
    else some ((-2 : Int32), q2.2)))))))
set_option maxHeartbeats 4000000 in
set_option maxRecDepth 100000 in
theorem vB_Mo_sheet_0 {X : Xt} {E : En} (g : GG X E 3 b_Mo_sheet R_Mo 4) (a1 : Int32) (a2 : Int32) (a3 : Int32) (σ : Sto) : VV X E b_Mo_sheet 4 eI 0 [(0, .ref (E.2.1 48)), (1, .int a1), (2, .int a2), (3, .int a3)] [] σ (B_Mo_sheet_0 a1 a2 a3 σ) := by
  unfold B_Mo_sheet_0
  refine v_iload_n 1 g d_Mo_sheet_0 rfl ?_
  refine v_callB (r_S (rest := []) [.int a1] g (m1 1401 (by decide +kernel) (by decide +kernel)) ys_Mo_isSheet (fun r σ1 h => sp_Mo_isSheet g.2.2.1  h) rfl rfl (by decide) (Nat.le_of_ble_eq_true rfl) d_Mo_sheet_1) (fun q1 => ?_)
  refine v_if_eq 31 g d_Mo_sheet_4 (by decide) (fun _ => ?_) (fun _ => ?_)
  · refine v_bipush (v := (-2 : Int32)) g d_Mo_sheet_31 (by decide +kernel) ?_
    exact v_ret d_Mo_sheet_33 rfl
  · refine v_iload_n 2 g d_Mo_sheet_7 rfl ?_
    refine v_i2l g d_Mo_sheet_8 ?_
    refine v_ldc2 (v := (-1 : Int64)) g (m1 1216 (by decide +kernel) (by decide +kernel)) d_Mo_sheet_9 ?_
    refine v_ldc2 (v := (2 : Int64)) g (m1 1355 (by decide +kernel) (by decide +kernel)) d_Mo_sheet_12 ?_
    refine v_callB (r_S (rest := []) [.long (Int32.toInt64 a2), .long (-1 : Int64), .long (2 : Int64)] g (m1 1167 (by decide +kernel) (by decide +kernel)) ys_Mo_in (fun r σ1 h => sp_Mo_in g.2.2.1  h) rfl rfl (by decide) (Nat.le_of_ble_eq_true rfl) d_Mo_sheet_15) (fun q2 => ?_)
    refine v_if_eq 31 g d_Mo_sheet_18 (by decide) (fun _ => ?_) (fun _ => ?_)
    · refine v_bipush (v := (-2 : Int32)) g d_Mo_sheet_31 (by decide +kernel) ?_
      exact v_ret d_Mo_sheet_33 rfl
    · refine v_iload_n 2 g d_Mo_sheet_21 rfl ?_
      refine v_if_lt 34 g d_Mo_sheet_22 (by decide) (fun _ => ?_) (fun _ => ?_)
      · refine v_iload_n 2 g d_Mo_sheet_34 rfl ?_
        refine v_if_lt 45 g d_Mo_sheet_35 (by decide) (fun _ => ?_) (fun _ => ?_)
        · refine v_aload_n 0 g d_Mo_sheet_45 rfl ?_
          refine v_iload_n 1 g d_Mo_sheet_46 rfl ?_
          refine v_iload_n 2 g d_Mo_sheet_47 rfl ?_
          refine v_iload_n 3 g d_Mo_sheet_48 rfl ?_
          refine v_callU (r_V (rest := []) [.int a1, .int a2, .int a3] g (m1 1412 (by decide +kernel) (by decide +kernel)) yv_Mo_becomesRow rfl (fun r σ1 h => sp_Mo_becomesRow g.2.2.1  h) rfl rfl (by decide) (Nat.le_of_ble_eq_true rfl) d_Mo_sheet_49) (fun q3 => ?_)
          refine v_iconst (v := (1 : Int32)) g d_Mo_sheet_52 (by decide +kernel) ?_
          exact v_ret d_Mo_sheet_53 rfl
        · refine v_iload_n 3 g d_Mo_sheet_38 rfl ?_
          refine v_if_ge 45 g d_Mo_sheet_39 (by decide) (fun _ => ?_) (fun _ => ?_)
          · refine v_aload_n 0 g d_Mo_sheet_45 rfl ?_
            refine v_iload_n 1 g d_Mo_sheet_46 rfl ?_
            refine v_iload_n 2 g d_Mo_sheet_47 rfl ?_
            refine v_iload_n 3 g d_Mo_sheet_48 rfl ?_
            refine v_callU (r_V (rest := []) [.int a1, .int a2, .int a3] g (m1 1412 (by decide +kernel) (by decide +kernel)) yv_Mo_becomesRow rfl (fun r σ1 h => sp_Mo_becomesRow g.2.2.1  h) rfl rfl (by decide) (Nat.le_of_ble_eq_true rfl) d_Mo_sheet_49) (fun q4 => ?_)
            refine v_iconst (v := (1 : Int32)) g d_Mo_sheet_52 (by decide +kernel) ?_
            exact v_ret d_Mo_sheet_53 rfl
          · refine v_bipush (v := (-14 : Int32)) g d_Mo_sheet_42 (by decide +kernel) ?_
            exact v_ret d_Mo_sheet_44 rfl
      · refine v_iload_n 3 g d_Mo_sheet_25 rfl ?_
        refine v_bipush (v := (60 : Int32)) g d_Mo_sheet_26 (by decide +kernel) ?_
        refine v_icmp_le 34 g d_Mo_sheet_28 (by decide) (fun _ => ?_) (fun _ => ?_)
        · refine v_iload_n 2 g d_Mo_sheet_34 rfl ?_
          refine v_if_lt 45 g d_Mo_sheet_35 (by decide) (fun _ => ?_) (fun _ => ?_)
          · refine v_aload_n 0 g d_Mo_sheet_45 rfl ?_
            refine v_iload_n 1 g d_Mo_sheet_46 rfl ?_
            refine v_iload_n 2 g d_Mo_sheet_47 rfl ?_
            refine v_iload_n 3 g d_Mo_sheet_48 rfl ?_
            refine v_callU (r_V (rest := []) [.int a1, .int a2, .int a3] g (m1 1412 (by decide +kernel) (by decide +kernel)) yv_Mo_becomesRow rfl (fun r σ1 h => sp_Mo_becomesRow g.2.2.1  h) rfl rfl (by decide) (Nat.le_of_ble_eq_true rfl) d_Mo_sheet_49) (fun q5 => ?_)
            refine v_iconst (v := (1 : Int32)) g d_Mo_sheet_52 (by decide +kernel) ?_
            exact v_ret d_Mo_sheet_53 rfl
          · refine v_iload_n 3 g d_Mo_sheet_38 rfl ?_
            refine v_if_ge 45 g d_Mo_sheet_39 (by decide) (fun _ => ?_) (fun _ => ?_)
            · refine v_aload_n 0 g d_Mo_sheet_45 rfl ?_
              refine v_iload_n 1 g d_Mo_sheet_46 rfl ?_
              refine v_iload_n 2 g d_Mo_sheet_47 rfl ?_
              refine v_iload_n 3 g d_Mo_sheet_48 rfl ?_
              refine v_callU (r_V (rest := []) [.int a1, .int a2, .int a3] g (m1 1412 (by decide +kernel) (by decide +kernel)) yv_Mo_becomesRow rfl (fun r σ1 h => sp_Mo_becomesRow g.2.2.1  h) rfl rfl (by decide) (Nat.le_of_ble_eq_true rfl) d_Mo_sheet_49) (fun q6 => ?_)
              refine v_iconst (v := (1 : Int32)) g d_Mo_sheet_52 (by decide +kernel) ?_
              exact v_ret d_Mo_sheet_53 rfl
            · refine v_bipush (v := (-14 : Int32)) g d_Mo_sheet_42 (by decide +kernel) ?_
              exact v_ret d_Mo_sheet_44 rfl
        · refine v_bipush (v := (-2 : Int32)) g d_Mo_sheet_31 (by decide +kernel) ?_
          exact v_ret d_Mo_sheet_33 rfl
def f_Mo_sheet (a1 : Int32) (a2 : Int32) (a3 : Int32) (σ : Sto) : Option (Int32 × Sto) := B_Mo_sheet_0 a1 a2 a3 σ
theorem sp_Mo_sheet {l : Launch} {E : En} (hE : Dj E) {a1 : Int32} {a2 : Int32} {a3 : Int32} {σ : Sto} {r : Int32} {σ' : Sto} (h : f_Mo_sheet a1 a2 a3 σ = some (r, σ')) : Ct l E y_Mo_sheet (wsM y_Mo_sheet b_Mo_sheet 4 (some .int)) 3 [.ref (E.2.1 48), .int a1, .int a2, .int a3] σ (eI r) σ' :=
  ct_of hE (by decide +kernel) (Nat.le_of_ble_eq_true rfl) (fun x => Or.inl ⟨rfl, x, rfl⟩) (fun X _ g => vB_Mo_sheet_0 g a1 a2 a3 σ) r σ' h
