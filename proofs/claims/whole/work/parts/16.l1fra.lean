theorem ff_FR_10 : FF R_FR 10 9 0 := ⟨R_FR, T_FR, 11, rfl, in_FR, by decide, rfl, by decide, m1 330 (by decide +kernel) (by decide +kernel)⟩
theorem ff_FR_101 : FF R_FR 101 4 4 := ⟨R_Net, T_Net, 5, rfl, in_Net, by decide, rfl, by decide, m1 117 (by decide +kernel) (by decide +kernel)⟩
theorem ff_FR_104 : FF R_FR 104 4 3 := ⟨R_Net, T_Net, 5, rfl, in_Net, by decide, rfl, by decide, m1 115 (by decide +kernel) (by decide +kernel)⟩
theorem ff_FR_167 : FF R_FR 167 6 2 := ⟨R_Ranking, T_Ranking, 6, rfl, in_Ranking, by decide, rfl, by decide, m1 150 (by decide +kernel) (by decide +kernel)⟩
theorem ff_FR_173 : FF R_FR 173 6 1 := ⟨R_Ranking, T_Ranking, 6, rfl, in_Ranking, by decide, rfl, by decide, m1 148 (by decide +kernel) (by decide +kernel)⟩
theorem ff_FR_176 : FF R_FR 176 6 0 := ⟨R_Ranking, T_Ranking, 6, rfl, in_Ranking, by decide, rfl, by decide, m1 145 (by decide +kernel) (by decide +kernel)⟩
theorem ff_FR_182 : FF R_FR 182 6 4 := ⟨R_Ranking, T_Ranking, 6, rfl, in_Ranking, by decide, rfl, by decide, m1 156 (by decide +kernel) (by decide +kernel)⟩
theorem ff_FR_185 : FF R_FR 185 6 3 := ⟨R_Ranking, T_Ranking, 6, rfl, in_Ranking, by decide, rfl, by decide, m1 153 (by decide +kernel) (by decide +kernel)⟩
theorem ff_FR_222 : FF R_FR 222 0 1 := ⟨R_Finder, T_Finder, 10, rfl, in_Finder, by decide, rfl, by decide, m1 220 (by decide +kernel) (by decide +kernel)⟩
theorem ff_FR_225 : FF R_FR 225 0 0 := ⟨R_Finder, T_Finder, 10, rfl, in_Finder, by decide, rfl, by decide, m1 218 (by decide +kernel) (by decide +kernel)⟩
theorem ff_FR_241 : FF R_FR 241 4 0 := ⟨R_Net, T_Net, 5, rfl, in_Net, by decide, rfl, by decide, m1 109 (by decide +kernel) (by decide +kernel)⟩
theorem ff_FR_31 : FF R_FR 31 9 4 := ⟨R_FR, T_FR, 11, rfl, in_FR, by decide, rfl, by decide, m1 334 (by decide +kernel) (by decide +kernel)⟩
theorem ff_FR_47 : FF R_FR 47 9 6 := ⟨R_FR, T_FR, 11, rfl, in_FR, by decide, rfl, by decide, m1 336 (by decide +kernel) (by decide +kernel)⟩
theorem ff_FR_94 : FF R_FR 94 4 1 := ⟨R_Net, T_Net, 5, rfl, in_Net, by decide, rfl, by decide, m1 111 (by decide +kernel) (by decide +kernel)⟩
theorem ff_FR_98 : FF R_FR 98 4 2 := ⟨R_Net, T_Net, 5, rfl, in_Net, by decide, rfl, by decide, m1 113 (by decide +kernel) (by decide +kernel)⟩
/-! method FittingRings.point(II)I -/
theorem yv_FR_point : YV y_FR_point b_FR_point 3 (some .int) 2 9 := ⟨m1 365 (by decide +kernel) (by decide +kernel), m1 366 (by decide +kernel) (by decide +kernel), ini_FR, m1 367 (by decide +kernel) (by decide +kernel), ⟨by decide +kernel, by decide +kernel, by decide +kernel⟩, by decide, by decide, T_FR, 11, rfl⟩
theorem d_FR_point_0 : decode b_FR_point 0 = .ok (.iload_n 1, 1) := by decide +kernel
theorem d_FR_point_1 : decode b_FR_point 1 = .ok (.invokestatic 79, 3) := by decide +kernel
theorem d_FR_point_4 : decode b_FR_point 4 = .ok (.ifCond .eq 10, 3) := by decide +kernel
theorem d_FR_point_7 : decode b_FR_point 7 = .ok (.iload_n 2, 1) := by decide +kernel
theorem d_FR_point_8 : decode b_FR_point 8 = .ok (.invokestatic 83, 3) := by decide +kernel
theorem d_FR_point_11 : decode b_FR_point 11 = .ok (.ifCond .ne 6, 3) := by decide +kernel
theorem d_FR_point_14 : decode b_FR_point 14 = .ok (.bipush (-2), 2) := by decide +kernel
theorem d_FR_point_16 : decode b_FR_point 16 = .ok (.ireturn, 1) := by decide +kernel
theorem d_FR_point_17 : decode b_FR_point 17 = .ok (.aload_n 0, 1) := by decide +kernel
theorem d_FR_point_18 : decode b_FR_point 18 = .ok (.getfield 10, 3) := by decide +kernel
theorem d_FR_point_21 : decode b_FR_point 21 = .ok (.iload_n 1, 1) := by decide +kernel
theorem d_FR_point_22 : decode b_FR_point 22 = .ok (.iload_n 2, 1) := by decide +kernel
theorem d_FR_point_23 : decode b_FR_point 23 = .ok (.invokevirtual 86, 3) := by decide +kernel
theorem d_FR_point_26 : decode b_FR_point 26 = .ok (.ireturn, 1) := by decide +kernel
def B_FR_point_0 (a1 : Int32) (a2 : Int32) (σ : Sto) : Option (Int32 × Sto) :=
  ((f_FR_isKind a1 σ).bind fun q1 => (if (b2i q1.1) = 0 then some ((-2 : Int32), q1.2)
 else ((f_FR_isFigure a2 q1.2).bind fun q2 => (if (b2i q2.1) = 0 then some ((-2 : Int32), q2.2)
  else ((f_Net_add 1 a1 a2 q2.2).bind fun q3 => some (q3.1, q3.2))))))
set_option maxHeartbeats 4000000 in
set_option maxRecDepth 100000 in
theorem vB_FR_point_0 {X : Xt} {E : En} (g : GG X E 4 b_FR_point R_FR 3) (a1 : Int32) (a2 : Int32) (σ : Sto) : VV X E b_FR_point 3 eI 0 [(0, .ref (E.2.1 0)), (1, .int a1), (2, .int a2)] [] σ (B_FR_point_0 a1 a2 σ) := by
  unfold B_FR_point_0
  refine v_iload_n 1 g d_FR_point_0 rfl ?_
  refine v_callB (r_S (rest := []) [.int a1] g (m1 368 (by decide +kernel) (by decide +kernel)) ys_FR_isKind (fun r σ1 h => sp_FR_isKind g.2.2.1  h) rfl rfl (by decide) (Nat.le_of_ble_eq_true rfl) d_FR_point_1) (fun q1 => ?_)
  refine v_if_eq 14 g d_FR_point_4 (by decide) (fun _ => ?_) (fun _ => ?_)
  · refine v_bipush (v := (-2 : Int32)) g d_FR_point_14 (by decide +kernel) ?_
    exact v_ret d_FR_point_16 rfl
  · refine v_iload_n 2 g d_FR_point_7 rfl ?_
    refine v_callB (r_S (rest := []) [.int a2] g (m1 371 (by decide +kernel) (by decide +kernel)) ys_FR_isFigure (fun r σ1 h => sp_FR_isFigure g.2.2.1  h) rfl rfl (by decide) (Nat.le_of_ble_eq_true rfl) d_FR_point_8) (fun q2 => ?_)
    refine v_if_ne 17 g d_FR_point_11 (by decide) (fun _ => ?_) (fun _ => ?_)
    · refine v_aload_n 0 g d_FR_point_17 rfl ?_
      refine v_getR 1 g ff_FR_10 rfl rfl rfl d_FR_point_18 ?_
      refine v_iload_n 1 g d_FR_point_21 rfl ?_
      refine v_iload_n 2 g d_FR_point_22 rfl ?_
      refine v_callI (r_V (rest := []) [.int a1, .int a2] g (m1 374 (by decide +kernel) (by decide +kernel)) yv_Net_add rfl (fun r σ1 h => sp_Net_add g.2.2.1 rfl h) rfl rfl (by decide) (Nat.le_of_ble_eq_true rfl) d_FR_point_23) (fun q3 => ?_)
      exact v_ret d_FR_point_26 rfl
    · refine v_bipush (v := (-2 : Int32)) g d_FR_point_14 (by decide +kernel) ?_
      exact v_ret d_FR_point_16 rfl
def f_FR_point (a1 : Int32) (a2 : Int32) (σ : Sto) : Option (Int32 × Sto) := B_FR_point_0 a1 a2 σ
theorem sp_FR_point {l : Launch} {E : En} (hE : Dj E) {a1 : Int32} {a2 : Int32} {σ : Sto} {r : Int32} {σ' : Sto} (h : f_FR_point a1 a2 σ = some (r, σ')) : Ct l E y_FR_point (wsM y_FR_point b_FR_point 3 (some .int)) 4 [.ref (E.2.1 0), .int a1, .int a2] σ (eI r) σ' :=
  ct_of hE (by decide +kernel) (Nat.le_of_ble_eq_true rfl) (fun x => Or.inl ⟨rfl, x, rfl⟩) (fun X _ g => vB_FR_point_0 g a1 a2 σ) r σ' h
/-! method FittingRings.told(II)I -/
theorem yv_FR_told : YV y_FR_told b_FR_told 3 (some .int) 2 9 := ⟨m1 396 (by decide +kernel) (by decide +kernel), m1 397 (by decide +kernel) (by decide +kernel), ini_FR, m1 398 (by decide +kernel) (by decide +kernel), ⟨by decide +kernel, by decide +kernel, by decide +kernel⟩, by decide, by decide, T_FR, 11, rfl⟩
theorem d_FR_told_0 : decode b_FR_told 0 = .ok (.aload_n 0, 1) := by decide +kernel
theorem d_FR_told_1 : decode b_FR_told 1 = .ok (.getfield 10, 3) := by decide +kernel
theorem d_FR_told_4 : decode b_FR_told 4 = .ok (.iload_n 1, 1) := by decide +kernel
theorem d_FR_told_5 : decode b_FR_told 5 = .ok (.i2l, 1) := by decide +kernel
theorem d_FR_told_6 : decode b_FR_told 6 = .ok (.invokevirtual 90, 3) := by decide +kernel
theorem d_FR_told_9 : decode b_FR_told 9 = .ok (.ifCond .ne 6, 3) := by decide +kernel
theorem d_FR_told_12 : decode b_FR_told 12 = .ok (.bipush (-2), 2) := by decide +kernel
theorem d_FR_told_14 : decode b_FR_told 14 = .ok (.ireturn, 1) := by decide +kernel
theorem d_FR_told_15 : decode b_FR_told 15 = .ok (.iload_n 2, 1) := by decide +kernel
theorem d_FR_told_16 : decode b_FR_told 16 = .ok (.tableswitch 75 0 3 #[32, 42, 52, 62], 32) := by decide +kernel
theorem d_FR_told_48 : decode b_FR_told 48 = .ok (.aload_n 0, 1) := by decide +kernel
theorem d_FR_told_49 : decode b_FR_told 49 = .ok (.getfield 10, 3) := by decide +kernel
theorem d_FR_told_52 : decode b_FR_told 52 = .ok (.getfield 94, 3) := by decide +kernel
theorem d_FR_told_55 : decode b_FR_told 55 = .ok (.iload_n 1, 1) := by decide +kernel
theorem d_FR_told_56 : decode b_FR_told 56 = .ok (.iaload, 1) := by decide +kernel
theorem d_FR_told_57 : decode b_FR_told 57 = .ok (.ireturn, 1) := by decide +kernel
theorem d_FR_told_58 : decode b_FR_told 58 = .ok (.aload_n 0, 1) := by decide +kernel
theorem d_FR_told_59 : decode b_FR_told 59 = .ok (.getfield 10, 3) := by decide +kernel
theorem d_FR_told_62 : decode b_FR_told 62 = .ok (.getfield 98, 3) := by decide +kernel
theorem d_FR_told_65 : decode b_FR_told 65 = .ok (.iload_n 1, 1) := by decide +kernel
theorem d_FR_told_66 : decode b_FR_told 66 = .ok (.iaload, 1) := by decide +kernel
theorem d_FR_told_67 : decode b_FR_told 67 = .ok (.ireturn, 1) := by decide +kernel
theorem d_FR_told_68 : decode b_FR_told 68 = .ok (.aload_n 0, 1) := by decide +kernel
theorem d_FR_told_69 : decode b_FR_told 69 = .ok (.getfield 10, 3) := by decide +kernel
theorem d_FR_told_72 : decode b_FR_told 72 = .ok (.getfield 101, 3) := by decide +kernel
theorem d_FR_told_75 : decode b_FR_told 75 = .ok (.iload_n 1, 1) := by decide +kernel
theorem d_FR_told_76 : decode b_FR_told 76 = .ok (.iaload, 1) := by decide +kernel
theorem d_FR_told_77 : decode b_FR_told 77 = .ok (.ireturn, 1) := by decide +kernel
theorem d_FR_told_78 : decode b_FR_told 78 = .ok (.aload_n 0, 1) := by decide +kernel
theorem d_FR_told_79 : decode b_FR_told 79 = .ok (.getfield 10, 3) := by decide +kernel
theorem d_FR_told_82 : decode b_FR_told 82 = .ok (.getfield 104, 3) := by decide +kernel
theorem d_FR_told_85 : decode b_FR_told 85 = .ok (.iload_n 1, 1) := by decide +kernel
theorem d_FR_told_86 : decode b_FR_told 86 = .ok (.laload, 1) := by decide +kernel
theorem d_FR_told_87 : decode b_FR_told 87 = .ok (.invokestatic 108, 3) := by decide +kernel
theorem d_FR_told_90 : decode b_FR_told 90 = .ok (.ireturn, 1) := by decide +kernel
theorem d_FR_told_91 : decode b_FR_told 91 = .ok (.bipush (-2), 2) := by decide +kernel
theorem d_FR_told_93 : decode b_FR_told 93 = .ok (.ireturn, 1) := by decide +kernel
def B_FR_told_0 (a1 : Int32) (a2 : Int32) (σ : Sto) : Option (Int32 × Sto) :=
  ((f_Net_has 1 (Int32.toInt64 a1) σ).bind fun q1 => (if (b2i q1.1) = 0 then some ((-2 : Int32), q1.2)
 else (if a2 = (0 : Int32) then (if inb a1 40 = true then some ((gI q1.2 2 (Int32.toNatClampNeg a1)), q1.2) else none)
  else (if a2 = (1 : Int32) then (if inb a1 40 = true then some ((gI q1.2 3 (Int32.toNatClampNeg a1)), q1.2) else none)
   else (if a2 = (2 : Int32) then (if inb a1 40 = true then some ((gI q1.2 5 (Int32.toNatClampNeg a1)), q1.2) else none)
    else (if a2 = (3 : Int32) then (if inb a1 40 = true then ((f_JLong_bitCount (gL q1.2 4 (Int32.toNatClampNeg a1)) q1.2).bind fun q2 => some (q2.1, q2.2)) else none)
     else some ((-2 : Int32), q1.2)))))))
set_option maxHeartbeats 4000000 in
set_option maxRecDepth 100000 in
theorem vB_FR_told_0 {X : Xt} {E : En} (g : GG X E 2 b_FR_told R_FR 3) (a1 : Int32) (a2 : Int32) (σ : Sto) : VV X E b_FR_told 3 eI 0 [(0, .ref (E.2.1 0)), (1, .int a1), (2, .int a2)] [] σ (B_FR_told_0 a1 a2 σ) := by
  unfold B_FR_told_0
  refine v_aload_n 0 g d_FR_told_0 rfl ?_
  refine v_getR 1 g ff_FR_10 rfl rfl rfl d_FR_told_1 ?_
  refine v_iload_n 1 g d_FR_told_4 rfl ?_
  refine v_i2l g d_FR_told_5 ?_
  refine v_callB (r_V (rest := []) [.long (Int32.toInt64 a1)] g (m1 399 (by decide +kernel) (by decide +kernel)) yv_Net_has rfl (fun r σ1 h => sp_Net_has g.2.2.1 rfl h) rfl rfl (by decide) (Nat.le_of_ble_eq_true rfl) d_FR_told_6) (fun q1 => ?_)
  refine v_if_ne 15 g d_FR_told_9 (by decide) (fun _ => ?_) (fun _ => ?_)
  · refine v_iload_n 2 g d_FR_told_15 rfl ?_
    refine v_ite _ (fun h_0 => ?_) (fun h_0 => ?_)
    · refine v_tableIn 48 g d_FR_told_16 (by rw [h_0]; decide +kernel) (by rw [h_0]; decide +kernel) (off := 32) (by rw [h_0]; decide +kernel) (by decide) ?_
      refine v_aload_n 0 g d_FR_told_48 rfl ?_
      refine v_getR 1 g ff_FR_10 rfl rfl rfl d_FR_told_49 ?_
      refine v_getR 2 g ff_FR_94 rfl rfl rfl d_FR_told_52 ?_
      refine v_iload_n 1 g d_FR_told_55 rfl ?_
      refine v_iald g rfl rfl d_FR_told_56 (fun _ => ?_)
      exact v_ret d_FR_told_57 rfl
    · refine v_ite _ (fun h_1 => ?_) (fun h_1 => ?_)
      · refine v_tableIn 58 g d_FR_told_16 (by rw [h_1]; decide +kernel) (by rw [h_1]; decide +kernel) (off := 42) (by rw [h_1]; decide +kernel) (by decide) ?_
        refine v_aload_n 0 g d_FR_told_58 rfl ?_
        refine v_getR 1 g ff_FR_10 rfl rfl rfl d_FR_told_59 ?_
        refine v_getR 3 g ff_FR_98 rfl rfl rfl d_FR_told_62 ?_
        refine v_iload_n 1 g d_FR_told_65 rfl ?_
        refine v_iald g rfl rfl d_FR_told_66 (fun _ => ?_)
        exact v_ret d_FR_told_67 rfl
      · refine v_ite _ (fun h_2 => ?_) (fun h_2 => ?_)
        · refine v_tableIn 68 g d_FR_told_16 (by rw [h_2]; decide +kernel) (by rw [h_2]; decide +kernel) (off := 52) (by rw [h_2]; decide +kernel) (by decide) ?_
          refine v_aload_n 0 g d_FR_told_68 rfl ?_
          refine v_getR 1 g ff_FR_10 rfl rfl rfl d_FR_told_69 ?_
          refine v_getR 5 g ff_FR_101 rfl rfl rfl d_FR_told_72 ?_
          refine v_iload_n 1 g d_FR_told_75 rfl ?_
          refine v_iald g rfl rfl d_FR_told_76 (fun _ => ?_)
          exact v_ret d_FR_told_77 rfl
        · refine v_ite _ (fun h_3 => ?_) (fun h_3 => ?_)
          · refine v_tableIn 78 g d_FR_told_16 (by rw [h_3]; decide +kernel) (by rw [h_3]; decide +kernel) (off := 62) (by rw [h_3]; decide +kernel) (by decide) ?_
            refine v_aload_n 0 g d_FR_told_78 rfl ?_
            refine v_getR 1 g ff_FR_10 rfl rfl rfl d_FR_told_79 ?_
            refine v_getR 4 g ff_FR_104 rfl rfl rfl d_FR_told_82 ?_
            refine v_iload_n 1 g d_FR_told_85 rfl ?_
            refine v_lald g rfl rfl d_FR_told_86 (fun _ => ?_)
            refine v_callI (r_S (rest := []) [.long (gL q1.2 4 (Int32.toNatClampNeg a1))] g (m1 400 (by decide +kernel) (by decide +kernel)) ys_JLong_bitCount (fun r σ1 h => sp_JLong_bitCount g.2.2.1  h) rfl rfl (by decide) (Nat.le_of_ble_eq_true rfl) d_FR_told_87) (fun q2 => ?_)
            exact v_ret d_FR_told_90 rfl
          · refine v_tableOut 91 g d_FR_told_16 (by have n0 := sw_ne h_0 (show ((0 : Int32)).toInt = 0 by decide +kernel); have n1 := sw_ne h_1 (show ((1 : Int32)).toInt = 1 by decide +kernel); have n2 := sw_ne h_2 (show ((2 : Int32)).toInt = 2 by decide +kernel); have n3 := sw_ne h_3 (show ((3 : Int32)).toInt = 3 by decide +kernel); omega) (by decide) ?_
            refine v_bipush (v := (-2 : Int32)) g d_FR_told_91 (by decide +kernel) ?_
            exact v_ret d_FR_told_93 rfl
  · refine v_bipush (v := (-2 : Int32)) g d_FR_told_12 (by decide +kernel) ?_
    exact v_ret d_FR_told_14 rfl
def f_FR_told (a1 : Int32) (a2 : Int32) (σ : Sto) : Option (Int32 × Sto) := B_FR_told_0 a1 a2 σ
theorem sp_FR_told {l : Launch} {E : En} (hE : Dj E) {a1 : Int32} {a2 : Int32} {σ : Sto} {r : Int32} {σ' : Sto} (h : f_FR_told a1 a2 σ = some (r, σ')) : Ct l E y_FR_told (wsM y_FR_told b_FR_told 3 (some .int)) 2 [.ref (E.2.1 0), .int a1, .int a2] σ (eI r) σ' :=
  ct_of hE (by decide +kernel) (Nat.le_of_ble_eq_true rfl) (fun x => Or.inl ⟨rfl, x, rfl⟩) (fun X _ g => vB_FR_told_0 g a1 a2 σ) r σ' h
/-! method FittingRings.set(II)I -/
theorem yv_FR_set : YV y_FR_set b_FR_set 4 (some .int) 2 9 := ⟨m1 402 (by decide +kernel) (by decide +kernel), m1 403 (by decide +kernel) (by decide +kernel), ini_FR, m1 404 (by decide +kernel) (by decide +kernel), ⟨by decide +kernel, by decide +kernel, by decide +kernel⟩, by decide, by decide, T_FR, 11, rfl⟩
theorem d_FR_set_0 : decode b_FR_set 0 = .ok (.aload_n 0, 1) := by decide +kernel
theorem d_FR_set_1 : decode b_FR_set 1 = .ok (.getfield 10, 3) := by decide +kernel
theorem d_FR_set_4 : decode b_FR_set 4 = .ok (.iload_n 1, 1) := by decide +kernel
theorem d_FR_set_5 : decode b_FR_set 5 = .ok (.i2l, 1) := by decide +kernel
theorem d_FR_set_6 : decode b_FR_set 6 = .ok (.invokevirtual 90, 3) := by decide +kernel
theorem d_FR_set_9 : decode b_FR_set 9 = .ok (.ifCond .eq 10, 3) := by decide +kernel
theorem d_FR_set_12 : decode b_FR_set 12 = .ok (.iload_n 2, 1) := by decide +kernel
theorem d_FR_set_13 : decode b_FR_set 13 = .ok (.invokestatic 83, 3) := by decide +kernel
theorem d_FR_set_16 : decode b_FR_set 16 = .ok (.ifCond .ne 6, 3) := by decide +kernel
theorem d_FR_set_19 : decode b_FR_set 19 = .ok (.bipush (-2), 2) := by decide +kernel
theorem d_FR_set_21 : decode b_FR_set 21 = .ok (.ireturn, 1) := by decide +kernel
theorem d_FR_set_22 : decode b_FR_set 22 = .ok (.aload_n 0, 1) := by decide +kernel
theorem d_FR_set_23 : decode b_FR_set 23 = .ok (.getfield 10, 3) := by decide +kernel
theorem d_FR_set_26 : decode b_FR_set 26 = .ok (.getfield 98, 3) := by decide +kernel
theorem d_FR_set_29 : decode b_FR_set 29 = .ok (.iload_n 1, 1) := by decide +kernel
theorem d_FR_set_30 : decode b_FR_set 30 = .ok (.iaload, 1) := by decide +kernel
theorem d_FR_set_31 : decode b_FR_set 31 = .ok (.istore_n 3, 1) := by decide +kernel
theorem d_FR_set_32 : decode b_FR_set 32 = .ok (.aload_n 0, 1) := by decide +kernel
theorem d_FR_set_33 : decode b_FR_set 33 = .ok (.getfield 10, 3) := by decide +kernel
theorem d_FR_set_36 : decode b_FR_set 36 = .ok (.getfield 98, 3) := by decide +kernel
theorem d_FR_set_39 : decode b_FR_set 39 = .ok (.iload_n 1, 1) := by decide +kernel
theorem d_FR_set_40 : decode b_FR_set 40 = .ok (.iload_n 2, 1) := by decide +kernel
theorem d_FR_set_41 : decode b_FR_set 41 = .ok (.iastore, 1) := by decide +kernel
theorem d_FR_set_42 : decode b_FR_set 42 = .ok (.aload_n 0, 1) := by decide +kernel
theorem d_FR_set_43 : decode b_FR_set 43 = .ok (.getfield 10, 3) := by decide +kernel
theorem d_FR_set_46 : decode b_FR_set 46 = .ok (.iload_n 1, 1) := by decide +kernel
theorem d_FR_set_47 : decode b_FR_set 47 = .ok (.invokevirtual 114, 3) := by decide +kernel
theorem d_FR_set_50 : decode b_FR_set 50 = .ok (.iload_n 3, 1) := by decide +kernel
theorem d_FR_set_51 : decode b_FR_set 51 = .ok (.ireturn, 1) := by decide +kernel
def B_FR_set_0 (a1 : Int32) (a2 : Int32) (σ : Sto) : Option (Int32 × Sto) :=
  ((f_Net_has 1 (Int32.toInt64 a1) σ).bind fun q1 => (if (b2i q1.1) = 0 then some ((-2 : Int32), q1.2)
 else ((f_FR_isFigure a2 q1.2).bind fun q2 => (if (b2i q2.1) = 0 then some ((-2 : Int32), q2.2)
  else (if inb a1 40 = true then (lt1 (gI q2.2 3 (Int32.toNatClampNeg a1)) fun x3 => (if inb a1 40 = true then ((f_Net_weigh 1 a1 (sI q2.2 3 (Int32.toNatClampNeg a1) a2)).bind fun q4 => some (x3, q4.2)) else none)) else none)))))
set_option maxHeartbeats 4000000 in
set_option maxRecDepth 100000 in
theorem vB_FR_set_0 {X : Xt} {E : En} (g : GG X E 3 b_FR_set R_FR 4) (a1 : Int32) (a2 : Int32) (σ : Sto) : VV X E b_FR_set 4 eI 0 [(0, .ref (E.2.1 0)), (1, .int a1), (2, .int a2)] [] σ (B_FR_set_0 a1 a2 σ) := by
  unfold B_FR_set_0
  refine v_aload_n 0 g d_FR_set_0 rfl ?_
  refine v_getR 1 g ff_FR_10 rfl rfl rfl d_FR_set_1 ?_
  refine v_iload_n 1 g d_FR_set_4 rfl ?_
  refine v_i2l g d_FR_set_5 ?_
  refine v_callB (r_V (rest := []) [.long (Int32.toInt64 a1)] g (m1 399 (by decide +kernel) (by decide +kernel)) yv_Net_has rfl (fun r σ1 h => sp_Net_has g.2.2.1 rfl h) rfl rfl (by decide) (Nat.le_of_ble_eq_true rfl) d_FR_set_6) (fun q1 => ?_)
  refine v_if_eq 19 g d_FR_set_9 (by decide) (fun _ => ?_) (fun _ => ?_)
  · refine v_bipush (v := (-2 : Int32)) g d_FR_set_19 (by decide +kernel) ?_
    exact v_ret d_FR_set_21 rfl
  · refine v_iload_n 2 g d_FR_set_12 rfl ?_
    refine v_callB (r_S (rest := []) [.int a2] g (m1 371 (by decide +kernel) (by decide +kernel)) ys_FR_isFigure (fun r σ1 h => sp_FR_isFigure g.2.2.1  h) rfl rfl (by decide) (Nat.le_of_ble_eq_true rfl) d_FR_set_13) (fun q2 => ?_)
    refine v_if_ne 22 g d_FR_set_16 (by decide) (fun _ => ?_) (fun _ => ?_)
    · refine v_aload_n 0 g d_FR_set_22 rfl ?_
      refine v_getR 1 g ff_FR_10 rfl rfl rfl d_FR_set_23 ?_
      refine v_getR 3 g ff_FR_98 rfl rfl rfl d_FR_set_26 ?_
      refine v_iload_n 1 g d_FR_set_29 rfl ?_
      refine v_iald g rfl rfl d_FR_set_30 (fun _ => ?_)
      refine v_nlet (fun x3 ex3 => ?_)
      rw [← ex3]
      refine v_istore_n [(3, .int x3), (0, .ref (E.2.1 0)), (1, .int a1), (2, .int a2)] g d_FR_set_31 (by decide) rfl ?_
      refine v_aload_n 1 g d_FR_set_32 rfl ?_
      refine v_getR 1 g ff_FR_10 rfl rfl rfl d_FR_set_33 ?_
      refine v_getR 3 g ff_FR_98 rfl rfl rfl d_FR_set_36 ?_
      refine v_iload_n 2 g d_FR_set_39 rfl ?_
      refine v_iload_n 3 g d_FR_set_40 rfl ?_
      refine v_iast g rfl rfl d_FR_set_41 (fun _ => ?_)
      refine v_aload_n 1 g d_FR_set_42 rfl ?_
      refine v_getR 1 g ff_FR_10 rfl rfl rfl d_FR_set_43 ?_
      refine v_iload_n 2 g d_FR_set_46 rfl ?_
      refine v_callU (r_V (rest := []) [.int a1] g (m1 405 (by decide +kernel) (by decide +kernel)) yv_Net_weigh rfl (fun r σ1 h => sp_Net_weigh g.2.2.1 rfl h) rfl rfl (by decide) (Nat.le_of_ble_eq_true rfl) d_FR_set_47) (fun q4 => ?_)
      refine v_iload_n 0 g d_FR_set_50 rfl ?_
      exact v_ret d_FR_set_51 rfl
    · refine v_bipush (v := (-2 : Int32)) g d_FR_set_19 (by decide +kernel) ?_
      exact v_ret d_FR_set_21 rfl
def f_FR_set (a1 : Int32) (a2 : Int32) (σ : Sto) : Option (Int32 × Sto) := B_FR_set_0 a1 a2 σ
theorem sp_FR_set {l : Launch} {E : En} (hE : Dj E) {a1 : Int32} {a2 : Int32} {σ : Sto} {r : Int32} {σ' : Sto} (h : f_FR_set a1 a2 σ = some (r, σ')) : Ct l E y_FR_set (wsM y_FR_set b_FR_set 4 (some .int)) 3 [.ref (E.2.1 0), .int a1, .int a2] σ (eI r) σ' :=
  ct_of hE (by decide +kernel) (Nat.le_of_ble_eq_true rfl) (fun x => Or.inl ⟨rfl, x, rfl⟩) (fun X _ g => vB_FR_set_0 g a1 a2 σ) r σ' h
/-! method FittingRings.turns(II)I -/
theorem yv_FR_turns : YV y_FR_turns b_FR_turns 4 (some .int) 2 9 := ⟨m1 407 (by decide +kernel) (by decide +kernel), m1 408 (by decide +kernel) (by decide +kernel), ini_FR, m1 409 (by decide +kernel) (by decide +kernel), ⟨by decide +kernel, by decide +kernel, by decide +kernel⟩, by decide, by decide, T_FR, 11, rfl⟩
theorem d_FR_turns_0 : decode b_FR_turns 0 = .ok (.aload_n 0, 1) := by decide +kernel
theorem d_FR_turns_1 : decode b_FR_turns 1 = .ok (.getfield 10, 3) := by decide +kernel
theorem d_FR_turns_4 : decode b_FR_turns 4 = .ok (.iload_n 1, 1) := by decide +kernel
theorem d_FR_turns_5 : decode b_FR_turns 5 = .ok (.i2l, 1) := by decide +kernel
theorem d_FR_turns_6 : decode b_FR_turns 6 = .ok (.invokevirtual 90, 3) := by decide +kernel
theorem d_FR_turns_9 : decode b_FR_turns 9 = .ok (.ifCond .eq 10, 3) := by decide +kernel
theorem d_FR_turns_12 : decode b_FR_turns 12 = .ok (.iload_n 2, 1) := by decide +kernel
theorem d_FR_turns_13 : decode b_FR_turns 13 = .ok (.invokestatic 79, 3) := by decide +kernel
theorem d_FR_turns_16 : decode b_FR_turns 16 = .ok (.ifCond .ne 6, 3) := by decide +kernel
theorem d_FR_turns_19 : decode b_FR_turns 19 = .ok (.bipush (-2), 2) := by decide +kernel
theorem d_FR_turns_21 : decode b_FR_turns 21 = .ok (.ireturn, 1) := by decide +kernel
theorem d_FR_turns_22 : decode b_FR_turns 22 = .ok (.aload_n 0, 1) := by decide +kernel
theorem d_FR_turns_23 : decode b_FR_turns 23 = .ok (.getfield 10, 3) := by decide +kernel
theorem d_FR_turns_26 : decode b_FR_turns 26 = .ok (.getfield 94, 3) := by decide +kernel
theorem d_FR_turns_29 : decode b_FR_turns 29 = .ok (.iload_n 1, 1) := by decide +kernel
theorem d_FR_turns_30 : decode b_FR_turns 30 = .ok (.iaload, 1) := by decide +kernel
theorem d_FR_turns_31 : decode b_FR_turns 31 = .ok (.istore_n 3, 1) := by decide +kernel
theorem d_FR_turns_32 : decode b_FR_turns 32 = .ok (.aload_n 0, 1) := by decide +kernel
theorem d_FR_turns_33 : decode b_FR_turns 33 = .ok (.getfield 10, 3) := by decide +kernel
theorem d_FR_turns_36 : decode b_FR_turns 36 = .ok (.getfield 94, 3) := by decide +kernel
theorem d_FR_turns_39 : decode b_FR_turns 39 = .ok (.iload_n 1, 1) := by decide +kernel
theorem d_FR_turns_40 : decode b_FR_turns 40 = .ok (.iload_n 2, 1) := by decide +kernel
theorem d_FR_turns_41 : decode b_FR_turns 41 = .ok (.iastore, 1) := by decide +kernel
theorem d_FR_turns_42 : decode b_FR_turns 42 = .ok (.aload_n 0, 1) := by decide +kernel
theorem d_FR_turns_43 : decode b_FR_turns 43 = .ok (.getfield 10, 3) := by decide +kernel
theorem d_FR_turns_46 : decode b_FR_turns 46 = .ok (.iload_n 1, 1) := by decide +kernel
theorem d_FR_turns_47 : decode b_FR_turns 47 = .ok (.invokevirtual 114, 3) := by decide +kernel
theorem d_FR_turns_50 : decode b_FR_turns 50 = .ok (.iload_n 3, 1) := by decide +kernel
theorem d_FR_turns_51 : decode b_FR_turns 51 = .ok (.ireturn, 1) := by decide +kernel
def B_FR_turns_0 (a1 : Int32) (a2 : Int32) (σ : Sto) : Option (Int32 × Sto) :=
  ((f_Net_has 1 (Int32.toInt64 a1) σ).bind fun q1 => (if (b2i q1.1) = 0 then some ((-2 : Int32), q1.2)
 else ((f_FR_isKind a2 q1.2).bind fun q2 => (if (b2i q2.1) = 0 then some ((-2 : Int32), q2.2)
  else (if inb a1 40 = true then (lt1 (gI q2.2 2 (Int32.toNatClampNeg a1)) fun x3 => (if inb a1 40 = true then ((f_Net_weigh 1 a1 (sI q2.2 2 (Int32.toNatClampNeg a1) a2)).bind fun q4 => some (x3, q4.2)) else none)) else none)))))
set_option maxHeartbeats 4000000 in
set_option maxRecDepth 100000 in
theorem vB_FR_turns_0 {X : Xt} {E : En} (g : GG X E 3 b_FR_turns R_FR 4) (a1 : Int32) (a2 : Int32) (σ : Sto) : VV X E b_FR_turns 4 eI 0 [(0, .ref (E.2.1 0)), (1, .int a1), (2, .int a2)] [] σ (B_FR_turns_0 a1 a2 σ) := by
  unfold B_FR_turns_0
  refine v_aload_n 0 g d_FR_turns_0 rfl ?_
  refine v_getR 1 g ff_FR_10 rfl rfl rfl d_FR_turns_1 ?_
  refine v_iload_n 1 g d_FR_turns_4 rfl ?_
  refine v_i2l g d_FR_turns_5 ?_
  refine v_callB (r_V (rest := []) [.long (Int32.toInt64 a1)] g (m1 399 (by decide +kernel) (by decide +kernel)) yv_Net_has rfl (fun r σ1 h => sp_Net_has g.2.2.1 rfl h) rfl rfl (by decide) (Nat.le_of_ble_eq_true rfl) d_FR_turns_6) (fun q1 => ?_)
  refine v_if_eq 19 g d_FR_turns_9 (by decide) (fun _ => ?_) (fun _ => ?_)
  · refine v_bipush (v := (-2 : Int32)) g d_FR_turns_19 (by decide +kernel) ?_
    exact v_ret d_FR_turns_21 rfl
  · refine v_iload_n 2 g d_FR_turns_12 rfl ?_
    refine v_callB (r_S (rest := []) [.int a2] g (m1 368 (by decide +kernel) (by decide +kernel)) ys_FR_isKind (fun r σ1 h => sp_FR_isKind g.2.2.1  h) rfl rfl (by decide) (Nat.le_of_ble_eq_true rfl) d_FR_turns_13) (fun q2 => ?_)
    refine v_if_ne 22 g d_FR_turns_16 (by decide) (fun _ => ?_) (fun _ => ?_)
    · refine v_aload_n 0 g d_FR_turns_22 rfl ?_
      refine v_getR 1 g ff_FR_10 rfl rfl rfl d_FR_turns_23 ?_
      refine v_getR 2 g ff_FR_94 rfl rfl rfl d_FR_turns_26 ?_
      refine v_iload_n 1 g d_FR_turns_29 rfl ?_
      refine v_iald g rfl rfl d_FR_turns_30 (fun _ => ?_)
      refine v_nlet (fun x3 ex3 => ?_)
      rw [← ex3]
      refine v_istore_n [(3, .int x3), (0, .ref (E.2.1 0)), (1, .int a1), (2, .int a2)] g d_FR_turns_31 (by decide) rfl ?_
      refine v_aload_n 1 g d_FR_turns_32 rfl ?_
      refine v_getR 1 g ff_FR_10 rfl rfl rfl d_FR_turns_33 ?_
      refine v_getR 2 g ff_FR_94 rfl rfl rfl d_FR_turns_36 ?_
      refine v_iload_n 2 g d_FR_turns_39 rfl ?_
      refine v_iload_n 3 g d_FR_turns_40 rfl ?_
      refine v_iast g rfl rfl d_FR_turns_41 (fun _ => ?_)
      refine v_aload_n 1 g d_FR_turns_42 rfl ?_
      refine v_getR 1 g ff_FR_10 rfl rfl rfl d_FR_turns_43 ?_
      refine v_iload_n 2 g d_FR_turns_46 rfl ?_
      refine v_callU (r_V (rest := []) [.int a1] g (m1 405 (by decide +kernel) (by decide +kernel)) yv_Net_weigh rfl (fun r σ1 h => sp_Net_weigh g.2.2.1 rfl h) rfl rfl (by decide) (Nat.le_of_ble_eq_true rfl) d_FR_turns_47) (fun q4 => ?_)
      refine v_iload_n 0 g d_FR_turns_50 rfl ?_
      exact v_ret d_FR_turns_51 rfl
    · refine v_bipush (v := (-2 : Int32)) g d_FR_turns_19 (by decide +kernel) ?_
      exact v_ret d_FR_turns_21 rfl
def f_FR_turns (a1 : Int32) (a2 : Int32) (σ : Sto) : Option (Int32 × Sto) := B_FR_turns_0 a1 a2 σ
theorem sp_FR_turns {l : Launch} {E : En} (hE : Dj E) {a1 : Int32} {a2 : Int32} {σ : Sto} {r : Int32} {σ' : Sto} (h : f_FR_turns a1 a2 σ = some (r, σ')) : Ct l E y_FR_turns (wsM y_FR_turns b_FR_turns 4 (some .int)) 3 [.ref (E.2.1 0), .int a1, .int a2] σ (eI r) σ' :=
  ct_of hE (by decide +kernel) (Nat.le_of_ble_eq_true rfl) (fun x => Or.inl ⟨rfl, x, rfl⟩) (fun X _ g => vB_FR_turns_0 g a1 a2 σ) r σ' h
/-! method FittingRings.join(III)I -/
theorem yv_FR_join : YV y_FR_join b_FR_join 5 (some .int) 3 9 := ⟨m1 411 (by decide +kernel) (by decide +kernel), m1 412 (by decide +kernel) (by decide +kernel), ini_FR, m1 413 (by decide +kernel) (by decide +kernel), ⟨by decide +kernel, by decide +kernel, by decide +kernel⟩, by decide, by decide, T_FR, 11, rfl⟩
theorem d_FR_join_0 : decode b_FR_join 0 = .ok (.aload_n 0, 1) := by decide +kernel
theorem d_FR_join_1 : decode b_FR_join 1 = .ok (.getfield 10, 3) := by decide +kernel
theorem d_FR_join_4 : decode b_FR_join 4 = .ok (.iload_n 1, 1) := by decide +kernel
theorem d_FR_join_5 : decode b_FR_join 5 = .ok (.i2l, 1) := by decide +kernel
theorem d_FR_join_6 : decode b_FR_join 6 = .ok (.invokevirtual 90, 3) := by decide +kernel
theorem d_FR_join_9 : decode b_FR_join 9 = .ok (.ifCond .eq 27, 3) := by decide +kernel
theorem d_FR_join_12 : decode b_FR_join 12 = .ok (.aload_n 0, 1) := by decide +kernel
theorem d_FR_join_13 : decode b_FR_join 13 = .ok (.getfield 10, 3) := by decide +kernel
theorem d_FR_join_16 : decode b_FR_join 16 = .ok (.iload_n 2, 1) := by decide +kernel
theorem d_FR_join_17 : decode b_FR_join 17 = .ok (.i2l, 1) := by decide +kernel
theorem d_FR_join_18 : decode b_FR_join 18 = .ok (.invokevirtual 90, 3) := by decide +kernel
theorem d_FR_join_21 : decode b_FR_join 21 = .ok (.ifCond .eq 15, 3) := by decide +kernel
theorem d_FR_join_24 : decode b_FR_join 24 = .ok (.iload_n 1, 1) := by decide +kernel
theorem d_FR_join_25 : decode b_FR_join 25 = .ok (.iload_n 2, 1) := by decide +kernel
theorem d_FR_join_26 : decode b_FR_join 26 = .ok (.if_icmp .eq 10, 3) := by decide +kernel
theorem d_FR_join_29 : decode b_FR_join 29 = .ok (.iload_n 3, 1) := by decide +kernel
theorem d_FR_join_30 : decode b_FR_join 30 = .ok (.invokestatic 118, 3) := by decide +kernel
theorem d_FR_join_33 : decode b_FR_join 33 = .ok (.ifCond .ne 6, 3) := by decide +kernel
theorem d_FR_join_36 : decode b_FR_join 36 = .ok (.bipush (-2), 2) := by decide +kernel
theorem d_FR_join_38 : decode b_FR_join 38 = .ok (.ireturn, 1) := by decide +kernel
theorem d_FR_join_39 : decode b_FR_join 39 = .ok (.aload_n 0, 1) := by decide +kernel
theorem d_FR_join_40 : decode b_FR_join 40 = .ok (.getfield 10, 3) := by decide +kernel
theorem d_FR_join_43 : decode b_FR_join 43 = .ok (.iload_n 1, 1) := by decide +kernel
theorem d_FR_join_44 : decode b_FR_join 44 = .ok (.iload_n 2, 1) := by decide +kernel
theorem d_FR_join_45 : decode b_FR_join 45 = .ok (.invokevirtual 121, 3) := by decide +kernel
theorem d_FR_join_48 : decode b_FR_join 48 = .ok (.ifCond .eq 7, 3) := by decide +kernel
theorem d_FR_join_51 : decode b_FR_join 51 = .ok (.iconst 1, 1) := by decide +kernel
theorem d_FR_join_52 : decode b_FR_join 52 = .ok (.goto 4, 3) := by decide +kernel
theorem d_FR_join_55 : decode b_FR_join 55 = .ok (.iconst 0, 1) := by decide +kernel
theorem d_FR_join_56 : decode b_FR_join 56 = .ok (.istore 4, 2) := by decide +kernel
theorem d_FR_join_58 : decode b_FR_join 58 = .ok (.aload_n 0, 1) := by decide +kernel
theorem d_FR_join_59 : decode b_FR_join 59 = .ok (.getfield 10, 3) := by decide +kernel
theorem d_FR_join_62 : decode b_FR_join 62 = .ok (.iload_n 1, 1) := by decide +kernel
theorem d_FR_join_63 : decode b_FR_join 63 = .ok (.iload_n 2, 1) := by decide +kernel
theorem d_FR_join_64 : decode b_FR_join 64 = .ok (.iload_n 3, 1) := by decide +kernel
theorem d_FR_join_65 : decode b_FR_join 65 = .ok (.iconst 1, 1) := by decide +kernel
theorem d_FR_join_66 : decode b_FR_join 66 = .ok (.if_icmp .ne 7, 3) := by decide +kernel
theorem d_FR_join_69 : decode b_FR_join 69 = .ok (.iconst 1, 1) := by decide +kernel
theorem d_FR_join_70 : decode b_FR_join 70 = .ok (.goto 4, 3) := by decide +kernel
theorem d_FR_join_73 : decode b_FR_join 73 = .ok (.iconst 0, 1) := by decide +kernel
theorem d_FR_join_74 : decode b_FR_join 74 = .ok (.invokevirtual 125, 3) := by decide +kernel
theorem d_FR_join_77 : decode b_FR_join 77 = .ok (.iload 4, 2) := by decide +kernel
theorem d_FR_join_79 : decode b_FR_join 79 = .ok (.ireturn, 1) := by decide +kernel
def B_FR_join_0 (a1 : Int32) (a2 : Int32) (a3 : Int32) (σ : Sto) : Option (Int32 × Sto) :=
  ((f_Net_has 1 (Int32.toInt64 a1) σ).bind fun q1 => (if (b2i q1.1) = 0 then some ((-2 : Int32), q1.2)
 else ((f_Net_has 1 (Int32.toInt64 a2) q1.2).bind fun q2 => (if (b2i q2.1) = 0 then some ((-2 : Int32), q2.2)
  else (if a1 = a2 then some ((-2 : Int32), q2.2)
   else ((f_FR_isBit a3 q2.2).bind fun q3 => (if (b2i q3.1) = 0 then some ((-2 : Int32), q3.2)
    else ((f_Net_isTied 1 a1 a2 q3.2).bind fun q4 => (if (b2i q4.1) = 0 then (if a3 = (1 : Int32) then ((f_Net_tie 1 a1 a2 (1 : Int32) q4.2).bind fun q6 => some ((0 : Int32), q6.2))
      else ((f_Net_tie 1 a1 a2 (0 : Int32) q4.2).bind fun q5 => some ((0 : Int32), q5.2)))
     else (if a3 = (1 : Int32) then ((f_Net_tie 1 a1 a2 (1 : Int32) q4.2).bind fun q8 => some ((1 : Int32), q8.2))
      else ((f_Net_tie 1 a1 a2 (0 : Int32) q4.2).bind fun q7 => some ((1 : Int32), q7.2))))))))))))
set_option maxHeartbeats 4000000 in
set_option maxRecDepth 100000 in
theorem vB_FR_join_0 {X : Xt} {E : En} (g : GG X E 4 b_FR_join R_FR 5) (a1 : Int32) (a2 : Int32) (a3 : Int32) (σ : Sto) : VV X E b_FR_join 5 eI 0 [(0, .ref (E.2.1 0)), (1, .int a1), (2, .int a2), (3, .int a3)] [] σ (B_FR_join_0 a1 a2 a3 σ) := by
  unfold B_FR_join_0
  refine v_aload_n 0 g d_FR_join_0 rfl ?_
  refine v_getR 1 g ff_FR_10 rfl rfl rfl d_FR_join_1 ?_
  refine v_iload_n 1 g d_FR_join_4 rfl ?_
  refine v_i2l g d_FR_join_5 ?_
  refine v_callB (r_V (rest := []) [.long (Int32.toInt64 a1)] g (m1 399 (by decide +kernel) (by decide +kernel)) yv_Net_has rfl (fun r σ1 h => sp_Net_has g.2.2.1 rfl h) rfl rfl (by decide) (Nat.le_of_ble_eq_true rfl) d_FR_join_6) (fun q1 => ?_)
  refine v_if_eq 36 g d_FR_join_9 (by decide) (fun _ => ?_) (fun _ => ?_)
  · refine v_bipush (v := (-2 : Int32)) g d_FR_join_36 (by decide +kernel) ?_
    exact v_ret d_FR_join_38 rfl
  · refine v_aload_n 0 g d_FR_join_12 rfl ?_
    refine v_getR 1 g ff_FR_10 rfl rfl rfl d_FR_join_13 ?_
    refine v_iload_n 2 g d_FR_join_16 rfl ?_
    refine v_i2l g d_FR_join_17 ?_
    refine v_callB (r_V (rest := []) [.long (Int32.toInt64 a2)] g (m1 399 (by decide +kernel) (by decide +kernel)) yv_Net_has rfl (fun r σ1 h => sp_Net_has g.2.2.1 rfl h) rfl rfl (by decide) (Nat.le_of_ble_eq_true rfl) d_FR_join_18) (fun q2 => ?_)
    refine v_if_eq 36 g d_FR_join_21 (by decide) (fun _ => ?_) (fun _ => ?_)
    · refine v_bipush (v := (-2 : Int32)) g d_FR_join_36 (by decide +kernel) ?_
      exact v_ret d_FR_join_38 rfl
    · refine v_iload_n 1 g d_FR_join_24 rfl ?_
      refine v_iload_n 2 g d_FR_join_25 rfl ?_
      refine v_icmp_eq 36 g d_FR_join_26 (by decide) (fun _ => ?_) (fun _ => ?_)
      · refine v_bipush (v := (-2 : Int32)) g d_FR_join_36 (by decide +kernel) ?_
        exact v_ret d_FR_join_38 rfl
      · refine v_iload_n 3 g d_FR_join_29 rfl ?_
        refine v_callB (r_S (rest := []) [.int a3] g (m1 414 (by decide +kernel) (by decide +kernel)) ys_FR_isBit (fun r σ1 h => sp_FR_isBit g.2.2.1  h) rfl rfl (by decide) (Nat.le_of_ble_eq_true rfl) d_FR_join_30) (fun q3 => ?_)
        refine v_if_ne 39 g d_FR_join_33 (by decide) (fun _ => ?_) (fun _ => ?_)
        · refine v_aload_n 0 g d_FR_join_39 rfl ?_
          refine v_getR 1 g ff_FR_10 rfl rfl rfl d_FR_join_40 ?_
          refine v_iload_n 1 g d_FR_join_43 rfl ?_
          refine v_iload_n 2 g d_FR_join_44 rfl ?_
          refine v_callB (r_V (rest := []) [.int a1, .int a2] g (m1 417 (by decide +kernel) (by decide +kernel)) yv_Net_isTied rfl (fun r σ1 h => sp_Net_isTied g.2.2.1 rfl h) rfl rfl (by decide) (Nat.le_of_ble_eq_true rfl) d_FR_join_45) (fun q4 => ?_)
          refine v_if_eq 55 g d_FR_join_48 (by decide) (fun _ => ?_) (fun _ => ?_)
          · refine v_iconst (v := (0 : Int32)) g d_FR_join_55 (by decide +kernel) ?_
            refine v_istore [(4, .int (0 : Int32)), (0, .ref (E.2.1 0)), (1, .int a1), (2, .int a2), (3, .int a3)] g d_FR_join_56 (by decide) rfl ?_
            refine v_aload_n 1 g d_FR_join_58 rfl ?_
            refine v_getR 1 g ff_FR_10 rfl rfl rfl d_FR_join_59 ?_
            refine v_iload_n 2 g d_FR_join_62 rfl ?_
            refine v_iload_n 3 g d_FR_join_63 rfl ?_
            refine v_iload_n 4 g d_FR_join_64 rfl ?_
            refine v_iconst (v := (1 : Int32)) g d_FR_join_65 (by decide +kernel) ?_
            refine v_icmp_ne 73 g d_FR_join_66 (by decide) (fun _ => ?_) (fun _ => ?_)
            · refine v_iconst (v := (0 : Int32)) g d_FR_join_73 (by decide +kernel) ?_
              refine v_callU (r_V (rest := []) [.int a1, .int a2, .int (0 : Int32)] g (m1 424 (by decide +kernel) (by decide +kernel)) yv_Net_tie rfl (fun r σ1 h => sp_Net_tie g.2.2.1 rfl h) rfl rfl (by decide) (Nat.le_of_ble_eq_true rfl) d_FR_join_74) (fun q5 => ?_)
              refine v_iload 0 g d_FR_join_77 rfl ?_
              exact v_ret d_FR_join_79 rfl
            · refine v_iconst (v := (1 : Int32)) g d_FR_join_69 (by decide +kernel) ?_
              refine v_goto 74 g d_FR_join_70 (by decide) ?_
              refine v_callU (r_V (rest := []) [.int a1, .int a2, .int (1 : Int32)] g (m1 424 (by decide +kernel) (by decide +kernel)) yv_Net_tie rfl (fun r σ1 h => sp_Net_tie g.2.2.1 rfl h) rfl rfl (by decide) (Nat.le_of_ble_eq_true rfl) d_FR_join_74) (fun q6 => ?_)
              refine v_iload 0 g d_FR_join_77 rfl ?_
              exact v_ret d_FR_join_79 rfl
          · refine v_iconst (v := (1 : Int32)) g d_FR_join_51 (by decide +kernel) ?_
            refine v_goto 56 g d_FR_join_52 (by decide) ?_
            refine v_istore [(4, .int (1 : Int32)), (0, .ref (E.2.1 0)), (1, .int a1), (2, .int a2), (3, .int a3)] g d_FR_join_56 (by decide) rfl ?_
            refine v_aload_n 1 g d_FR_join_58 rfl ?_
            refine v_getR 1 g ff_FR_10 rfl rfl rfl d_FR_join_59 ?_
            refine v_iload_n 2 g d_FR_join_62 rfl ?_
            refine v_iload_n 3 g d_FR_join_63 rfl ?_
            refine v_iload_n 4 g d_FR_join_64 rfl ?_
            refine v_iconst (v := (1 : Int32)) g d_FR_join_65 (by decide +kernel) ?_
            refine v_icmp_ne 73 g d_FR_join_66 (by decide) (fun _ => ?_) (fun _ => ?_)
            · refine v_iconst (v := (0 : Int32)) g d_FR_join_73 (by decide +kernel) ?_
              refine v_callU (r_V (rest := []) [.int a1, .int a2, .int (0 : Int32)] g (m1 424 (by decide +kernel) (by decide +kernel)) yv_Net_tie rfl (fun r σ1 h => sp_Net_tie g.2.2.1 rfl h) rfl rfl (by decide) (Nat.le_of_ble_eq_true rfl) d_FR_join_74) (fun q7 => ?_)
              refine v_iload 0 g d_FR_join_77 rfl ?_
              exact v_ret d_FR_join_79 rfl
            · refine v_iconst (v := (1 : Int32)) g d_FR_join_69 (by decide +kernel) ?_
              refine v_goto 74 g d_FR_join_70 (by decide) ?_
              refine v_callU (r_V (rest := []) [.int a1, .int a2, .int (1 : Int32)] g (m1 424 (by decide +kernel) (by decide +kernel)) yv_Net_tie rfl (fun r σ1 h => sp_Net_tie g.2.2.1 rfl h) rfl rfl (by decide) (Nat.le_of_ble_eq_true rfl) d_FR_join_74) (fun q8 => ?_)
              refine v_iload 0 g d_FR_join_77 rfl ?_
              exact v_ret d_FR_join_79 rfl
        · refine v_bipush (v := (-2 : Int32)) g d_FR_join_36 (by decide +kernel) ?_
          exact v_ret d_FR_join_38 rfl
def f_FR_join (a1 : Int32) (a2 : Int32) (a3 : Int32) (σ : Sto) : Option (Int32 × Sto) := B_FR_join_0 a1 a2 a3 σ
theorem sp_FR_join {l : Launch} {E : En} (hE : Dj E) {a1 : Int32} {a2 : Int32} {a3 : Int32} {σ : Sto} {r : Int32} {σ' : Sto} (h : f_FR_join a1 a2 a3 σ = some (r, σ')) : Ct l E y_FR_join (wsM y_FR_join b_FR_join 5 (some .int)) 4 [.ref (E.2.1 0), .int a1, .int a2, .int a3] σ (eI r) σ' :=
  ct_of hE (by decide +kernel) (Nat.le_of_ble_eq_true rfl) (fun x => Or.inl ⟨rfl, x, rfl⟩) (fun X _ g => vB_FR_join_0 g a1 a2 a3 σ) r σ' h
/-! method FittingRings.mesh(JI)I -/
theorem yv_FR_mesh : YV y_FR_mesh b_FR_mesh 5 (some .int) 2 9 := ⟨m1 430 (by decide +kernel) (by decide +kernel), m1 431 (by decide +kernel) (by decide +kernel), ini_FR, m1 432 (by decide +kernel) (by decide +kernel), ⟨by decide +kernel, by decide +kernel, by decide +kernel⟩, by decide, by decide, T_FR, 11, rfl⟩
theorem d_FR_mesh_0 : decode b_FR_mesh 0 = .ok (.aload_n 0, 1) := by decide +kernel
theorem d_FR_mesh_1 : decode b_FR_mesh 1 = .ok (.getfield 10, 3) := by decide +kernel
theorem d_FR_mesh_4 : decode b_FR_mesh 4 = .ok (.lload_n 1, 1) := by decide +kernel
theorem d_FR_mesh_5 : decode b_FR_mesh 5 = .ok (.invokevirtual 129, 3) := by decide +kernel
theorem d_FR_mesh_8 : decode b_FR_mesh 8 = .ok (.ifCond .eq 10, 3) := by decide +kernel
theorem d_FR_mesh_11 : decode b_FR_mesh 11 = .ok (.iload_n 3, 1) := by decide +kernel
theorem d_FR_mesh_12 : decode b_FR_mesh 12 = .ok (.invokestatic 118, 3) := by decide +kernel
theorem d_FR_mesh_15 : decode b_FR_mesh 15 = .ok (.ifCond .ne 6, 3) := by decide +kernel
theorem d_FR_mesh_18 : decode b_FR_mesh 18 = .ok (.bipush (-2), 2) := by decide +kernel
theorem d_FR_mesh_20 : decode b_FR_mesh 20 = .ok (.ireturn, 1) := by decide +kernel
theorem d_FR_mesh_21 : decode b_FR_mesh 21 = .ok (.aload_n 0, 1) := by decide +kernel
theorem d_FR_mesh_22 : decode b_FR_mesh 22 = .ok (.getfield 10, 3) := by decide +kernel
theorem d_FR_mesh_25 : decode b_FR_mesh 25 = .ok (.invokevirtual 132, 3) := by decide +kernel
theorem d_FR_mesh_28 : decode b_FR_mesh 28 = .ok (.istore 4, 2) := by decide +kernel
theorem d_FR_mesh_30 : decode b_FR_mesh 30 = .ok (.aload_n 0, 1) := by decide +kernel
theorem d_FR_mesh_31 : decode b_FR_mesh 31 = .ok (.getfield 10, 3) := by decide +kernel
theorem d_FR_mesh_34 : decode b_FR_mesh 34 = .ok (.lload_n 1, 1) := by decide +kernel
theorem d_FR_mesh_35 : decode b_FR_mesh 35 = .ok (.iload_n 3, 1) := by decide +kernel
theorem d_FR_mesh_36 : decode b_FR_mesh 36 = .ok (.iconst 1, 1) := by decide +kernel
theorem d_FR_mesh_37 : decode b_FR_mesh 37 = .ok (.if_icmp .ne 7, 3) := by decide +kernel
theorem d_FR_mesh_40 : decode b_FR_mesh 40 = .ok (.iconst 1, 1) := by decide +kernel
theorem d_FR_mesh_41 : decode b_FR_mesh 41 = .ok (.goto 4, 3) := by decide +kernel
theorem d_FR_mesh_44 : decode b_FR_mesh 44 = .ok (.iconst 0, 1) := by decide +kernel
theorem d_FR_mesh_45 : decode b_FR_mesh 45 = .ok (.invokevirtual 136, 3) := by decide +kernel
theorem d_FR_mesh_48 : decode b_FR_mesh 48 = .ok (.aload_n 0, 1) := by decide +kernel
theorem d_FR_mesh_49 : decode b_FR_mesh 49 = .ok (.getfield 10, 3) := by decide +kernel
theorem d_FR_mesh_52 : decode b_FR_mesh 52 = .ok (.invokevirtual 132, 3) := by decide +kernel
theorem d_FR_mesh_55 : decode b_FR_mesh 55 = .ok (.iload 4, 2) := by decide +kernel
theorem d_FR_mesh_57 : decode b_FR_mesh 57 = .ok (.isub, 1) := by decide +kernel
theorem d_FR_mesh_58 : decode b_FR_mesh 58 = .ok (.invokestatic 140, 3) := by decide +kernel
theorem d_FR_mesh_61 : decode b_FR_mesh 61 = .ok (.ireturn, 1) := by decide +kernel
def B_FR_mesh_0 (a1 : Int64) (a3 : Int32) (σ : Sto) : Option (Int32 × Sto) :=
  ((f_Net_spans 1 a1 σ).bind fun q1 => (if (b2i q1.1) = 0 then some ((-2 : Int32), q1.2)
 else ((f_FR_isBit a3 q1.2).bind fun q2 => (if (b2i q2.1) = 0 then some ((-2 : Int32), q2.2)
  else ((f_Net_ties 1 q2.2).bind fun q3 => (if a3 = (1 : Int32) then ((f_Net_tieAll 1 a1 (1 : Int32) q3.2).bind fun q6 => ((f_Net_ties 1 q6.2).bind fun q7 => some ((abI (q7.1 - q3.1)), q7.2)))
   else ((f_Net_tieAll 1 a1 (0 : Int32) q3.2).bind fun q4 => ((f_Net_ties 1 q4.2).bind fun q5 => some ((abI (q5.1 - q3.1)), q5.2)))))))))
set_option maxHeartbeats 4000000 in
set_option maxRecDepth 100000 in
theorem vB_FR_mesh_0 {X : Xt} {E : En} (g : GG X E 4 b_FR_mesh R_FR 5) (a1 : Int64) (a3 : Int32) (σ : Sto) : VV X E b_FR_mesh 5 eI 0 [(0, .ref (E.2.1 0)), (1, .long a1), (3, .int a3)] [] σ (B_FR_mesh_0 a1 a3 σ) := by
  unfold B_FR_mesh_0
  refine v_aload_n 0 g d_FR_mesh_0 rfl ?_
  refine v_getR 1 g ff_FR_10 rfl rfl rfl d_FR_mesh_1 ?_
  refine v_lload_n 1 g d_FR_mesh_4 rfl ?_
  refine v_callB (r_V (rest := []) [.long a1] g (m1 433 (by decide +kernel) (by decide +kernel)) yv_Net_spans rfl (fun r σ1 h => sp_Net_spans g.2.2.1 rfl h) rfl rfl (by decide) (Nat.le_of_ble_eq_true rfl) d_FR_mesh_5) (fun q1 => ?_)
  refine v_if_eq 18 g d_FR_mesh_8 (by decide) (fun _ => ?_) (fun _ => ?_)
  · refine v_bipush (v := (-2 : Int32)) g d_FR_mesh_18 (by decide +kernel) ?_
    exact v_ret d_FR_mesh_20 rfl
  · refine v_iload_n 2 g d_FR_mesh_11 rfl ?_
    refine v_callB (r_S (rest := []) [.int a3] g (m1 414 (by decide +kernel) (by decide +kernel)) ys_FR_isBit (fun r σ1 h => sp_FR_isBit g.2.2.1  h) rfl rfl (by decide) (Nat.le_of_ble_eq_true rfl) d_FR_mesh_12) (fun q2 => ?_)
    refine v_if_ne 21 g d_FR_mesh_15 (by decide) (fun _ => ?_) (fun _ => ?_)
    · refine v_aload_n 0 g d_FR_mesh_21 rfl ?_
      refine v_getR 1 g ff_FR_10 rfl rfl rfl d_FR_mesh_22 ?_
      refine v_callI (r_V (rest := []) [] g (m1 441 (by decide +kernel) (by decide +kernel)) yv_Net_ties rfl (fun r σ1 h => sp_Net_ties g.2.2.1 rfl h) rfl rfl (by decide) (Nat.le_of_ble_eq_true rfl) d_FR_mesh_25) (fun q3 => ?_)
      refine v_istore [(4, .int q3.1), (0, .ref (E.2.1 0)), (1, .long a1), (3, .int a3)] g d_FR_mesh_28 (by decide) rfl ?_
      refine v_aload_n 1 g d_FR_mesh_30 rfl ?_
      refine v_getR 1 g ff_FR_10 rfl rfl rfl d_FR_mesh_31 ?_
      refine v_lload_n 2 g d_FR_mesh_34 rfl ?_
      refine v_iload_n 3 g d_FR_mesh_35 rfl ?_
      refine v_iconst (v := (1 : Int32)) g d_FR_mesh_36 (by decide +kernel) ?_
      refine v_icmp_ne 44 g d_FR_mesh_37 (by decide) (fun _ => ?_) (fun _ => ?_)
      · refine v_iconst (v := (0 : Int32)) g d_FR_mesh_44 (by decide +kernel) ?_
        refine v_callU (r_V (rest := []) [.long a1, .int (0 : Int32)] g (m1 445 (by decide +kernel) (by decide +kernel)) yv_Net_tieAll rfl (fun r σ1 h => sp_Net_tieAll g.2.2.1 rfl h) rfl rfl (by decide) (Nat.le_of_ble_eq_true rfl) d_FR_mesh_45) (fun q4 => ?_)
        refine v_aload_n 1 g d_FR_mesh_48 rfl ?_
        refine v_getR 1 g ff_FR_10 rfl rfl rfl d_FR_mesh_49 ?_
        refine v_callI (r_V (rest := []) [] g (m1 441 (by decide +kernel) (by decide +kernel)) yv_Net_ties rfl (fun r σ1 h => sp_Net_ties g.2.2.1 rfl h) rfl rfl (by decide) (Nat.le_of_ble_eq_true rfl) d_FR_mesh_52) (fun q5 => ?_)
        refine v_iload 0 g d_FR_mesh_55 rfl ?_
        refine v_isub g d_FR_mesh_57 ?_
        refine v_mabs g (m1 449 (by decide +kernel) (by decide +kernel)) (by decide) (Nat.le_of_ble_eq_true rfl) d_FR_mesh_58 ?_
        exact v_ret d_FR_mesh_61 rfl
      · refine v_iconst (v := (1 : Int32)) g d_FR_mesh_40 (by decide +kernel) ?_
        refine v_goto 45 g d_FR_mesh_41 (by decide) ?_
        refine v_callU (r_V (rest := []) [.long a1, .int (1 : Int32)] g (m1 445 (by decide +kernel) (by decide +kernel)) yv_Net_tieAll rfl (fun r σ1 h => sp_Net_tieAll g.2.2.1 rfl h) rfl rfl (by decide) (Nat.le_of_ble_eq_true rfl) d_FR_mesh_45) (fun q6 => ?_)
        refine v_aload_n 1 g d_FR_mesh_48 rfl ?_
        refine v_getR 1 g ff_FR_10 rfl rfl rfl d_FR_mesh_49 ?_
        refine v_callI (r_V (rest := []) [] g (m1 441 (by decide +kernel) (by decide +kernel)) yv_Net_ties rfl (fun r σ1 h => sp_Net_ties g.2.2.1 rfl h) rfl rfl (by decide) (Nat.le_of_ble_eq_true rfl) d_FR_mesh_52) (fun q7 => ?_)
        refine v_iload 0 g d_FR_mesh_55 rfl ?_
        refine v_isub g d_FR_mesh_57 ?_
        refine v_mabs g (m1 449 (by decide +kernel) (by decide +kernel)) (by decide) (Nat.le_of_ble_eq_true rfl) d_FR_mesh_58 ?_
        exact v_ret d_FR_mesh_61 rfl
    · refine v_bipush (v := (-2 : Int32)) g d_FR_mesh_18 (by decide +kernel) ?_
      exact v_ret d_FR_mesh_20 rfl
def f_FR_mesh (a1 : Int64) (a3 : Int32) (σ : Sto) : Option (Int32 × Sto) := B_FR_mesh_0 a1 a3 σ
theorem sp_FR_mesh {l : Launch} {E : En} (hE : Dj E) {a1 : Int64} {a3 : Int32} {σ : Sto} {r : Int32} {σ' : Sto} (h : f_FR_mesh a1 a3 σ = some (r, σ')) : Ct l E y_FR_mesh (wsM y_FR_mesh b_FR_mesh 5 (some .int)) 4 [.ref (E.2.1 0), .long a1, .int a3] σ (eI r) σ' :=
  ct_of hE (by decide +kernel) (Nat.le_of_ble_eq_true rfl) (fun x => Or.inl ⟨rfl, x, rfl⟩) (fun X _ g => vB_FR_mesh_0 g a1 a3 σ) r σ' h
/-! method FittingRings.near(IIJ)J -/
theorem yv_FR_near : YV y_FR_near b_FR_near 5 (some .long) 3 9 := ⟨m1 453 (by decide +kernel) (by decide +kernel), m1 454 (by decide +kernel) (by decide +kernel), ini_FR, m1 455 (by decide +kernel) (by decide +kernel), ⟨by decide +kernel, by decide +kernel, by decide +kernel⟩, by decide, by decide, T_FR, 11, rfl⟩
theorem d_FR_near_0 : decode b_FR_near 0 = .ok (.iload_n 1, 1) := by decide +kernel
theorem d_FR_near_1 : decode b_FR_near 1 = .ok (.invokestatic 118, 3) := by decide +kernel
theorem d_FR_near_4 : decode b_FR_near 4 = .ok (.ifCond .eq 26, 3) := by decide +kernel
theorem d_FR_near_7 : decode b_FR_near 7 = .ok (.aload_n 0, 1) := by decide +kernel
theorem d_FR_near_8 : decode b_FR_near 8 = .ok (.getfield 10, 3) := by decide +kernel
theorem d_FR_near_11 : decode b_FR_near 11 = .ok (.iload_n 2, 1) := by decide +kernel
theorem d_FR_near_12 : decode b_FR_near 12 = .ok (.i2l, 1) := by decide +kernel
theorem d_FR_near_13 : decode b_FR_near 13 = .ok (.invokevirtual 90, 3) := by decide +kernel
theorem d_FR_near_16 : decode b_FR_near 16 = .ok (.ifCond .eq 14, 3) := by decide +kernel
theorem d_FR_near_19 : decode b_FR_near 19 = .ok (.aload_n 0, 1) := by decide +kernel
theorem d_FR_near_20 : decode b_FR_near 20 = .ok (.getfield 10, 3) := by decide +kernel
theorem d_FR_near_23 : decode b_FR_near 23 = .ok (.lload_n 3, 1) := by decide +kernel
theorem d_FR_near_24 : decode b_FR_near 24 = .ok (.invokevirtual 129, 3) := by decide +kernel
theorem d_FR_near_27 : decode b_FR_near 27 = .ok (.ifCond .ne 7, 3) := by decide +kernel
theorem d_FR_near_30 : decode b_FR_near 30 = .ok (.ldc2_w 146, 3) := by decide +kernel
theorem d_FR_near_33 : decode b_FR_near 33 = .ok (.lreturn, 1) := by decide +kernel
theorem d_FR_near_34 : decode b_FR_near 34 = .ok (.aload_n 0, 1) := by decide +kernel
theorem d_FR_near_35 : decode b_FR_near 35 = .ok (.getfield 10, 3) := by decide +kernel
theorem d_FR_near_38 : decode b_FR_near 38 = .ok (.iload_n 1, 1) := by decide +kernel
theorem d_FR_near_39 : decode b_FR_near 39 = .ok (.iload_n 2, 1) := by decide +kernel
theorem d_FR_near_40 : decode b_FR_near 40 = .ok (.lload_n 3, 1) := by decide +kernel
theorem d_FR_near_41 : decode b_FR_near 41 = .ok (.invokevirtual 148, 3) := by decide +kernel
theorem d_FR_near_44 : decode b_FR_near 44 = .ok (.lreturn, 1) := by decide +kernel
def B_FR_near_0 (a1 : Int32) (a2 : Int32) (a3 : Int64) (σ : Sto) : Option (Int64 × Sto) :=
  ((f_FR_isBit a1 σ).bind fun q1 => (if (b2i q1.1) = 0 then some ((-2 : Int64), q1.2)
 else ((f_Net_has 1 (Int32.toInt64 a2) q1.2).bind fun q2 => (if (b2i q2.1) = 0 then some ((-2 : Int64), q2.2)
  else ((f_Net_spans 1 a3 q2.2).bind fun q3 => (if (b2i q3.1) = 0 then some ((-2 : Int64), q3.2)
   else ((f_Net_fitting 1 a1 a2 a3 q3.2).bind fun q4 => some (q4.1, q4.2))))))))
set_option maxHeartbeats 4000000 in
set_option maxRecDepth 100000 in
theorem vB_FR_near_0 {X : Xt} {E : En} (g : GG X E 3 b_FR_near R_FR 5) (a1 : Int32) (a2 : Int32) (a3 : Int64) (σ : Sto) : VV X E b_FR_near 5 eL 0 [(0, .ref (E.2.1 0)), (1, .int a1), (2, .int a2), (3, .long a3)] [] σ (B_FR_near_0 a1 a2 a3 σ) := by
  unfold B_FR_near_0
  refine v_iload_n 1 g d_FR_near_0 rfl ?_
  refine v_callB (r_S (rest := []) [.int a1] g (m1 414 (by decide +kernel) (by decide +kernel)) ys_FR_isBit (fun r σ1 h => sp_FR_isBit g.2.2.1  h) rfl rfl (by decide) (Nat.le_of_ble_eq_true rfl) d_FR_near_1) (fun q1 => ?_)
  refine v_if_eq 30 g d_FR_near_4 (by decide) (fun _ => ?_) (fun _ => ?_)
  · refine v_ldc2 (v := (-2 : Int64)) g (m1 456 (by decide +kernel) (by decide +kernel)) d_FR_near_30 ?_
    exact v_ret d_FR_near_33 rfl
  · refine v_aload_n 0 g d_FR_near_7 rfl ?_
    refine v_getR 1 g ff_FR_10 rfl rfl rfl d_FR_near_8 ?_
    refine v_iload_n 2 g d_FR_near_11 rfl ?_
    refine v_i2l g d_FR_near_12 ?_
    refine v_callB (r_V (rest := []) [.long (Int32.toInt64 a2)] g (m1 399 (by decide +kernel) (by decide +kernel)) yv_Net_has rfl (fun r σ1 h => sp_Net_has g.2.2.1 rfl h) rfl rfl (by decide) (Nat.le_of_ble_eq_true rfl) d_FR_near_13) (fun q2 => ?_)
    refine v_if_eq 30 g d_FR_near_16 (by decide) (fun _ => ?_) (fun _ => ?_)
    · refine v_ldc2 (v := (-2 : Int64)) g (m1 456 (by decide +kernel) (by decide +kernel)) d_FR_near_30 ?_
      exact v_ret d_FR_near_33 rfl
    · refine v_aload_n 0 g d_FR_near_19 rfl ?_
      refine v_getR 1 g ff_FR_10 rfl rfl rfl d_FR_near_20 ?_
      refine v_lload_n 3 g d_FR_near_23 rfl ?_
      refine v_callB (r_V (rest := []) [.long a3] g (m1 433 (by decide +kernel) (by decide +kernel)) yv_Net_spans rfl (fun r σ1 h => sp_Net_spans g.2.2.1 rfl h) rfl rfl (by decide) (Nat.le_of_ble_eq_true rfl) d_FR_near_24) (fun q3 => ?_)
      refine v_if_ne 34 g d_FR_near_27 (by decide) (fun _ => ?_) (fun _ => ?_)
      · refine v_aload_n 0 g d_FR_near_34 rfl ?_
        refine v_getR 1 g ff_FR_10 rfl rfl rfl d_FR_near_35 ?_
        refine v_iload_n 1 g d_FR_near_38 rfl ?_
        refine v_iload_n 2 g d_FR_near_39 rfl ?_
        refine v_lload_n 3 g d_FR_near_40 rfl ?_
        refine v_callL (r_V (rest := []) [.int a1, .int a2, .long a3] g (m1 457 (by decide +kernel) (by decide +kernel)) yv_Net_fitting rfl (fun r σ1 h => sp_Net_fitting g.2.2.1 rfl h) rfl rfl (by decide) (Nat.le_of_ble_eq_true rfl) d_FR_near_41) (fun q4 => ?_)
        exact v_ret d_FR_near_44 rfl
      · refine v_ldc2 (v := (-2 : Int64)) g (m1 456 (by decide +kernel) (by decide +kernel)) d_FR_near_30 ?_
        exact v_ret d_FR_near_33 rfl
def f_FR_near (a1 : Int32) (a2 : Int32) (a3 : Int64) (σ : Sto) : Option (Int64 × Sto) := B_FR_near_0 a1 a2 a3 σ
theorem sp_FR_near {l : Launch} {E : En} (hE : Dj E) {a1 : Int32} {a2 : Int32} {a3 : Int64} {σ : Sto} {r : Int64} {σ' : Sto} (h : f_FR_near a1 a2 a3 σ = some (r, σ')) : Ct l E y_FR_near (wsM y_FR_near b_FR_near 5 (some .long)) 3 [.ref (E.2.1 0), .int a1, .int a2, .long a3] σ (eL r) σ' :=
  ct_of hE (by decide +kernel) (Nat.le_of_ble_eq_true rfl) (fun x => Or.inr (Or.inr (Or.inl ⟨rfl, x, rfl⟩))) (fun X _ g => vB_FR_near_0 g a1 a2 a3 σ) r σ' h
/-! method FittingRings.measure(IJ)I -/
theorem yv_FR_measure : YV y_FR_measure b_FR_measure 4 (some .int) 2 9 := ⟨m1 462 (by decide +kernel) (by decide +kernel), m1 463 (by decide +kernel) (by decide +kernel), ini_FR, m1 464 (by decide +kernel) (by decide +kernel), ⟨by decide +kernel, by decide +kernel, by decide +kernel⟩, by decide, by decide, T_FR, 11, rfl⟩
theorem d_FR_measure_0 : decode b_FR_measure 0 = .ok (.iload_n 1, 1) := by decide +kernel
theorem d_FR_measure_1 : decode b_FR_measure 1 = .ok (.invokestatic 118, 3) := by decide +kernel
theorem d_FR_measure_4 : decode b_FR_measure 4 = .ok (.ifCond .eq 14, 3) := by decide +kernel
theorem d_FR_measure_7 : decode b_FR_measure 7 = .ok (.aload_n 0, 1) := by decide +kernel
theorem d_FR_measure_8 : decode b_FR_measure 8 = .ok (.getfield 10, 3) := by decide +kernel
theorem d_FR_measure_11 : decode b_FR_measure 11 = .ok (.lload_n 2, 1) := by decide +kernel
theorem d_FR_measure_12 : decode b_FR_measure 12 = .ok (.invokevirtual 129, 3) := by decide +kernel
theorem d_FR_measure_15 : decode b_FR_measure 15 = .ok (.ifCond .ne 6, 3) := by decide +kernel
theorem d_FR_measure_18 : decode b_FR_measure 18 = .ok (.bipush (-2), 2) := by decide +kernel
theorem d_FR_measure_20 : decode b_FR_measure 20 = .ok (.ireturn, 1) := by decide +kernel
theorem d_FR_measure_21 : decode b_FR_measure 21 = .ok (.aload_n 0, 1) := by decide +kernel
theorem d_FR_measure_22 : decode b_FR_measure 22 = .ok (.getfield 10, 3) := by decide +kernel
theorem d_FR_measure_25 : decode b_FR_measure 25 = .ok (.iload_n 1, 1) := by decide +kernel
theorem d_FR_measure_26 : decode b_FR_measure 26 = .ok (.lload_n 2, 1) := by decide +kernel
theorem d_FR_measure_27 : decode b_FR_measure 27 = .ok (.invokevirtual 152, 3) := by decide +kernel
theorem d_FR_measure_30 : decode b_FR_measure 30 = .ok (.ireturn, 1) := by decide +kernel
def B_FR_measure_0 (a1 : Int32) (a2 : Int64) (σ : Sto) : Option (Int32 × Sto) :=
  ((f_FR_isBit a1 σ).bind fun q1 => (if (b2i q1.1) = 0 then some ((-2 : Int32), q1.2)
 else ((f_Net_spans 1 a2 q1.2).bind fun q2 => (if (b2i q2.1) = 0 then some ((-2 : Int32), q2.2)
  else ((f_Net_worth 1 a1 a2 q2.2).bind fun q3 => some (q3.1, q3.2))))))
set_option maxHeartbeats 4000000 in
set_option maxRecDepth 100000 in
theorem vB_FR_measure_0 {X : Xt} {E : En} (g : GG X E 3 b_FR_measure R_FR 4) (a1 : Int32) (a2 : Int64) (σ : Sto) : VV X E b_FR_measure 4 eI 0 [(0, .ref (E.2.1 0)), (1, .int a1), (2, .long a2)] [] σ (B_FR_measure_0 a1 a2 σ) := by
  unfold B_FR_measure_0
  refine v_iload_n 1 g d_FR_measure_0 rfl ?_
  refine v_callB (r_S (rest := []) [.int a1] g (m1 414 (by decide +kernel) (by decide +kernel)) ys_FR_isBit (fun r σ1 h => sp_FR_isBit g.2.2.1  h) rfl rfl (by decide) (Nat.le_of_ble_eq_true rfl) d_FR_measure_1) (fun q1 => ?_)
  refine v_if_eq 18 g d_FR_measure_4 (by decide) (fun _ => ?_) (fun _ => ?_)
  · refine v_bipush (v := (-2 : Int32)) g d_FR_measure_18 (by decide +kernel) ?_
    exact v_ret d_FR_measure_20 rfl
  · refine v_aload_n 0 g d_FR_measure_7 rfl ?_
    refine v_getR 1 g ff_FR_10 rfl rfl rfl d_FR_measure_8 ?_
    refine v_lload_n 2 g d_FR_measure_11 rfl ?_
    refine v_callB (r_V (rest := []) [.long a2] g (m1 433 (by decide +kernel) (by decide +kernel)) yv_Net_spans rfl (fun r σ1 h => sp_Net_spans g.2.2.1 rfl h) rfl rfl (by decide) (Nat.le_of_ble_eq_true rfl) d_FR_measure_12) (fun q2 => ?_)
    refine v_if_ne 21 g d_FR_measure_15 (by decide) (fun _ => ?_) (fun _ => ?_)
    · refine v_aload_n 0 g d_FR_measure_21 rfl ?_
      refine v_getR 1 g ff_FR_10 rfl rfl rfl d_FR_measure_22 ?_
      refine v_iload_n 1 g d_FR_measure_25 rfl ?_
      refine v_lload_n 2 g d_FR_measure_26 rfl ?_
      refine v_callI (r_V (rest := []) [.int a1, .long a2] g (m1 465 (by decide +kernel) (by decide +kernel)) yv_Net_worth rfl (fun r σ1 h => sp_Net_worth g.2.2.1 rfl h) rfl rfl (by decide) (Nat.le_of_ble_eq_true rfl) d_FR_measure_27) (fun q3 => ?_)
      exact v_ret d_FR_measure_30 rfl
    · refine v_bipush (v := (-2 : Int32)) g d_FR_measure_18 (by decide +kernel) ?_
      exact v_ret d_FR_measure_20 rfl
def f_FR_measure (a1 : Int32) (a2 : Int64) (σ : Sto) : Option (Int32 × Sto) := B_FR_measure_0 a1 a2 σ
theorem sp_FR_measure {l : Launch} {E : En} (hE : Dj E) {a1 : Int32} {a2 : Int64} {σ : Sto} {r : Int32} {σ' : Sto} (h : f_FR_measure a1 a2 σ = some (r, σ')) : Ct l E y_FR_measure (wsM y_FR_measure b_FR_measure 4 (some .int)) 3 [.ref (E.2.1 0), .int a1, .long a2] σ (eI r) σ' :=
  ct_of hE (by decide +kernel) (Nat.le_of_ble_eq_true rfl) (fun x => Or.inl ⟨rfl, x, rfl⟩) (fun X _ g => vB_FR_measure_0 g a1 a2 σ) r σ' h
/-! method FittingRings.isSideAndSet(IJ)Z -/
theorem yv_FR_isSideAndSet : YV y_FR_isSideAndSet b_FR_isSideAndSet 4 (some .boolean) 2 9 := ⟨m1 475 (by decide +kernel) (by decide +kernel), m1 0 (by decide +kernel) (by decide +kernel), ini_FR, m1 476 (by decide +kernel) (by decide +kernel), ⟨by decide +kernel, by decide +kernel, by decide +kernel⟩, by decide, by decide, T_FR, 11, rfl⟩
theorem d_FR_isSideAndSet_0 : decode b_FR_isSideAndSet 0 = .ok (.iload_n 1, 1) := by decide +kernel
theorem d_FR_isSideAndSet_1 : decode b_FR_isSideAndSet 1 = .ok (.invokestatic 118, 3) := by decide +kernel
theorem d_FR_isSideAndSet_4 : decode b_FR_isSideAndSet 4 = .ok (.ifCond .eq 18, 3) := by decide +kernel
theorem d_FR_isSideAndSet_7 : decode b_FR_isSideAndSet 7 = .ok (.aload_n 0, 1) := by decide +kernel
theorem d_FR_isSideAndSet_8 : decode b_FR_isSideAndSet 8 = .ok (.getfield 10, 3) := by decide +kernel
theorem d_FR_isSideAndSet_11 : decode b_FR_isSideAndSet 11 = .ok (.lload_n 2, 1) := by decide +kernel
theorem d_FR_isSideAndSet_12 : decode b_FR_isSideAndSet 12 = .ok (.invokevirtual 129, 3) := by decide +kernel
theorem d_FR_isSideAndSet_15 : decode b_FR_isSideAndSet 15 = .ok (.ifCond .eq 7, 3) := by decide +kernel
theorem d_FR_isSideAndSet_18 : decode b_FR_isSideAndSet 18 = .ok (.iconst 1, 1) := by decide +kernel
theorem d_FR_isSideAndSet_19 : decode b_FR_isSideAndSet 19 = .ok (.goto 4, 3) := by decide +kernel
theorem d_FR_isSideAndSet_22 : decode b_FR_isSideAndSet 22 = .ok (.iconst 0, 1) := by decide +kernel
theorem d_FR_isSideAndSet_23 : decode b_FR_isSideAndSet 23 = .ok (.ireturn, 1) := by decide +kernel
def B_FR_isSideAndSet_0 (a1 : Int32) (a2 : Int64) (σ : Sto) : Option (Bool × Sto) :=
  ((f_FR_isBit a1 σ).bind fun q1 => (if (b2i q1.1) = 0 then some (false, q1.2)
 else ((f_Net_spans 1 a2 q1.2).bind fun q2 => (if (b2i q2.1) = 0 then some (false, q2.2)
  else some (true, q2.2)))))
set_option maxHeartbeats 4000000 in
set_option maxRecDepth 100000 in
theorem vB_FR_isSideAndSet_0 {X : Xt} {E : En} (g : GG X E 3 b_FR_isSideAndSet R_FR 4) (a1 : Int32) (a2 : Int64) (σ : Sto) : VV X E b_FR_isSideAndSet 4 eB 0 [(0, .ref (E.2.1 0)), (1, .int a1), (2, .long a2)] [] σ (B_FR_isSideAndSet_0 a1 a2 σ) := by
  unfold B_FR_isSideAndSet_0
  refine v_iload_n 1 g d_FR_isSideAndSet_0 rfl ?_
  refine v_callB (r_S (rest := []) [.int a1] g (m1 414 (by decide +kernel) (by decide +kernel)) ys_FR_isBit (fun r σ1 h => sp_FR_isBit g.2.2.1  h) rfl rfl (by decide) (Nat.le_of_ble_eq_true rfl) d_FR_isSideAndSet_1) (fun q1 => ?_)
  refine v_if_eq 22 g d_FR_isSideAndSet_4 (by decide) (fun _ => ?_) (fun _ => ?_)
  · refine v_iconst (v := (0 : Int32)) g d_FR_isSideAndSet_22 (by decide +kernel) ?_
    exact v_ret d_FR_isSideAndSet_23 rfl
  · refine v_aload_n 0 g d_FR_isSideAndSet_7 rfl ?_
    refine v_getR 1 g ff_FR_10 rfl rfl rfl d_FR_isSideAndSet_8 ?_
    refine v_lload_n 2 g d_FR_isSideAndSet_11 rfl ?_
    refine v_callB (r_V (rest := []) [.long a2] g (m1 433 (by decide +kernel) (by decide +kernel)) yv_Net_spans rfl (fun r σ1 h => sp_Net_spans g.2.2.1 rfl h) rfl rfl (by decide) (Nat.le_of_ble_eq_true rfl) d_FR_isSideAndSet_12) (fun q2 => ?_)
    refine v_if_eq 22 g d_FR_isSideAndSet_15 (by decide) (fun _ => ?_) (fun _ => ?_)
    · refine v_iconst (v := (0 : Int32)) g d_FR_isSideAndSet_22 (by decide +kernel) ?_
      exact v_ret d_FR_isSideAndSet_23 rfl
    · refine v_iconst (v := (1 : Int32)) g d_FR_isSideAndSet_18 (by decide +kernel) ?_
      refine v_goto 23 g d_FR_isSideAndSet_19 (by decide) ?_
      exact v_ret d_FR_isSideAndSet_23 rfl
def f_FR_isSideAndSet (a1 : Int32) (a2 : Int64) (σ : Sto) : Option (Bool × Sto) := B_FR_isSideAndSet_0 a1 a2 σ
theorem sp_FR_isSideAndSet {l : Launch} {E : En} (hE : Dj E) {a1 : Int32} {a2 : Int64} {σ : Sto} {r : Bool} {σ' : Sto} (h : f_FR_isSideAndSet a1 a2 σ = some (r, σ')) : Ct l E y_FR_isSideAndSet (wsM y_FR_isSideAndSet b_FR_isSideAndSet 4 (some .boolean)) 3 [.ref (E.2.1 0), .int a1, .long a2] σ (eB r) σ' :=
  ct_of hE (by decide +kernel) (Nat.le_of_ble_eq_true rfl) (fun b => Or.inr (Or.inl ⟨rfl, b, rfl⟩)) (fun X _ g => vB_FR_isSideAndSet_0 g a1 a2 σ) r σ' h
/-! method FittingRings.isRing(IJ)I -/
theorem yv_FR_isRing : YV y_FR_isRing b_FR_isRing 4 (some .int) 2 9 := ⟨m1 470 (by decide +kernel) (by decide +kernel), m1 471 (by decide +kernel) (by decide +kernel), ini_FR, m1 472 (by decide +kernel) (by decide +kernel), ⟨by decide +kernel, by decide +kernel, by decide +kernel⟩, by decide, by decide, T_FR, 11, rfl⟩
theorem d_FR_isRing_0 : decode b_FR_isRing 0 = .ok (.aload_n 0, 1) := by decide +kernel
theorem d_FR_isRing_1 : decode b_FR_isRing 1 = .ok (.iload_n 1, 1) := by decide +kernel
theorem d_FR_isRing_2 : decode b_FR_isRing 2 = .ok (.lload_n 2, 1) := by decide +kernel
theorem d_FR_isRing_3 : decode b_FR_isRing 3 = .ok (.invokevirtual 156, 3) := by decide +kernel
theorem d_FR_isRing_6 : decode b_FR_isRing 6 = .ok (.ifCond .ne 6, 3) := by decide +kernel
theorem d_FR_isRing_9 : decode b_FR_isRing 9 = .ok (.bipush (-2), 2) := by decide +kernel
theorem d_FR_isRing_11 : decode b_FR_isRing 11 = .ok (.ireturn, 1) := by decide +kernel
theorem d_FR_isRing_12 : decode b_FR_isRing 12 = .ok (.aload_n 0, 1) := by decide +kernel
theorem d_FR_isRing_13 : decode b_FR_isRing 13 = .ok (.getfield 10, 3) := by decide +kernel
theorem d_FR_isRing_16 : decode b_FR_isRing 16 = .ok (.iload_n 1, 1) := by decide +kernel
theorem d_FR_isRing_17 : decode b_FR_isRing 17 = .ok (.lload_n 2, 1) := by decide +kernel
theorem d_FR_isRing_18 : decode b_FR_isRing 18 = .ok (.invokevirtual 160, 3) := by decide +kernel
theorem d_FR_isRing_21 : decode b_FR_isRing 21 = .ok (.ifCond .eq 7, 3) := by decide +kernel
theorem d_FR_isRing_24 : decode b_FR_isRing 24 = .ok (.iconst 1, 1) := by decide +kernel
theorem d_FR_isRing_25 : decode b_FR_isRing 25 = .ok (.goto 4, 3) := by decide +kernel
theorem d_FR_isRing_28 : decode b_FR_isRing 28 = .ok (.iconst 0, 1) := by decide +kernel
theorem d_FR_isRing_29 : decode b_FR_isRing 29 = .ok (.ireturn, 1) := by decide +kernel
def B_FR_isRing_0 (a1 : Int32) (a2 : Int64) (σ : Sto) : Option (Int32 × Sto) :=
  ((f_FR_isSideAndSet a1 a2 σ).bind fun q1 => (if (b2i q1.1) = 0 then some ((-2 : Int32), q1.2)
 else ((f_Net_allFit 1 a1 a2 q1.2).bind fun q2 => (if (b2i q2.1) = 0 then some ((0 : Int32), q2.2)
  else some ((1 : Int32), q2.2)))))
set_option maxHeartbeats 4000000 in
set_option maxRecDepth 100000 in
theorem vB_FR_isRing_0 {X : Xt} {E : En} (g : GG X E 4 b_FR_isRing R_FR 4) (a1 : Int32) (a2 : Int64) (σ : Sto) : VV X E b_FR_isRing 4 eI 0 [(0, .ref (E.2.1 0)), (1, .int a1), (2, .long a2)] [] σ (B_FR_isRing_0 a1 a2 σ) := by
  unfold B_FR_isRing_0
  refine v_aload_n 0 g d_FR_isRing_0 rfl ?_
  refine v_iload_n 1 g d_FR_isRing_1 rfl ?_
  refine v_lload_n 2 g d_FR_isRing_2 rfl ?_
  refine v_callB (r_V (rest := []) [.int a1, .long a2] g (m1 473 (by decide +kernel) (by decide +kernel)) yv_FR_isSideAndSet rfl (fun r σ1 h => sp_FR_isSideAndSet g.2.2.1  h) rfl rfl (by decide) (Nat.le_of_ble_eq_true rfl) d_FR_isRing_3) (fun q1 => ?_)
  refine v_if_ne 12 g d_FR_isRing_6 (by decide) (fun _ => ?_) (fun _ => ?_)
  · refine v_aload_n 0 g d_FR_isRing_12 rfl ?_
    refine v_getR 1 g ff_FR_10 rfl rfl rfl d_FR_isRing_13 ?_
    refine v_iload_n 1 g d_FR_isRing_16 rfl ?_
    refine v_lload_n 2 g d_FR_isRing_17 rfl ?_
    refine v_callB (r_V (rest := []) [.int a1, .long a2] g (m1 477 (by decide +kernel) (by decide +kernel)) yv_Net_allFit rfl (fun r σ1 h => sp_Net_allFit g.2.2.1 rfl h) rfl rfl (by decide) (Nat.le_of_ble_eq_true rfl) d_FR_isRing_18) (fun q2 => ?_)
    refine v_if_eq 28 g d_FR_isRing_21 (by decide) (fun _ => ?_) (fun _ => ?_)
    · refine v_iconst (v := (0 : Int32)) g d_FR_isRing_28 (by decide +kernel) ?_
      exact v_ret d_FR_isRing_29 rfl
    · refine v_iconst (v := (1 : Int32)) g d_FR_isRing_24 (by decide +kernel) ?_
      refine v_goto 29 g d_FR_isRing_25 (by decide) ?_
      exact v_ret d_FR_isRing_29 rfl
  · refine v_bipush (v := (-2 : Int32)) g d_FR_isRing_9 (by decide +kernel) ?_
    exact v_ret d_FR_isRing_11 rfl
def f_FR_isRing (a1 : Int32) (a2 : Int64) (σ : Sto) : Option (Int32 × Sto) := B_FR_isRing_0 a1 a2 σ
theorem sp_FR_isRing {l : Launch} {E : En} (hE : Dj E) {a1 : Int32} {a2 : Int64} {σ : Sto} {r : Int32} {σ' : Sto} (h : f_FR_isRing a1 a2 σ = some (r, σ')) : Ct l E y_FR_isRing (wsM y_FR_isRing b_FR_isRing 4 (some .int)) 4 [.ref (E.2.1 0), .int a1, .long a2] σ (eI r) σ' :=
  ct_of hE (by decide +kernel) (Nat.le_of_ble_eq_true rfl) (fun x => Or.inl ⟨rfl, x, rfl⟩) (fun X _ g => vB_FR_isRing_0 g a1 a2 σ) r σ' h
/-! method FittingRings.order(IJI)I -/
theorem yv_FR_order : YV y_FR_order b_FR_order 6 (some .int) 3 9 := ⟨m1 483 (by decide +kernel) (by decide +kernel), m1 484 (by decide +kernel) (by decide +kernel), ini_FR, m1 485 (by decide +kernel) (by decide +kernel), ⟨by decide +kernel, by decide +kernel, by decide +kernel⟩, by decide, by decide, T_FR, 11, rfl⟩
theorem d_FR_order_0 : decode b_FR_order 0 = .ok (.aload_n 0, 1) := by decide +kernel
theorem d_FR_order_1 : decode b_FR_order 1 = .ok (.iload_n 1, 1) := by decide +kernel
theorem d_FR_order_2 : decode b_FR_order 2 = .ok (.lload_n 2, 1) := by decide +kernel
theorem d_FR_order_3 : decode b_FR_order 3 = .ok (.invokevirtual 156, 3) := by decide +kernel
theorem d_FR_order_6 : decode b_FR_order 6 = .ok (.ifCond .ne 6, 3) := by decide +kernel
theorem d_FR_order_9 : decode b_FR_order 9 = .ok (.bipush (-2), 2) := by decide +kernel
theorem d_FR_order_11 : decode b_FR_order 11 = .ok (.ireturn, 1) := by decide +kernel
theorem d_FR_order_12 : decode b_FR_order 12 = .ok (.aload_n 0, 1) := by decide +kernel
theorem d_FR_order_13 : decode b_FR_order 13 = .ok (.getfield 31, 3) := by decide +kernel
theorem d_FR_order_16 : decode b_FR_order 16 = .ok (.iload_n 1, 1) := by decide +kernel
theorem d_FR_order_17 : decode b_FR_order 17 = .ok (.lload_n 2, 1) := by decide +kernel
theorem d_FR_order_18 : decode b_FR_order 18 = .ok (.invokevirtual 163, 3) := by decide +kernel
theorem d_FR_order_21 : decode b_FR_order 21 = .ok (.astore 5, 2) := by decide +kernel
theorem d_FR_order_23 : decode b_FR_order 23 = .ok (.iload 4, 2) := by decide +kernel
theorem d_FR_order_25 : decode b_FR_order 25 = .ok (.iconst (-1), 1) := by decide +kernel
theorem d_FR_order_26 : decode b_FR_order 26 = .ok (.if_icmp .ne 9, 3) := by decide +kernel
theorem d_FR_order_29 : decode b_FR_order 29 = .ok (.aload 5, 2) := by decide +kernel
theorem d_FR_order_31 : decode b_FR_order 31 = .ok (.getfield 167, 3) := by decide +kernel
theorem d_FR_order_34 : decode b_FR_order 34 = .ok (.ireturn, 1) := by decide +kernel
theorem d_FR_order_35 : decode b_FR_order 35 = .ok (.iload 4, 2) := by decide +kernel
theorem d_FR_order_37 : decode b_FR_order 37 = .ok (.ifCond .lt 24, 3) := by decide +kernel
theorem d_FR_order_40 : decode b_FR_order 40 = .ok (.iload 4, 2) := by decide +kernel
theorem d_FR_order_42 : decode b_FR_order 42 = .ok (.aload 5, 2) := by decide +kernel
theorem d_FR_order_44 : decode b_FR_order 44 = .ok (.getfield 173, 3) := by decide +kernel
theorem d_FR_order_47 : decode b_FR_order 47 = .ok (.if_icmp .ge 14, 3) := by decide +kernel
theorem d_FR_order_50 : decode b_FR_order 50 = .ok (.aload 5, 2) := by decide +kernel
theorem d_FR_order_52 : decode b_FR_order 52 = .ok (.getfield 176, 3) := by decide +kernel
theorem d_FR_order_55 : decode b_FR_order 55 = .ok (.iload 4, 2) := by decide +kernel
theorem d_FR_order_57 : decode b_FR_order 57 = .ok (.iaload, 1) := by decide +kernel
theorem d_FR_order_58 : decode b_FR_order 58 = .ok (.goto 5, 3) := by decide +kernel
theorem d_FR_order_61 : decode b_FR_order 61 = .ok (.bipush (-12), 2) := by decide +kernel
theorem d_FR_order_63 : decode b_FR_order 63 = .ok (.ireturn, 1) := by decide +kernel
def B_FR_order_0 (a1 : Int32) (a2 : Int64) (a4 : Int32) (σ : Sto) : Option (Int32 × Sto) :=
  ((f_FR_isSideAndSet a1 a2 σ).bind fun q1 => (if (b2i q1.1) = 0 then some ((-2 : Int32), q1.2)
 else ((f_Judge_ranked a1 a2 q1.2).bind fun q2 => (if a4 = (-1 : Int32) then some ((gI q2.2 17 2), q2.2)
  else (if a4 < 0 then some ((-12 : Int32), q2.2)
   else (if (gI q2.2 17 1) ≤ a4 then some ((-12 : Int32), q2.2)
    else (if inb a4 40 = true then some ((gI q2.2 18 (Int32.toNatClampNeg a4)), q2.2) else none)))))))
set_option maxHeartbeats 4000000 in
set_option maxRecDepth 100000 in
theorem vB_FR_order_0 {X : Xt} {E : En} (g : GG X E 5 b_FR_order R_FR 6) (a1 : Int32) (a2 : Int64) (a4 : Int32) (σ : Sto) : VV X E b_FR_order 6 eI 0 [(0, .ref (E.2.1 0)), (1, .int a1), (2, .long a2), (4, .int a4)] [] σ (B_FR_order_0 a1 a2 a4 σ) := by
  unfold B_FR_order_0
  refine v_aload_n 0 g d_FR_order_0 rfl ?_
  refine v_iload_n 1 g d_FR_order_1 rfl ?_
  refine v_lload_n 2 g d_FR_order_2 rfl ?_
  refine v_callB (r_V (rest := []) [.int a1, .long a2] g (m1 473 (by decide +kernel) (by decide +kernel)) yv_FR_isSideAndSet rfl (fun r σ1 h => sp_FR_isSideAndSet g.2.2.1  h) rfl rfl (by decide) (Nat.le_of_ble_eq_true rfl) d_FR_order_3) (fun q1 => ?_)
  refine v_if_ne 12 g d_FR_order_6 (by decide) (fun _ => ?_) (fun _ => ?_)
  · refine v_aload_n 0 g d_FR_order_12 rfl ?_
    refine v_getR 16 g ff_FR_31 rfl rfl rfl d_FR_order_13 ?_
    refine v_iload_n 1 g d_FR_order_16 rfl ?_
    refine v_lload_n 2 g d_FR_order_17 rfl ?_
    refine v_callC (r_V (rest := []) [.int a1, .long a2] g (m1 486 (by decide +kernel) (by decide +kernel)) yv_Judge_ranked rfl (fun r σ1 h => sp_Judge_ranked g.2.2.1  h) rfl rfl (by decide) (Nat.le_of_ble_eq_true rfl) d_FR_order_18) (fun q2 => ?_)
    refine v_astore [(5, .ref (E.2.1 17)), (0, .ref (E.2.1 0)), (1, .int a1), (2, .long a2), (4, .int a4)] g d_FR_order_21 (by decide) rfl ?_
    refine v_iload 4 g d_FR_order_23 rfl ?_
    refine v_iconst (v := (-1 : Int32)) g d_FR_order_25 (by decide +kernel) ?_
    refine v_icmp_ne 35 g d_FR_order_26 (by decide) (fun _ => ?_) (fun _ => ?_)
    · refine v_iload 4 g d_FR_order_35 rfl ?_
      refine v_if_lt 61 g d_FR_order_37 (by decide) (fun _ => ?_) (fun _ => ?_)
      · refine v_bipush (v := (-12 : Int32)) g d_FR_order_61 (by decide +kernel) ?_
        exact v_ret d_FR_order_63 rfl
      · refine v_iload 4 g d_FR_order_40 rfl ?_
        refine v_aload 0 g d_FR_order_42 rfl ?_
        refine v_getI g ff_FR_173 rfl rfl d_FR_order_44 ?_
        refine v_icmp_ge 61 g d_FR_order_47 (by decide) (fun _ => ?_) (fun _ => ?_)
        · refine v_bipush (v := (-12 : Int32)) g d_FR_order_61 (by decide +kernel) ?_
          exact v_ret d_FR_order_63 rfl
        · refine v_aload 0 g d_FR_order_50 rfl ?_
          refine v_getR 18 g ff_FR_176 rfl rfl rfl d_FR_order_52 ?_
          refine v_iload 4 g d_FR_order_55 rfl ?_
          refine v_iald g rfl rfl d_FR_order_57 (fun _ => ?_)
          refine v_goto 63 g d_FR_order_58 (by decide) ?_
          exact v_ret d_FR_order_63 rfl
    · refine v_aload 0 g d_FR_order_29 rfl ?_
      refine v_getI g ff_FR_167 rfl rfl d_FR_order_31 ?_
      exact v_ret d_FR_order_34 rfl
  · refine v_bipush (v := (-2 : Int32)) g d_FR_order_9 (by decide +kernel) ?_
    exact v_ret d_FR_order_11 rfl
def f_FR_order (a1 : Int32) (a2 : Int64) (a4 : Int32) (σ : Sto) : Option (Int32 × Sto) := B_FR_order_0 a1 a2 a4 σ
theorem sp_FR_order {l : Launch} {E : En} (hE : Dj E) {a1 : Int32} {a2 : Int64} {a4 : Int32} {σ : Sto} {r : Int32} {σ' : Sto} (h : f_FR_order a1 a2 a4 σ = some (r, σ')) : Ct l E y_FR_order (wsM y_FR_order b_FR_order 6 (some .int)) 5 [.ref (E.2.1 0), .int a1, .long a2, .int a4] σ (eI r) σ' :=
  ct_of hE (by decide +kernel) (Nat.le_of_ble_eq_true rfl) (fun x => Or.inl ⟨rfl, x, rfl⟩) (fun X _ g => vB_FR_order_0 g a1 a2 a4 σ) r σ' h
/-! method FittingRings.classes(IJI)J -/
theorem yv_FR_classes : YV y_FR_classes b_FR_classes 6 (some .long) 3 9 := ⟨m1 505 (by decide +kernel) (by decide +kernel), m1 506 (by decide +kernel) (by decide +kernel), ini_FR, m1 507 (by decide +kernel) (by decide +kernel), ⟨by decide +kernel, by decide +kernel, by decide +kernel⟩, by decide, by decide, T_FR, 11, rfl⟩
theorem d_FR_classes_0 : decode b_FR_classes 0 = .ok (.aload_n 0, 1) := by decide +kernel
theorem d_FR_classes_1 : decode b_FR_classes 1 = .ok (.iload_n 1, 1) := by decide +kernel
theorem d_FR_classes_2 : decode b_FR_classes 2 = .ok (.lload_n 2, 1) := by decide +kernel
theorem d_FR_classes_3 : decode b_FR_classes 3 = .ok (.invokevirtual 156, 3) := by decide +kernel
theorem d_FR_classes_6 : decode b_FR_classes 6 = .ok (.ifCond .ne 7, 3) := by decide +kernel
theorem d_FR_classes_9 : decode b_FR_classes 9 = .ok (.ldc2_w 146, 3) := by decide +kernel
theorem d_FR_classes_12 : decode b_FR_classes 12 = .ok (.lreturn, 1) := by decide +kernel
theorem d_FR_classes_13 : decode b_FR_classes 13 = .ok (.aload_n 0, 1) := by decide +kernel
theorem d_FR_classes_14 : decode b_FR_classes 14 = .ok (.getfield 31, 3) := by decide +kernel
theorem d_FR_classes_17 : decode b_FR_classes 17 = .ok (.iload_n 1, 1) := by decide +kernel
theorem d_FR_classes_18 : decode b_FR_classes 18 = .ok (.lload_n 2, 1) := by decide +kernel
theorem d_FR_classes_19 : decode b_FR_classes 19 = .ok (.invokevirtual 179, 3) := by decide +kernel
theorem d_FR_classes_22 : decode b_FR_classes 22 = .ok (.astore 5, 2) := by decide +kernel
theorem d_FR_classes_24 : decode b_FR_classes 24 = .ok (.iload 4, 2) := by decide +kernel
theorem d_FR_classes_26 : decode b_FR_classes 26 = .ok (.iconst (-1), 1) := by decide +kernel
theorem d_FR_classes_27 : decode b_FR_classes 27 = .ok (.if_icmp .ne 10, 3) := by decide +kernel
theorem d_FR_classes_30 : decode b_FR_classes 30 = .ok (.aload 5, 2) := by decide +kernel
theorem d_FR_classes_32 : decode b_FR_classes 32 = .ok (.getfield 182, 3) := by decide +kernel
theorem d_FR_classes_35 : decode b_FR_classes 35 = .ok (.i2l, 1) := by decide +kernel
theorem d_FR_classes_36 : decode b_FR_classes 36 = .ok (.lreturn, 1) := by decide +kernel
theorem d_FR_classes_37 : decode b_FR_classes 37 = .ok (.iload 4, 2) := by decide +kernel
theorem d_FR_classes_39 : decode b_FR_classes 39 = .ok (.ifCond .lt 24, 3) := by decide +kernel
theorem d_FR_classes_42 : decode b_FR_classes 42 = .ok (.iload 4, 2) := by decide +kernel
theorem d_FR_classes_44 : decode b_FR_classes 44 = .ok (.aload 5, 2) := by decide +kernel
theorem d_FR_classes_46 : decode b_FR_classes 46 = .ok (.getfield 182, 3) := by decide +kernel
theorem d_FR_classes_49 : decode b_FR_classes 49 = .ok (.if_icmp .ge 14, 3) := by decide +kernel
theorem d_FR_classes_52 : decode b_FR_classes 52 = .ok (.aload 5, 2) := by decide +kernel
theorem d_FR_classes_54 : decode b_FR_classes 54 = .ok (.getfield 185, 3) := by decide +kernel
theorem d_FR_classes_57 : decode b_FR_classes 57 = .ok (.iload 4, 2) := by decide +kernel
theorem d_FR_classes_59 : decode b_FR_classes 59 = .ok (.laload, 1) := by decide +kernel
theorem d_FR_classes_60 : decode b_FR_classes 60 = .ok (.goto 6, 3) := by decide +kernel
theorem d_FR_classes_63 : decode b_FR_classes 63 = .ok (.ldc2_w 188, 3) := by decide +kernel
theorem d_FR_classes_66 : decode b_FR_classes 66 = .ok (.lreturn, 1) := by decide +kernel
def B_FR_classes_0 (a1 : Int32) (a2 : Int64) (a4 : Int32) (σ : Sto) : Option (Int64 × Sto) :=
  ((f_FR_isSideAndSet a1 a2 σ).bind fun q1 => (if (b2i q1.1) = 0 then some ((-2 : Int64), q1.2)
 else ((f_Judge_grouped a1 a2 q1.2).bind fun q2 => (if a4 = (-1 : Int32) then some ((Int32.toInt64 (gI q2.2 17 4)), q2.2)
  else (if a4 < 0 then some ((-12 : Int64), q2.2)
   else (if (gI q2.2 17 4) ≤ a4 then some ((-12 : Int64), q2.2)
    else (if inb a4 40 = true then some ((gL q2.2 19 (Int32.toNatClampNeg a4)), q2.2) else none)))))))
set_option maxHeartbeats 4000000 in
set_option maxRecDepth 100000 in
theorem vB_FR_classes_0 {X : Xt} {E : En} (g : GG X E 5 b_FR_classes R_FR 6) (a1 : Int32) (a2 : Int64) (a4 : Int32) (σ : Sto) : VV X E b_FR_classes 6 eL 0 [(0, .ref (E.2.1 0)), (1, .int a1), (2, .long a2), (4, .int a4)] [] σ (B_FR_classes_0 a1 a2 a4 σ) := by
  unfold B_FR_classes_0
  refine v_aload_n 0 g d_FR_classes_0 rfl ?_
  refine v_iload_n 1 g d_FR_classes_1 rfl ?_
  refine v_lload_n 2 g d_FR_classes_2 rfl ?_
  refine v_callB (r_V (rest := []) [.int a1, .long a2] g (m1 473 (by decide +kernel) (by decide +kernel)) yv_FR_isSideAndSet rfl (fun r σ1 h => sp_FR_isSideAndSet g.2.2.1  h) rfl rfl (by decide) (Nat.le_of_ble_eq_true rfl) d_FR_classes_3) (fun q1 => ?_)
  refine v_if_ne 13 g d_FR_classes_6 (by decide) (fun _ => ?_) (fun _ => ?_)
  · refine v_aload_n 0 g d_FR_classes_13 rfl ?_
    refine v_getR 16 g ff_FR_31 rfl rfl rfl d_FR_classes_14 ?_
    refine v_iload_n 1 g d_FR_classes_17 rfl ?_
    refine v_lload_n 2 g d_FR_classes_18 rfl ?_
    refine v_callC (r_V (rest := []) [.int a1, .long a2] g (m1 508 (by decide +kernel) (by decide +kernel)) yv_Judge_grouped rfl (fun r σ1 h => sp_Judge_grouped g.2.2.1  h) rfl rfl (by decide) (Nat.le_of_ble_eq_true rfl) d_FR_classes_19) (fun q2 => ?_)
    refine v_astore [(5, .ref (E.2.1 17)), (0, .ref (E.2.1 0)), (1, .int a1), (2, .long a2), (4, .int a4)] g d_FR_classes_22 (by decide) rfl ?_
    refine v_iload 4 g d_FR_classes_24 rfl ?_
    refine v_iconst (v := (-1 : Int32)) g d_FR_classes_26 (by decide +kernel) ?_
    refine v_icmp_ne 37 g d_FR_classes_27 (by decide) (fun _ => ?_) (fun _ => ?_)
    · refine v_iload 4 g d_FR_classes_37 rfl ?_
      refine v_if_lt 63 g d_FR_classes_39 (by decide) (fun _ => ?_) (fun _ => ?_)
      · refine v_ldc2 (v := (-12 : Int64)) g (m1 516 (by decide +kernel) (by decide +kernel)) d_FR_classes_63 ?_
        exact v_ret d_FR_classes_66 rfl
      · refine v_iload 4 g d_FR_classes_42 rfl ?_
        refine v_aload 0 g d_FR_classes_44 rfl ?_
        refine v_getI g ff_FR_182 rfl rfl d_FR_classes_46 ?_
        refine v_icmp_ge 63 g d_FR_classes_49 (by decide) (fun _ => ?_) (fun _ => ?_)
        · refine v_ldc2 (v := (-12 : Int64)) g (m1 516 (by decide +kernel) (by decide +kernel)) d_FR_classes_63 ?_
          exact v_ret d_FR_classes_66 rfl
        · refine v_aload 0 g d_FR_classes_52 rfl ?_
          refine v_getR 19 g ff_FR_185 rfl rfl rfl d_FR_classes_54 ?_
          refine v_iload 4 g d_FR_classes_57 rfl ?_
          refine v_lald g rfl rfl d_FR_classes_59 (fun _ => ?_)
          refine v_goto 66 g d_FR_classes_60 (by decide) ?_
          exact v_ret d_FR_classes_66 rfl
    · refine v_aload 0 g d_FR_classes_30 rfl ?_
      refine v_getI g ff_FR_182 rfl rfl d_FR_classes_32 ?_
      refine v_i2l g d_FR_classes_35 ?_
      exact v_ret d_FR_classes_36 rfl
  · refine v_ldc2 (v := (-2 : Int64)) g (m1 456 (by decide +kernel) (by decide +kernel)) d_FR_classes_9 ?_
    exact v_ret d_FR_classes_12 rfl
def f_FR_classes (a1 : Int32) (a2 : Int64) (a4 : Int32) (σ : Sto) : Option (Int64 × Sto) := B_FR_classes_0 a1 a2 a4 σ
theorem sp_FR_classes {l : Launch} {E : En} (hE : Dj E) {a1 : Int32} {a2 : Int64} {a4 : Int32} {σ : Sto} {r : Int64} {σ' : Sto} (h : f_FR_classes a1 a2 a4 σ = some (r, σ')) : Ct l E y_FR_classes (wsM y_FR_classes b_FR_classes 6 (some .long)) 5 [.ref (E.2.1 0), .int a1, .long a2, .int a4] σ (eL r) σ' :=
  ct_of hE (by decide +kernel) (Nat.le_of_ble_eq_true rfl) (fun x => Or.inr (Or.inr (Or.inl ⟨rfl, x, rfl⟩))) (fun X _ g => vB_FR_classes_0 g a1 a2 a4 σ) r σ' h
/-! method FittingRings.taken(IJ)J -/
theorem yv_FR_taken : YV y_FR_taken b_FR_taken 4 (some .long) 2 9 := ⟨m1 518 (by decide +kernel) (by decide +kernel), m1 519 (by decide +kernel) (by decide +kernel), ini_FR, m1 520 (by decide +kernel) (by decide +kernel), ⟨by decide +kernel, by decide +kernel, by decide +kernel⟩, by decide, by decide, T_FR, 11, rfl⟩
theorem d_FR_taken_0 : decode b_FR_taken 0 = .ok (.aload_n 0, 1) := by decide +kernel
theorem d_FR_taken_1 : decode b_FR_taken 1 = .ok (.iload_n 1, 1) := by decide +kernel
theorem d_FR_taken_2 : decode b_FR_taken 2 = .ok (.lload_n 2, 1) := by decide +kernel
theorem d_FR_taken_3 : decode b_FR_taken 3 = .ok (.invokevirtual 156, 3) := by decide +kernel
theorem d_FR_taken_6 : decode b_FR_taken 6 = .ok (.ifCond .ne 7, 3) := by decide +kernel
theorem d_FR_taken_9 : decode b_FR_taken 9 = .ok (.ldc2_w 146, 3) := by decide +kernel
theorem d_FR_taken_12 : decode b_FR_taken 12 = .ok (.lreturn, 1) := by decide +kernel
theorem d_FR_taken_13 : decode b_FR_taken 13 = .ok (.aload_n 0, 1) := by decide +kernel
theorem d_FR_taken_14 : decode b_FR_taken 14 = .ok (.getfield 31, 3) := by decide +kernel
theorem d_FR_taken_17 : decode b_FR_taken 17 = .ok (.iload_n 1, 1) := by decide +kernel
theorem d_FR_taken_18 : decode b_FR_taken 18 = .ok (.lload_n 2, 1) := by decide +kernel
theorem d_FR_taken_19 : decode b_FR_taken 19 = .ok (.invokevirtual 163, 3) := by decide +kernel
theorem d_FR_taken_22 : decode b_FR_taken 22 = .ok (.aload_n 0, 1) := by decide +kernel
theorem d_FR_taken_23 : decode b_FR_taken 23 = .ok (.getfield 10, 3) := by decide +kernel
theorem d_FR_taken_26 : decode b_FR_taken 26 = .ok (.iload_n 1, 1) := by decide +kernel
theorem d_FR_taken_27 : decode b_FR_taken 27 = .ok (.invokevirtual 190, 3) := by decide +kernel
theorem d_FR_taken_30 : decode b_FR_taken 30 = .ok (.lreturn, 1) := by decide +kernel
def B_FR_taken_0 (a1 : Int32) (a2 : Int64) (σ : Sto) : Option (Int64 × Sto) :=
  ((f_FR_isSideAndSet a1 a2 σ).bind fun q1 => (if (b2i q1.1) = 0 then some ((-2 : Int64), q1.2)
 else ((f_Judge_ranked a1 a2 q1.2).bind fun q2 => ((f_Ranking_greedyRing 1 a1 q2.2).bind fun q3 => some (q3.1, q3.2)))))
set_option maxHeartbeats 4000000 in
set_option maxRecDepth 100000 in
theorem vB_FR_taken_0 {X : Xt} {E : En} (g : GG X E 5 b_FR_taken R_FR 4) (a1 : Int32) (a2 : Int64) (σ : Sto) : VV X E b_FR_taken 4 eL 0 [(0, .ref (E.2.1 0)), (1, .int a1), (2, .long a2)] [] σ (B_FR_taken_0 a1 a2 σ) := by
  unfold B_FR_taken_0
  refine v_aload_n 0 g d_FR_taken_0 rfl ?_
  refine v_iload_n 1 g d_FR_taken_1 rfl ?_
  refine v_lload_n 2 g d_FR_taken_2 rfl ?_
  refine v_callB (r_V (rest := []) [.int a1, .long a2] g (m1 473 (by decide +kernel) (by decide +kernel)) yv_FR_isSideAndSet rfl (fun r σ1 h => sp_FR_isSideAndSet g.2.2.1  h) rfl rfl (by decide) (Nat.le_of_ble_eq_true rfl) d_FR_taken_3) (fun q1 => ?_)
  refine v_if_ne 13 g d_FR_taken_6 (by decide) (fun _ => ?_) (fun _ => ?_)
  · refine v_aload_n 0 g d_FR_taken_13 rfl ?_
    refine v_getR 16 g ff_FR_31 rfl rfl rfl d_FR_taken_14 ?_
    refine v_iload_n 1 g d_FR_taken_17 rfl ?_
    refine v_lload_n 2 g d_FR_taken_18 rfl ?_
    refine v_callC (r_V (rest := []) [.int a1, .long a2] g (m1 486 (by decide +kernel) (by decide +kernel)) yv_Judge_ranked rfl (fun r σ1 h => sp_Judge_ranked g.2.2.1  h) rfl rfl (by decide) (Nat.le_of_ble_eq_true rfl) d_FR_taken_19) (fun q2 => ?_)
    refine v_aload_n 0 g d_FR_taken_22 rfl ?_
    refine v_getR 1 g ff_FR_10 rfl rfl rfl d_FR_taken_23 ?_
    refine v_iload_n 1 g d_FR_taken_26 rfl ?_
    refine v_callL (r_V (rest := []) [.ref (E.2.1 1), .int a1] g (m1 521 (by decide +kernel) (by decide +kernel)) yv_Ranking_greedyRing rfl (fun r σ1 h => sp_Ranking_greedyRing g.2.2.1 rfl h) rfl rfl (by decide) (Nat.le_of_ble_eq_true rfl) d_FR_taken_27) (fun q3 => ?_)
    exact v_ret d_FR_taken_30 rfl
  · refine v_ldc2 (v := (-2 : Int64)) g (m1 456 (by decide +kernel) (by decide +kernel)) d_FR_taken_9 ?_
    exact v_ret d_FR_taken_12 rfl
def f_FR_taken (a1 : Int32) (a2 : Int64) (σ : Sto) : Option (Int64 × Sto) := B_FR_taken_0 a1 a2 σ
theorem sp_FR_taken {l : Launch} {E : En} (hE : Dj E) {a1 : Int32} {a2 : Int64} {σ : Sto} {r : Int64} {σ' : Sto} (h : f_FR_taken a1 a2 σ = some (r, σ')) : Ct l E y_FR_taken (wsM y_FR_taken b_FR_taken 4 (some .long)) 5 [.ref (E.2.1 0), .int a1, .long a2] σ (eL r) σ' :=
  ct_of hE (by decide +kernel) (Nat.le_of_ble_eq_true rfl) (fun x => Or.inr (Or.inr (Or.inl ⟨rfl, x, rfl⟩))) (fun X _ g => vB_FR_taken_0 g a1 a2 σ) r σ' h
/-! method FittingRings.isAsked(IIJ)Z -/
theorem yv_FR_isAsked : YV y_FR_isAsked b_FR_isAsked 5 (some .boolean) 3 9 := ⟨m1 531 (by decide +kernel) (by decide +kernel), m1 2 (by decide +kernel) (by decide +kernel), ini_FR, m1 532 (by decide +kernel) (by decide +kernel), ⟨by decide +kernel, by decide +kernel, by decide +kernel⟩, by decide, by decide, T_FR, 11, rfl⟩
theorem d_FR_isAsked_0 : decode b_FR_isAsked 0 = .ok (.iload_n 1, 1) := by decide +kernel
theorem d_FR_isAsked_1 : decode b_FR_isAsked 1 = .ok (.invokestatic 118, 3) := by decide +kernel
theorem d_FR_isAsked_4 : decode b_FR_isAsked 4 = .ok (.ifCond .eq 25, 3) := by decide +kernel
theorem d_FR_isAsked_7 : decode b_FR_isAsked 7 = .ok (.iload_n 2, 1) := by decide +kernel
theorem d_FR_isAsked_8 : decode b_FR_isAsked 8 = .ok (.invokestatic 118, 3) := by decide +kernel
theorem d_FR_isAsked_11 : decode b_FR_isAsked 11 = .ok (.ifCond .eq 18, 3) := by decide +kernel
theorem d_FR_isAsked_14 : decode b_FR_isAsked 14 = .ok (.aload_n 0, 1) := by decide +kernel
theorem d_FR_isAsked_15 : decode b_FR_isAsked 15 = .ok (.getfield 10, 3) := by decide +kernel
theorem d_FR_isAsked_18 : decode b_FR_isAsked 18 = .ok (.lload_n 3, 1) := by decide +kernel
theorem d_FR_isAsked_19 : decode b_FR_isAsked 19 = .ok (.invokevirtual 129, 3) := by decide +kernel
theorem d_FR_isAsked_22 : decode b_FR_isAsked 22 = .ok (.ifCond .eq 7, 3) := by decide +kernel
theorem d_FR_isAsked_25 : decode b_FR_isAsked 25 = .ok (.iconst 1, 1) := by decide +kernel
theorem d_FR_isAsked_26 : decode b_FR_isAsked 26 = .ok (.goto 4, 3) := by decide +kernel
theorem d_FR_isAsked_29 : decode b_FR_isAsked 29 = .ok (.iconst 0, 1) := by decide +kernel
theorem d_FR_isAsked_30 : decode b_FR_isAsked 30 = .ok (.ireturn, 1) := by decide +kernel
def B_FR_isAsked_0 (a1 : Int32) (a2 : Int32) (a3 : Int64) (σ : Sto) : Option (Bool × Sto) :=
  ((f_FR_isBit a1 σ).bind fun q1 => (if (b2i q1.1) = 0 then some (false, q1.2)
 else ((f_FR_isBit a2 q1.2).bind fun q2 => (if (b2i q2.1) = 0 then some (false, q2.2)
  else ((f_Net_spans 1 a3 q2.2).bind fun q3 => (if (b2i q3.1) = 0 then some (false, q3.2)
   else some (true, q3.2)))))))
set_option maxHeartbeats 4000000 in
set_option maxRecDepth 100000 in
theorem vB_FR_isAsked_0 {X : Xt} {E : En} (g : GG X E 3 b_FR_isAsked R_FR 5) (a1 : Int32) (a2 : Int32) (a3 : Int64) (σ : Sto) : VV X E b_FR_isAsked 5 eB 0 [(0, .ref (E.2.1 0)), (1, .int a1), (2, .int a2), (3, .long a3)] [] σ (B_FR_isAsked_0 a1 a2 a3 σ) := by
  unfold B_FR_isAsked_0
  refine v_iload_n 1 g d_FR_isAsked_0 rfl ?_
  refine v_callB (r_S (rest := []) [.int a1] g (m1 414 (by decide +kernel) (by decide +kernel)) ys_FR_isBit (fun r σ1 h => sp_FR_isBit g.2.2.1  h) rfl rfl (by decide) (Nat.le_of_ble_eq_true rfl) d_FR_isAsked_1) (fun q1 => ?_)
  refine v_if_eq 29 g d_FR_isAsked_4 (by decide) (fun _ => ?_) (fun _ => ?_)
  · refine v_iconst (v := (0 : Int32)) g d_FR_isAsked_29 (by decide +kernel) ?_
    exact v_ret d_FR_isAsked_30 rfl
  · refine v_iload_n 2 g d_FR_isAsked_7 rfl ?_
    refine v_callB (r_S (rest := []) [.int a2] g (m1 414 (by decide +kernel) (by decide +kernel)) ys_FR_isBit (fun r σ1 h => sp_FR_isBit g.2.2.1  h) rfl rfl (by decide) (Nat.le_of_ble_eq_true rfl) d_FR_isAsked_8) (fun q2 => ?_)
    refine v_if_eq 29 g d_FR_isAsked_11 (by decide) (fun _ => ?_) (fun _ => ?_)
    · refine v_iconst (v := (0 : Int32)) g d_FR_isAsked_29 (by decide +kernel) ?_
      exact v_ret d_FR_isAsked_30 rfl
    · refine v_aload_n 0 g d_FR_isAsked_14 rfl ?_
      refine v_getR 1 g ff_FR_10 rfl rfl rfl d_FR_isAsked_15 ?_
      refine v_lload_n 3 g d_FR_isAsked_18 rfl ?_
      refine v_callB (r_V (rest := []) [.long a3] g (m1 433 (by decide +kernel) (by decide +kernel)) yv_Net_spans rfl (fun r σ1 h => sp_Net_spans g.2.2.1 rfl h) rfl rfl (by decide) (Nat.le_of_ble_eq_true rfl) d_FR_isAsked_19) (fun q3 => ?_)
      refine v_if_eq 29 g d_FR_isAsked_22 (by decide) (fun _ => ?_) (fun _ => ?_)
      · refine v_iconst (v := (0 : Int32)) g d_FR_isAsked_29 (by decide +kernel) ?_
        exact v_ret d_FR_isAsked_30 rfl
      · refine v_iconst (v := (1 : Int32)) g d_FR_isAsked_25 (by decide +kernel) ?_
        refine v_goto 30 g d_FR_isAsked_26 (by decide) ?_
        exact v_ret d_FR_isAsked_30 rfl
def f_FR_isAsked (a1 : Int32) (a2 : Int32) (a3 : Int64) (σ : Sto) : Option (Bool × Sto) := B_FR_isAsked_0 a1 a2 a3 σ
theorem sp_FR_isAsked {l : Launch} {E : En} (hE : Dj E) {a1 : Int32} {a2 : Int32} {a3 : Int64} {σ : Sto} {r : Bool} {σ' : Sto} (h : f_FR_isAsked a1 a2 a3 σ = some (r, σ')) : Ct l E y_FR_isAsked (wsM y_FR_isAsked b_FR_isAsked 5 (some .boolean)) 3 [.ref (E.2.1 0), .int a1, .int a2, .long a3] σ (eB r) σ' :=
  ct_of hE (by decide +kernel) (Nat.le_of_ble_eq_true rfl) (fun b => Or.inr (Or.inl ⟨rfl, b, rfl⟩)) (fun X _ g => vB_FR_isAsked_0 g a1 a2 a3 σ) r σ' h
/-! method FittingRings.left(IIJ)J -/
theorem yv_FR_left : YV y_FR_left b_FR_left 7 (some .long) 3 9 := ⟨m1 526 (by decide +kernel) (by decide +kernel), m1 527 (by decide +kernel) (by decide +kernel), ini_FR, m1 528 (by decide +kernel) (by decide +kernel), ⟨by decide +kernel, by decide +kernel, by decide +kernel⟩, by decide, by decide, T_FR, 11, rfl⟩
theorem d_FR_left_0 : decode b_FR_left 0 = .ok (.aload_n 0, 1) := by decide +kernel
theorem d_FR_left_1 : decode b_FR_left 1 = .ok (.iload_n 1, 1) := by decide +kernel
theorem d_FR_left_2 : decode b_FR_left 2 = .ok (.iload_n 2, 1) := by decide +kernel
theorem d_FR_left_3 : decode b_FR_left 3 = .ok (.lload_n 3, 1) := by decide +kernel
theorem d_FR_left_4 : decode b_FR_left 4 = .ok (.invokevirtual 194, 3) := by decide +kernel
theorem d_FR_left_7 : decode b_FR_left 7 = .ok (.ifCond .ne 7, 3) := by decide +kernel
theorem d_FR_left_10 : decode b_FR_left 10 = .ok (.ldc2_w 146, 3) := by decide +kernel
theorem d_FR_left_13 : decode b_FR_left 13 = .ok (.lreturn, 1) := by decide +kernel
theorem d_FR_left_14 : decode b_FR_left 14 = .ok (.aload_n 0, 1) := by decide +kernel
theorem d_FR_left_15 : decode b_FR_left 15 = .ok (.getfield 31, 3) := by decide +kernel
theorem d_FR_left_18 : decode b_FR_left 18 = .ok (.iload_n 1, 1) := by decide +kernel
theorem d_FR_left_19 : decode b_FR_left 19 = .ok (.lload_n 3, 1) := by decide +kernel
theorem d_FR_left_20 : decode b_FR_left 20 = .ok (.invokevirtual 163, 3) := by decide +kernel
theorem d_FR_left_23 : decode b_FR_left 23 = .ok (.aload_n 0, 1) := by decide +kernel
theorem d_FR_left_24 : decode b_FR_left 24 = .ok (.getfield 10, 3) := by decide +kernel
theorem d_FR_left_27 : decode b_FR_left 27 = .ok (.iload_n 1, 1) := by decide +kernel
theorem d_FR_left_28 : decode b_FR_left 28 = .ok (.invokevirtual 190, 3) := by decide +kernel
theorem d_FR_left_31 : decode b_FR_left 31 = .ok (.lstore 5, 2) := by decide +kernel
theorem d_FR_left_33 : decode b_FR_left 33 = .ok (.aload_n 0, 1) := by decide +kernel
theorem d_FR_left_34 : decode b_FR_left 34 = .ok (.getfield 31, 3) := by decide +kernel
theorem d_FR_left_37 : decode b_FR_left 37 = .ok (.iload_n 1, 1) := by decide +kernel
theorem d_FR_left_38 : decode b_FR_left 38 = .ok (.iload_n 2, 1) := by decide +kernel
theorem d_FR_left_39 : decode b_FR_left 39 = .ok (.lload_n 3, 1) := by decide +kernel
theorem d_FR_left_40 : decode b_FR_left 40 = .ok (.aload_n 0, 1) := by decide +kernel
theorem d_FR_left_41 : decode b_FR_left 41 = .ok (.getfield 10, 3) := by decide +kernel
theorem d_FR_left_44 : decode b_FR_left 44 = .ok (.iload_n 2, 1) := by decide +kernel
theorem d_FR_left_45 : decode b_FR_left 45 = .ok (.lload 5, 2) := by decide +kernel
theorem d_FR_left_47 : decode b_FR_left 47 = .ok (.invokevirtual 152, 3) := by decide +kernel
theorem d_FR_left_50 : decode b_FR_left 50 = .ok (.invokevirtual 198, 3) := by decide +kernel
theorem d_FR_left_53 : decode b_FR_left 53 = .ok (.lreturn, 1) := by decide +kernel
def B_FR_left_0 (a1 : Int32) (a2 : Int32) (a3 : Int64) (σ : Sto) : Option (Int64 × Sto) :=
  ((f_FR_isAsked a1 a2 a3 σ).bind fun q1 => (if (b2i q1.1) = 0 then some ((-2 : Int64), q1.2)
 else ((f_Judge_ranked a1 a3 q1.2).bind fun q2 => ((f_Ranking_greedyRing 1 a1 q2.2).bind fun q3 => ((f_Net_worth 1 a2 q3.1 q3.2).bind fun q4 => ((f_Judge_withoutBare a1 a2 a3 q4.1 q4.2).bind fun q5 => some (q5.1, q5.2)))))))
set_option maxHeartbeats 4000000 in
set_option maxRecDepth 100000 in
theorem vB_FR_left_0 {X : Xt} {E : En} (g : GG X E 5 b_FR_left R_FR 7) (a1 : Int32) (a2 : Int32) (a3 : Int64) (σ : Sto) : VV X E b_FR_left 7 eL 0 [(0, .ref (E.2.1 0)), (1, .int a1), (2, .int a2), (3, .long a3)] [] σ (B_FR_left_0 a1 a2 a3 σ) := by
  unfold B_FR_left_0
  refine v_aload_n 0 g d_FR_left_0 rfl ?_
  refine v_iload_n 1 g d_FR_left_1 rfl ?_
  refine v_iload_n 2 g d_FR_left_2 rfl ?_
  refine v_lload_n 3 g d_FR_left_3 rfl ?_
  refine v_callB (r_V (rest := []) [.int a1, .int a2, .long a3] g (m1 529 (by decide +kernel) (by decide +kernel)) yv_FR_isAsked rfl (fun r σ1 h => sp_FR_isAsked g.2.2.1  h) rfl rfl (by decide) (Nat.le_of_ble_eq_true rfl) d_FR_left_4) (fun q1 => ?_)
  refine v_if_ne 14 g d_FR_left_7 (by decide) (fun _ => ?_) (fun _ => ?_)
  · refine v_aload_n 0 g d_FR_left_14 rfl ?_
    refine v_getR 16 g ff_FR_31 rfl rfl rfl d_FR_left_15 ?_
    refine v_iload_n 1 g d_FR_left_18 rfl ?_
    refine v_lload_n 3 g d_FR_left_19 rfl ?_
    refine v_callC (r_V (rest := []) [.int a1, .long a3] g (m1 486 (by decide +kernel) (by decide +kernel)) yv_Judge_ranked rfl (fun r σ1 h => sp_Judge_ranked g.2.2.1  h) rfl rfl (by decide) (Nat.le_of_ble_eq_true rfl) d_FR_left_20) (fun q2 => ?_)
    refine v_aload_n 0 g d_FR_left_23 rfl ?_
    refine v_getR 1 g ff_FR_10 rfl rfl rfl d_FR_left_24 ?_
    refine v_iload_n 1 g d_FR_left_27 rfl ?_
    refine v_callL (r_V (rest := []) [.ref (E.2.1 1), .int a1] g (m1 521 (by decide +kernel) (by decide +kernel)) yv_Ranking_greedyRing rfl (fun r σ1 h => sp_Ranking_greedyRing g.2.2.1 rfl h) rfl rfl (by decide) (Nat.le_of_ble_eq_true rfl) d_FR_left_28) (fun q3 => ?_)
    refine v_lstore [(5, .long q3.1), (0, .ref (E.2.1 0)), (1, .int a1), (2, .int a2), (3, .long a3)] g d_FR_left_31 (by decide) rfl ?_
    refine v_aload_n 1 g d_FR_left_33 rfl ?_
    refine v_getR 16 g ff_FR_31 rfl rfl rfl d_FR_left_34 ?_
    refine v_iload_n 2 g d_FR_left_37 rfl ?_
    refine v_iload_n 3 g d_FR_left_38 rfl ?_
    refine v_lload_n 4 g d_FR_left_39 rfl ?_
    refine v_aload_n 1 g d_FR_left_40 rfl ?_
    refine v_getR 1 g ff_FR_10 rfl rfl rfl d_FR_left_41 ?_
    refine v_iload_n 3 g d_FR_left_44 rfl ?_
    refine v_lload 0 g d_FR_left_45 rfl ?_
    refine v_callI (r_V (rest := [.long a3, .int a2, .int a1, .ref (E.2.1 16)]) [.int a2, .long q3.1] g (m1 465 (by decide +kernel) (by decide +kernel)) yv_Net_worth rfl (fun r σ1 h => sp_Net_worth g.2.2.1 rfl h) rfl rfl (by decide) (Nat.le_of_ble_eq_true rfl) d_FR_left_47) (fun q4 => ?_)
    refine v_callL (r_V (rest := []) [.int a1, .int a2, .long a3, .int q4.1] g (m1 533 (by decide +kernel) (by decide +kernel)) yv_Judge_withoutBare rfl (fun r σ1 h => sp_Judge_withoutBare g.2.2.1  h) rfl rfl (by decide) (Nat.le_of_ble_eq_true rfl) d_FR_left_50) (fun q5 => ?_)
    exact v_ret d_FR_left_53 rfl
  · refine v_ldc2 (v := (-2 : Int64)) g (m1 456 (by decide +kernel) (by decide +kernel)) d_FR_left_10 ?_
    exact v_ret d_FR_left_13 rfl
def f_FR_left (a1 : Int32) (a2 : Int32) (a3 : Int64) (σ : Sto) : Option (Int64 × Sto) := B_FR_left_0 a1 a2 a3 σ
theorem sp_FR_left {l : Launch} {E : En} (hE : Dj E) {a1 : Int32} {a2 : Int32} {a3 : Int64} {σ : Sto} {r : Int64} {σ' : Sto} (h : f_FR_left a1 a2 a3 σ = some (r, σ')) : Ct l E y_FR_left (wsM y_FR_left b_FR_left 7 (some .long)) 5 [.ref (E.2.1 0), .int a1, .int a2, .long a3] σ (eL r) σ' :=
  ct_of hE (by decide +kernel) (Nat.le_of_ble_eq_true rfl) (fun x => Or.inr (Or.inr (Or.inl ⟨rfl, x, rfl⟩))) (fun X _ g => vB_FR_left_0 g a1 a2 a3 σ) r σ' h
/-! method FittingRings.bound(IIIJ)I -/
theorem yv_FR_bound : YV y_FR_bound b_FR_bound 6 (some .int) 4 9 := ⟨m1 542 (by decide +kernel) (by decide +kernel), m1 543 (by decide +kernel) (by decide +kernel), ini_FR, m1 544 (by decide +kernel) (by decide +kernel), ⟨by decide +kernel, by decide +kernel, by decide +kernel⟩, by decide, by decide, T_FR, 11, rfl⟩
theorem d_FR_bound_0 : decode b_FR_bound 0 = .ok (.iload_n 1, 1) := by decide +kernel
theorem d_FR_bound_1 : decode b_FR_bound 1 = .ok (.i2l, 1) := by decide +kernel
theorem d_FR_bound_2 : decode b_FR_bound 2 = .ok (.invokestatic 202, 3) := by decide +kernel
theorem d_FR_bound_5 : decode b_FR_bound 5 = .ok (.ifCond .eq 14, 3) := by decide +kernel
theorem d_FR_bound_8 : decode b_FR_bound 8 = .ok (.aload_n 0, 1) := by decide +kernel
theorem d_FR_bound_9 : decode b_FR_bound 9 = .ok (.iload_n 2, 1) := by decide +kernel
theorem d_FR_bound_10 : decode b_FR_bound 10 = .ok (.iload_n 3, 1) := by decide +kernel
theorem d_FR_bound_11 : decode b_FR_bound 11 = .ok (.lload 4, 2) := by decide +kernel
theorem d_FR_bound_13 : decode b_FR_bound 13 = .ok (.invokevirtual 194, 3) := by decide +kernel
theorem d_FR_bound_16 : decode b_FR_bound 16 = .ok (.ifCond .ne 6, 3) := by decide +kernel
theorem d_FR_bound_19 : decode b_FR_bound 19 = .ok (.bipush (-2), 2) := by decide +kernel
theorem d_FR_bound_21 : decode b_FR_bound 21 = .ok (.ireturn, 1) := by decide +kernel
theorem d_FR_bound_22 : decode b_FR_bound 22 = .ok (.aload_n 0, 1) := by decide +kernel
theorem d_FR_bound_23 : decode b_FR_bound 23 = .ok (.getfield 31, 3) := by decide +kernel
theorem d_FR_bound_26 : decode b_FR_bound 26 = .ok (.iload_n 1, 1) := by decide +kernel
theorem d_FR_bound_27 : decode b_FR_bound 27 = .ok (.iload_n 2, 1) := by decide +kernel
theorem d_FR_bound_28 : decode b_FR_bound 28 = .ok (.iload_n 3, 1) := by decide +kernel
theorem d_FR_bound_29 : decode b_FR_bound 29 = .ok (.lload 4, 2) := by decide +kernel
theorem d_FR_bound_31 : decode b_FR_bound 31 = .ok (.invokevirtual 205, 3) := by decide +kernel
theorem d_FR_bound_34 : decode b_FR_bound 34 = .ok (.ireturn, 1) := by decide +kernel
def B_FR_bound_0 (a1 : Int32) (a2 : Int32) (a3 : Int32) (a4 : Int64) (σ : Sto) : Option (Int32 × Sto) :=
  ((f_FR_isRule (Int32.toInt64 a1) σ).bind fun q1 => (if (b2i q1.1) = 0 then some ((-2 : Int32), q1.2)
 else ((f_FR_isAsked a2 a3 a4 q1.2).bind fun q2 => (if (b2i q2.1) = 0 then some ((-2 : Int32), q2.2)
  else ((f_Judge_most a1 a2 a3 a4 q2.2).bind fun q3 => some (q3.1, q3.2))))))
set_option maxHeartbeats 4000000 in
set_option maxRecDepth 100000 in
theorem vB_FR_bound_0 {X : Xt} {E : En} (g : GG X E 6 b_FR_bound R_FR 6) (a1 : Int32) (a2 : Int32) (a3 : Int32) (a4 : Int64) (σ : Sto) : VV X E b_FR_bound 6 eI 0 [(0, .ref (E.2.1 0)), (1, .int a1), (2, .int a2), (3, .int a3), (4, .long a4)] [] σ (B_FR_bound_0 a1 a2 a3 a4 σ) := by
  unfold B_FR_bound_0
  refine v_iload_n 1 g d_FR_bound_0 rfl ?_
  refine v_i2l g d_FR_bound_1 ?_
  refine v_callB (r_S (rest := []) [.long (Int32.toInt64 a1)] g (m1 545 (by decide +kernel) (by decide +kernel)) ys_FR_isRule (fun r σ1 h => sp_FR_isRule g.2.2.1  h) rfl rfl (by decide) (Nat.le_of_ble_eq_true rfl) d_FR_bound_2) (fun q1 => ?_)
  refine v_if_eq 19 g d_FR_bound_5 (by decide) (fun _ => ?_) (fun _ => ?_)
  · refine v_bipush (v := (-2 : Int32)) g d_FR_bound_19 (by decide +kernel) ?_
    exact v_ret d_FR_bound_21 rfl
  · refine v_aload_n 0 g d_FR_bound_8 rfl ?_
    refine v_iload_n 2 g d_FR_bound_9 rfl ?_
    refine v_iload_n 3 g d_FR_bound_10 rfl ?_
    refine v_lload 4 g d_FR_bound_11 rfl ?_
    refine v_callB (r_V (rest := []) [.int a2, .int a3, .long a4] g (m1 529 (by decide +kernel) (by decide +kernel)) yv_FR_isAsked rfl (fun r σ1 h => sp_FR_isAsked g.2.2.1  h) rfl rfl (by decide) (Nat.le_of_ble_eq_true rfl) d_FR_bound_13) (fun q2 => ?_)
    refine v_if_ne 22 g d_FR_bound_16 (by decide) (fun _ => ?_) (fun _ => ?_)
    · refine v_aload_n 0 g d_FR_bound_22 rfl ?_
      refine v_getR 16 g ff_FR_31 rfl rfl rfl d_FR_bound_23 ?_
      refine v_iload_n 1 g d_FR_bound_26 rfl ?_
      refine v_iload_n 2 g d_FR_bound_27 rfl ?_
      refine v_iload_n 3 g d_FR_bound_28 rfl ?_
      refine v_lload 4 g d_FR_bound_29 rfl ?_
      refine v_callI (r_V (rest := []) [.int a1, .int a2, .int a3, .long a4] g (m1 549 (by decide +kernel) (by decide +kernel)) yv_Judge_most rfl (fun r σ1 h => sp_Judge_most g.2.2.1  h) rfl rfl (by decide) (Nat.le_of_ble_eq_true rfl) d_FR_bound_31) (fun q3 => ?_)
      exact v_ret d_FR_bound_34 rfl
    · refine v_bipush (v := (-2 : Int32)) g d_FR_bound_19 (by decide +kernel) ?_
      exact v_ret d_FR_bound_21 rfl
def f_FR_bound (a1 : Int32) (a2 : Int32) (a3 : Int32) (a4 : Int64) (σ : Sto) : Option (Int32 × Sto) := B_FR_bound_0 a1 a2 a3 a4 σ
theorem sp_FR_bound {l : Launch} {E : En} (hE : Dj E) {a1 : Int32} {a2 : Int32} {a3 : Int32} {a4 : Int64} {σ : Sto} {r : Int32} {σ' : Sto} (h : f_FR_bound a1 a2 a3 a4 σ = some (r, σ')) : Ct l E y_FR_bound (wsM y_FR_bound b_FR_bound 6 (some .int)) 6 [.ref (E.2.1 0), .int a1, .int a2, .int a3, .long a4] σ (eI r) σ' :=
  ct_of hE (by decide +kernel) (Nat.le_of_ble_eq_true rfl) (fun x => Or.inl ⟨rfl, x, rfl⟩) (fun X _ g => vB_FR_bound_0 g a1 a2 a3 a4 σ) r σ' h
/-! method FittingRings.core(IIJ)J -/
theorem yv_FR_core : YV y_FR_core b_FR_core 5 (some .long) 3 9 := ⟨m1 577 (by decide +kernel) (by decide +kernel), m1 578 (by decide +kernel) (by decide +kernel), ini_FR, m1 579 (by decide +kernel) (by decide +kernel), ⟨by decide +kernel, by decide +kernel, by decide +kernel⟩, by decide, by decide, T_FR, 11, rfl⟩
theorem d_FR_core_0 : decode b_FR_core 0 = .ok (.aload_n 0, 1) := by decide +kernel
theorem d_FR_core_1 : decode b_FR_core 1 = .ok (.iload_n 1, 1) := by decide +kernel
theorem d_FR_core_2 : decode b_FR_core 2 = .ok (.lload_n 3, 1) := by decide +kernel
theorem d_FR_core_3 : decode b_FR_core 3 = .ok (.invokevirtual 156, 3) := by decide +kernel
theorem d_FR_core_6 : decode b_FR_core 6 = .ok (.ifCond .eq 13, 3) := by decide +kernel
theorem d_FR_core_9 : decode b_FR_core 9 = .ok (.iload_n 2, 1) := by decide +kernel
theorem d_FR_core_10 : decode b_FR_core 10 = .ok (.ifCond .lt 9, 3) := by decide +kernel
theorem d_FR_core_13 : decode b_FR_core 13 = .ok (.iload_n 2, 1) := by decide +kernel
theorem d_FR_core_14 : decode b_FR_core 14 = .ok (.bipush 40, 2) := by decide +kernel
theorem d_FR_core_16 : decode b_FR_core 16 = .ok (.if_icmp .lt 7, 3) := by decide +kernel
theorem d_FR_core_19 : decode b_FR_core 19 = .ok (.ldc2_w 146, 3) := by decide +kernel
theorem d_FR_core_22 : decode b_FR_core 22 = .ok (.lreturn, 1) := by decide +kernel
theorem d_FR_core_23 : decode b_FR_core 23 = .ok (.aload_n 0, 1) := by decide +kernel
theorem d_FR_core_24 : decode b_FR_core 24 = .ok (.getfield 31, 3) := by decide +kernel
theorem d_FR_core_27 : decode b_FR_core 27 = .ok (.iload_n 1, 1) := by decide +kernel
theorem d_FR_core_28 : decode b_FR_core 28 = .ok (.iconst 0, 1) := by decide +kernel
theorem d_FR_core_29 : decode b_FR_core 29 = .ok (.lload_n 3, 1) := by decide +kernel
theorem d_FR_core_30 : decode b_FR_core 30 = .ok (.iload_n 2, 1) := by decide +kernel
theorem d_FR_core_31 : decode b_FR_core 31 = .ok (.invokevirtual 198, 3) := by decide +kernel
theorem d_FR_core_34 : decode b_FR_core 34 = .ok (.lreturn, 1) := by decide +kernel
def B_FR_core_0 (a1 : Int32) (a2 : Int32) (a3 : Int64) (σ : Sto) : Option (Int64 × Sto) :=
  ((f_FR_isSideAndSet a1 a3 σ).bind fun q1 => (if (b2i q1.1) = 0 then some ((-2 : Int64), q1.2)
 else (if a2 < 0 then some ((-2 : Int64), q1.2)
  else (if a2 < (40 : Int32) then ((f_Judge_withoutBare a1 (0 : Int32) a3 a2 q1.2).bind fun q2 => some (q2.1, q2.2))
   else some ((-2 : Int64), q1.2)))))
set_option maxHeartbeats 4000000 in
set_option maxRecDepth 100000 in
theorem vB_FR_core_0 {X : Xt} {E : En} (g : GG X E 4 b_FR_core R_FR 5) (a1 : Int32) (a2 : Int32) (a3 : Int64) (σ : Sto) : VV X E b_FR_core 5 eL 0 [(0, .ref (E.2.1 0)), (1, .int a1), (2, .int a2), (3, .long a3)] [] σ (B_FR_core_0 a1 a2 a3 σ) := by
  unfold B_FR_core_0
  refine v_aload_n 0 g d_FR_core_0 rfl ?_
  refine v_iload_n 1 g d_FR_core_1 rfl ?_
  refine v_lload_n 3 g d_FR_core_2 rfl ?_
  refine v_callB (r_V (rest := []) [.int a1, .long a3] g (m1 473 (by decide +kernel) (by decide +kernel)) yv_FR_isSideAndSet rfl (fun r σ1 h => sp_FR_isSideAndSet g.2.2.1  h) rfl rfl (by decide) (Nat.le_of_ble_eq_true rfl) d_FR_core_3) (fun q1 => ?_)
  refine v_if_eq 19 g d_FR_core_6 (by decide) (fun _ => ?_) (fun _ => ?_)
  · refine v_ldc2 (v := (-2 : Int64)) g (m1 456 (by decide +kernel) (by decide +kernel)) d_FR_core_19 ?_
    exact v_ret d_FR_core_22 rfl
  · refine v_iload_n 2 g d_FR_core_9 rfl ?_
    refine v_if_lt 19 g d_FR_core_10 (by decide) (fun _ => ?_) (fun _ => ?_)
    · refine v_ldc2 (v := (-2 : Int64)) g (m1 456 (by decide +kernel) (by decide +kernel)) d_FR_core_19 ?_
      exact v_ret d_FR_core_22 rfl
    · refine v_iload_n 2 g d_FR_core_13 rfl ?_
      refine v_bipush (v := (40 : Int32)) g d_FR_core_14 (by decide +kernel) ?_
      refine v_icmp_lt 23 g d_FR_core_16 (by decide) (fun _ => ?_) (fun _ => ?_)
      · refine v_aload_n 0 g d_FR_core_23 rfl ?_
        refine v_getR 16 g ff_FR_31 rfl rfl rfl d_FR_core_24 ?_
        refine v_iload_n 1 g d_FR_core_27 rfl ?_
        refine v_iconst (v := (0 : Int32)) g d_FR_core_28 (by decide +kernel) ?_
        refine v_lload_n 3 g d_FR_core_29 rfl ?_
        refine v_iload_n 2 g d_FR_core_30 rfl ?_
        refine v_callL (r_V (rest := []) [.int a1, .int (0 : Int32), .long a3, .int a2] g (m1 533 (by decide +kernel) (by decide +kernel)) yv_Judge_withoutBare rfl (fun r σ1 h => sp_Judge_withoutBare g.2.2.1  h) rfl rfl (by decide) (Nat.le_of_ble_eq_true rfl) d_FR_core_31) (fun q2 => ?_)
        exact v_ret d_FR_core_34 rfl
      · refine v_ldc2 (v := (-2 : Int64)) g (m1 456 (by decide +kernel) (by decide +kernel)) d_FR_core_19 ?_
        exact v_ret d_FR_core_22 rfl
def f_FR_core (a1 : Int32) (a2 : Int32) (a3 : Int64) (σ : Sto) : Option (Int64 × Sto) := B_FR_core_0 a1 a2 a3 σ
theorem sp_FR_core {l : Launch} {E : En} (hE : Dj E) {a1 : Int32} {a2 : Int32} {a3 : Int64} {σ : Sto} {r : Int64} {σ' : Sto} (h : f_FR_core a1 a2 a3 σ = some (r, σ')) : Ct l E y_FR_core (wsM y_FR_core b_FR_core 5 (some .long)) 4 [.ref (E.2.1 0), .int a1, .int a2, .long a3] σ (eL r) σ' :=
  ct_of hE (by decide +kernel) (Nat.le_of_ble_eq_true rfl) (fun x => Or.inr (Or.inr (Or.inl ⟨rfl, x, rfl⟩))) (fun X _ g => vB_FR_core_0 g a1 a2 a3 σ) r σ' h
/-! method FittingRings.greatest(IIJ)J -/
theorem yv_FR_greatest : YV y_FR_greatest b_FR_greatest 5 (some .long) 3 9 := ⟨m1 581 (by decide +kernel) (by decide +kernel), m1 582 (by decide +kernel) (by decide +kernel), ini_FR, m1 583 (by decide +kernel) (by decide +kernel), ⟨by decide +kernel, by decide +kernel, by decide +kernel⟩, by decide, by decide, T_FR, 11, rfl⟩
theorem d_FR_greatest_0 : decode b_FR_greatest 0 = .ok (.aload_n 0, 1) := by decide +kernel
theorem d_FR_greatest_1 : decode b_FR_greatest 1 = .ok (.iload_n 1, 1) := by decide +kernel
theorem d_FR_greatest_2 : decode b_FR_greatest 2 = .ok (.iload_n 2, 1) := by decide +kernel
theorem d_FR_greatest_3 : decode b_FR_greatest 3 = .ok (.lload_n 3, 1) := by decide +kernel
theorem d_FR_greatest_4 : decode b_FR_greatest 4 = .ok (.invokevirtual 194, 3) := by decide +kernel
theorem d_FR_greatest_7 : decode b_FR_greatest 7 = .ok (.ifCond .ne 7, 3) := by decide +kernel
theorem d_FR_greatest_10 : decode b_FR_greatest 10 = .ok (.ldc2_w 146, 3) := by decide +kernel
theorem d_FR_greatest_13 : decode b_FR_greatest 13 = .ok (.lreturn, 1) := by decide +kernel
theorem d_FR_greatest_14 : decode b_FR_greatest 14 = .ok (.lload_n 3, 1) := by decide +kernel
theorem d_FR_greatest_15 : decode b_FR_greatest 15 = .ok (.invokestatic 108, 3) := by decide +kernel
theorem d_FR_greatest_18 : decode b_FR_greatest 18 = .ok (.bipush 16, 2) := by decide +kernel
theorem d_FR_greatest_20 : decode b_FR_greatest 20 = .ok (.if_icmp .le 7, 3) := by decide +kernel
theorem d_FR_greatest_23 : decode b_FR_greatest 23 = .ok (.ldc2_w 209, 3) := by decide +kernel
theorem d_FR_greatest_26 : decode b_FR_greatest 26 = .ok (.lreturn, 1) := by decide +kernel
theorem d_FR_greatest_27 : decode b_FR_greatest 27 = .ok (.aload_n 0, 1) := by decide +kernel
theorem d_FR_greatest_28 : decode b_FR_greatest 28 = .ok (.getfield 47, 3) := by decide +kernel
theorem d_FR_greatest_31 : decode b_FR_greatest 31 = .ok (.aload_n 0, 1) := by decide +kernel
theorem d_FR_greatest_32 : decode b_FR_greatest 32 = .ok (.getfield 10, 3) := by decide +kernel
theorem d_FR_greatest_35 : decode b_FR_greatest 35 = .ok (.iload_n 1, 1) := by decide +kernel
theorem d_FR_greatest_36 : decode b_FR_greatest 36 = .ok (.lload_n 3, 1) := by decide +kernel
theorem d_FR_greatest_37 : decode b_FR_greatest 37 = .ok (.invokevirtual 211, 3) := by decide +kernel
theorem d_FR_greatest_40 : decode b_FR_greatest 40 = .ok (.aload_n 0, 1) := by decide +kernel
theorem d_FR_greatest_41 : decode b_FR_greatest 41 = .ok (.getfield 47, 3) := by decide +kernel
theorem d_FR_greatest_44 : decode b_FR_greatest 44 = .ok (.iload_n 2, 1) := by decide +kernel
theorem d_FR_greatest_45 : decode b_FR_greatest 45 = .ok (.aload_n 0, 1) := by decide +kernel
theorem d_FR_greatest_46 : decode b_FR_greatest 46 = .ok (.getfield 47, 3) := by decide +kernel
theorem d_FR_greatest_49 : decode b_FR_greatest 49 = .ok (.iload_n 2, 1) := by decide +kernel
theorem d_FR_greatest_50 : decode b_FR_greatest 50 = .ok (.invokevirtual 215, 3) := by decide +kernel
theorem d_FR_greatest_53 : decode b_FR_greatest 53 = .ok (.invokevirtual 218, 3) := by decide +kernel
theorem d_FR_greatest_56 : decode b_FR_greatest 56 = .ok (.lreturn, 1) := by decide +kernel
def B_FR_greatest_0 (a1 : Int32) (a2 : Int32) (a3 : Int64) (σ : Sto) : Option (Int64 × Sto) :=
  ((f_FR_isAsked a1 a2 a3 σ).bind fun q1 => (if (b2i q1.1) = 0 then some ((-2 : Int64), q1.2)
 else ((f_JLong_bitCount a3 q1.2).bind fun q2 => (if q2.1 ≤ (16 : Int32) then ((f_Finder_gather 1 a1 a3 q2.2).bind fun q3 => ((f_Finder_mostWorth a2 q3.2).bind fun q4 => ((f_Finder_firstOf a2 q4.1 q4.2).bind fun q5 => some (q5.1, q5.2))))
  else some ((-5 : Int64), q2.2)))))
set_option maxHeartbeats 4000000 in
set_option maxRecDepth 100000 in
theorem vB_FR_greatest_0 {X : Xt} {E : En} (g : GG X E 70 b_FR_greatest R_FR 5) (a1 : Int32) (a2 : Int32) (a3 : Int64) (σ : Sto) : VV X E b_FR_greatest 5 eL 0 [(0, .ref (E.2.1 0)), (1, .int a1), (2, .int a2), (3, .long a3)] [] σ (B_FR_greatest_0 a1 a2 a3 σ) := by
  unfold B_FR_greatest_0
  refine v_aload_n 0 g d_FR_greatest_0 rfl ?_
  refine v_iload_n 1 g d_FR_greatest_1 rfl ?_
  refine v_iload_n 2 g d_FR_greatest_2 rfl ?_
  refine v_lload_n 3 g d_FR_greatest_3 rfl ?_
  refine v_callB (r_V (rest := []) [.int a1, .int a2, .long a3] g (m1 529 (by decide +kernel) (by decide +kernel)) yv_FR_isAsked rfl (fun r σ1 h => sp_FR_isAsked g.2.2.1  h) rfl rfl (by decide) (Nat.le_of_ble_eq_true rfl) d_FR_greatest_4) (fun q1 => ?_)
  refine v_if_ne 14 g d_FR_greatest_7 (by decide) (fun _ => ?_) (fun _ => ?_)
  · refine v_lload_n 3 g d_FR_greatest_14 rfl ?_
    refine v_callI (r_S (rest := []) [.long a3] g (m1 400 (by decide +kernel) (by decide +kernel)) ys_JLong_bitCount (fun r σ1 h => sp_JLong_bitCount g.2.2.1  h) rfl rfl (by decide) (Nat.le_of_ble_eq_true rfl) d_FR_greatest_15) (fun q2 => ?_)
    refine v_bipush (v := (16 : Int32)) g d_FR_greatest_18 (by decide +kernel) ?_
    refine v_icmp_le 27 g d_FR_greatest_20 (by decide) (fun _ => ?_) (fun _ => ?_)
    · refine v_aload_n 0 g d_FR_greatest_27 rfl ?_
      refine v_getR 26 g ff_FR_47 rfl rfl rfl d_FR_greatest_28 ?_
      refine v_aload_n 0 g d_FR_greatest_31 rfl ?_
      refine v_getR 1 g ff_FR_10 rfl rfl rfl d_FR_greatest_32 ?_
      refine v_iload_n 1 g d_FR_greatest_35 rfl ?_
      refine v_lload_n 3 g d_FR_greatest_36 rfl ?_
      refine v_callU (r_V (rest := []) [.ref (E.2.1 1), .int a1, .long a3] g (m1 585 (by decide +kernel) (by decide +kernel)) yv_Finder_gather rfl (fun r σ1 h => sp_Finder_gather g.2.2.1 rfl h) rfl rfl (by decide) (Nat.le_of_ble_eq_true rfl) d_FR_greatest_37) (fun q3 => ?_)
      refine v_aload_n 0 g d_FR_greatest_40 rfl ?_
      refine v_getR 26 g ff_FR_47 rfl rfl rfl d_FR_greatest_41 ?_
      refine v_iload_n 2 g d_FR_greatest_44 rfl ?_
      refine v_aload_n 0 g d_FR_greatest_45 rfl ?_
      refine v_getR 26 g ff_FR_47 rfl rfl rfl d_FR_greatest_46 ?_
      refine v_iload_n 2 g d_FR_greatest_49 rfl ?_
      refine v_callI (r_V (rest := [.int a2, .ref (E.2.1 26)]) [.int a2] g (m1 604 (by decide +kernel) (by decide +kernel)) yv_Finder_mostWorth rfl (fun r σ1 h => sp_Finder_mostWorth g.2.2.1  h) rfl rfl (by decide) (Nat.le_of_ble_eq_true rfl) d_FR_greatest_50) (fun q4 => ?_)
      refine v_callL (r_V (rest := []) [.int a2, .int q4.1] g (m1 610 (by decide +kernel) (by decide +kernel)) yv_Finder_firstOf rfl (fun r σ1 h => sp_Finder_firstOf g.2.2.1  h) rfl rfl (by decide) (Nat.le_of_ble_eq_true rfl) d_FR_greatest_53) (fun q5 => ?_)
      exact v_ret d_FR_greatest_56 rfl
    · refine v_ldc2 (v := (-5 : Int64)) g (m1 584 (by decide +kernel) (by decide +kernel)) d_FR_greatest_23 ?_
      exact v_ret d_FR_greatest_26 rfl
  · refine v_ldc2 (v := (-2 : Int64)) g (m1 456 (by decide +kernel) (by decide +kernel)) d_FR_greatest_10 ?_
    exact v_ret d_FR_greatest_13 rfl
def f_FR_greatest (a1 : Int32) (a2 : Int32) (a3 : Int64) (σ : Sto) : Option (Int64 × Sto) := B_FR_greatest_0 a1 a2 a3 σ
theorem sp_FR_greatest {l : Launch} {E : En} (hE : Dj E) {a1 : Int32} {a2 : Int32} {a3 : Int64} {σ : Sto} {r : Int64} {σ' : Sto} (h : f_FR_greatest a1 a2 a3 σ = some (r, σ')) : Ct l E y_FR_greatest (wsM y_FR_greatest b_FR_greatest 5 (some .long)) 70 [.ref (E.2.1 0), .int a1, .int a2, .long a3] σ (eL r) σ' :=
  ct_of hE (by decide +kernel) (Nat.le_of_ble_eq_true rfl) (fun x => Or.inr (Or.inr (Or.inl ⟨rfl, x, rfl⟩))) (fun X _ g => vB_FR_greatest_0 g a1 a2 a3 σ) r σ' h
/-! method FittingRings.grown(IJI)J -/
theorem yv_FR_grown : YV y_FR_grown b_FR_grown 5 (some .long) 3 9 := ⟨m1 615 (by decide +kernel) (by decide +kernel), m1 616 (by decide +kernel) (by decide +kernel), ini_FR, m1 617 (by decide +kernel) (by decide +kernel), ⟨by decide +kernel, by decide +kernel, by decide +kernel⟩, by decide, by decide, T_FR, 11, rfl⟩
theorem d_FR_grown_0 : decode b_FR_grown 0 = .ok (.aload_n 0, 1) := by decide +kernel
theorem d_FR_grown_1 : decode b_FR_grown 1 = .ok (.iload_n 1, 1) := by decide +kernel
theorem d_FR_grown_2 : decode b_FR_grown 2 = .ok (.lload_n 2, 1) := by decide +kernel
theorem d_FR_grown_3 : decode b_FR_grown 3 = .ok (.invokevirtual 156, 3) := by decide +kernel
theorem d_FR_grown_6 : decode b_FR_grown 6 = .ok (.ifCond .ne 7, 3) := by decide +kernel
theorem d_FR_grown_9 : decode b_FR_grown 9 = .ok (.ldc2_w 146, 3) := by decide +kernel
theorem d_FR_grown_12 : decode b_FR_grown 12 = .ok (.lreturn, 1) := by decide +kernel
theorem d_FR_grown_13 : decode b_FR_grown 13 = .ok (.lload_n 2, 1) := by decide +kernel
theorem d_FR_grown_14 : decode b_FR_grown 14 = .ok (.invokestatic 108, 3) := by decide +kernel
theorem d_FR_grown_17 : decode b_FR_grown 17 = .ok (.bipush 16, 2) := by decide +kernel
theorem d_FR_grown_19 : decode b_FR_grown 19 = .ok (.if_icmp .le 7, 3) := by decide +kernel
theorem d_FR_grown_22 : decode b_FR_grown 22 = .ok (.ldc2_w 209, 3) := by decide +kernel
theorem d_FR_grown_25 : decode b_FR_grown 25 = .ok (.lreturn, 1) := by decide +kernel
theorem d_FR_grown_26 : decode b_FR_grown 26 = .ok (.aload_n 0, 1) := by decide +kernel
theorem d_FR_grown_27 : decode b_FR_grown 27 = .ok (.getfield 47, 3) := by decide +kernel
theorem d_FR_grown_30 : decode b_FR_grown 30 = .ok (.aload_n 0, 1) := by decide +kernel
theorem d_FR_grown_31 : decode b_FR_grown 31 = .ok (.getfield 10, 3) := by decide +kernel
theorem d_FR_grown_34 : decode b_FR_grown 34 = .ok (.iload_n 1, 1) := by decide +kernel
theorem d_FR_grown_35 : decode b_FR_grown 35 = .ok (.lload_n 2, 1) := by decide +kernel
theorem d_FR_grown_36 : decode b_FR_grown 36 = .ok (.invokevirtual 211, 3) := by decide +kernel
theorem d_FR_grown_39 : decode b_FR_grown 39 = .ok (.iload 4, 2) := by decide +kernel
theorem d_FR_grown_41 : decode b_FR_grown 41 = .ok (.iconst (-1), 1) := by decide +kernel
theorem d_FR_grown_42 : decode b_FR_grown 42 = .ok (.if_icmp .ne 12, 3) := by decide +kernel
theorem d_FR_grown_45 : decode b_FR_grown 45 = .ok (.aload_n 0, 1) := by decide +kernel
theorem d_FR_grown_46 : decode b_FR_grown 46 = .ok (.getfield 47, 3) := by decide +kernel
theorem d_FR_grown_49 : decode b_FR_grown 49 = .ok (.getfield 222, 3) := by decide +kernel
theorem d_FR_grown_52 : decode b_FR_grown 52 = .ok (.i2l, 1) := by decide +kernel
theorem d_FR_grown_53 : decode b_FR_grown 53 = .ok (.lreturn, 1) := by decide +kernel
theorem d_FR_grown_54 : decode b_FR_grown 54 = .ok (.iload 4, 2) := by decide +kernel
theorem d_FR_grown_56 : decode b_FR_grown 56 = .ok (.ifCond .lt 28, 3) := by decide +kernel
theorem d_FR_grown_59 : decode b_FR_grown 59 = .ok (.iload 4, 2) := by decide +kernel
theorem d_FR_grown_61 : decode b_FR_grown 61 = .ok (.aload_n 0, 1) := by decide +kernel
theorem d_FR_grown_62 : decode b_FR_grown 62 = .ok (.getfield 47, 3) := by decide +kernel
theorem d_FR_grown_65 : decode b_FR_grown 65 = .ok (.getfield 222, 3) := by decide +kernel
theorem d_FR_grown_68 : decode b_FR_grown 68 = .ok (.if_icmp .ge 16, 3) := by decide +kernel
theorem d_FR_grown_71 : decode b_FR_grown 71 = .ok (.aload_n 0, 1) := by decide +kernel
theorem d_FR_grown_72 : decode b_FR_grown 72 = .ok (.getfield 47, 3) := by decide +kernel
theorem d_FR_grown_75 : decode b_FR_grown 75 = .ok (.getfield 225, 3) := by decide +kernel
theorem d_FR_grown_78 : decode b_FR_grown 78 = .ok (.iload 4, 2) := by decide +kernel
theorem d_FR_grown_80 : decode b_FR_grown 80 = .ok (.laload, 1) := by decide +kernel
theorem d_FR_grown_81 : decode b_FR_grown 81 = .ok (.goto 6, 3) := by decide +kernel
theorem d_FR_grown_84 : decode b_FR_grown 84 = .ok (.ldc2_w 188, 3) := by decide +kernel
theorem d_FR_grown_87 : decode b_FR_grown 87 = .ok (.lreturn, 1) := by decide +kernel
def B_FR_grown_0 (a1 : Int32) (a2 : Int64) (a4 : Int32) (σ : Sto) : Option (Int64 × Sto) :=
  ((f_FR_isSideAndSet a1 a2 σ).bind fun q1 => (if (b2i q1.1) = 0 then some ((-2 : Int64), q1.2)
 else ((f_JLong_bitCount a2 q1.2).bind fun q2 => (if q2.1 ≤ (16 : Int32) then ((f_Finder_gather 1 a1 a2 q2.2).bind fun q3 => (if a4 = (-1 : Int32) then some ((Int32.toInt64 (gI q3.2 26 1)), q3.2)
   else (if a4 < 0 then some ((-12 : Int64), q3.2)
    else (if (gI q3.2 26 1) ≤ a4 then some ((-12 : Int64), q3.2)
     else (if inb a4 324 = true then some ((gL q3.2 27 (Int32.toNatClampNeg a4)), q3.2) else none)))))
  else some ((-5 : Int64), q2.2)))))
set_option maxHeartbeats 4000000 in
set_option maxRecDepth 100000 in
theorem vB_FR_grown_0 {X : Xt} {E : En} (g : GG X E 70 b_FR_grown R_FR 5) (a1 : Int32) (a2 : Int64) (a4 : Int32) (σ : Sto) : VV X E b_FR_grown 5 eL 0 [(0, .ref (E.2.1 0)), (1, .int a1), (2, .long a2), (4, .int a4)] [] σ (B_FR_grown_0 a1 a2 a4 σ) := by
  unfold B_FR_grown_0
  refine v_aload_n 0 g d_FR_grown_0 rfl ?_
  refine v_iload_n 1 g d_FR_grown_1 rfl ?_
  refine v_lload_n 2 g d_FR_grown_2 rfl ?_
  refine v_callB (r_V (rest := []) [.int a1, .long a2] g (m1 473 (by decide +kernel) (by decide +kernel)) yv_FR_isSideAndSet rfl (fun r σ1 h => sp_FR_isSideAndSet g.2.2.1  h) rfl rfl (by decide) (Nat.le_of_ble_eq_true rfl) d_FR_grown_3) (fun q1 => ?_)
  refine v_if_ne 13 g d_FR_grown_6 (by decide) (fun _ => ?_) (fun _ => ?_)
  · refine v_lload_n 2 g d_FR_grown_13 rfl ?_
    refine v_callI (r_S (rest := []) [.long a2] g (m1 400 (by decide +kernel) (by decide +kernel)) ys_JLong_bitCount (fun r σ1 h => sp_JLong_bitCount g.2.2.1  h) rfl rfl (by decide) (Nat.le_of_ble_eq_true rfl) d_FR_grown_14) (fun q2 => ?_)
    refine v_bipush (v := (16 : Int32)) g d_FR_grown_17 (by decide +kernel) ?_
    refine v_icmp_le 26 g d_FR_grown_19 (by decide) (fun _ => ?_) (fun _ => ?_)
    · refine v_aload_n 0 g d_FR_grown_26 rfl ?_
      refine v_getR 26 g ff_FR_47 rfl rfl rfl d_FR_grown_27 ?_
      refine v_aload_n 0 g d_FR_grown_30 rfl ?_
      refine v_getR 1 g ff_FR_10 rfl rfl rfl d_FR_grown_31 ?_
      refine v_iload_n 1 g d_FR_grown_34 rfl ?_
      refine v_lload_n 2 g d_FR_grown_35 rfl ?_
      refine v_callU (r_V (rest := []) [.ref (E.2.1 1), .int a1, .long a2] g (m1 585 (by decide +kernel) (by decide +kernel)) yv_Finder_gather rfl (fun r σ1 h => sp_Finder_gather g.2.2.1 rfl h) rfl rfl (by decide) (Nat.le_of_ble_eq_true rfl) d_FR_grown_36) (fun q3 => ?_)
      refine v_iload 3 g d_FR_grown_39 rfl ?_
      refine v_iconst (v := (-1 : Int32)) g d_FR_grown_41 (by decide +kernel) ?_
      refine v_icmp_ne 54 g d_FR_grown_42 (by decide) (fun _ => ?_) (fun _ => ?_)
      · refine v_iload 3 g d_FR_grown_54 rfl ?_
        refine v_if_lt 84 g d_FR_grown_56 (by decide) (fun _ => ?_) (fun _ => ?_)
        · refine v_ldc2 (v := (-12 : Int64)) g (m1 516 (by decide +kernel) (by decide +kernel)) d_FR_grown_84 ?_
          exact v_ret d_FR_grown_87 rfl
        · refine v_iload 3 g d_FR_grown_59 rfl ?_
          refine v_aload_n 0 g d_FR_grown_61 rfl ?_
          refine v_getR 26 g ff_FR_47 rfl rfl rfl d_FR_grown_62 ?_
          refine v_getI g ff_FR_222 rfl rfl d_FR_grown_65 ?_
          refine v_icmp_ge 84 g d_FR_grown_68 (by decide) (fun _ => ?_) (fun _ => ?_)
          · refine v_ldc2 (v := (-12 : Int64)) g (m1 516 (by decide +kernel) (by decide +kernel)) d_FR_grown_84 ?_
            exact v_ret d_FR_grown_87 rfl
          · refine v_aload_n 0 g d_FR_grown_71 rfl ?_
            refine v_getR 26 g ff_FR_47 rfl rfl rfl d_FR_grown_72 ?_
            refine v_getR 27 g ff_FR_225 rfl rfl rfl d_FR_grown_75 ?_
            refine v_iload 3 g d_FR_grown_78 rfl ?_
            refine v_lald g rfl rfl d_FR_grown_80 (fun _ => ?_)
            refine v_goto 87 g d_FR_grown_81 (by decide) ?_
            exact v_ret d_FR_grown_87 rfl
      · refine v_aload_n 0 g d_FR_grown_45 rfl ?_
        refine v_getR 26 g ff_FR_47 rfl rfl rfl d_FR_grown_46 ?_
        refine v_getI g ff_FR_222 rfl rfl d_FR_grown_49 ?_
        refine v_i2l g d_FR_grown_52 ?_
        exact v_ret d_FR_grown_53 rfl
    · refine v_ldc2 (v := (-5 : Int64)) g (m1 584 (by decide +kernel) (by decide +kernel)) d_FR_grown_22 ?_
      exact v_ret d_FR_grown_25 rfl
  · refine v_ldc2 (v := (-2 : Int64)) g (m1 456 (by decide +kernel) (by decide +kernel)) d_FR_grown_9 ?_
    exact v_ret d_FR_grown_12 rfl
def f_FR_grown (a1 : Int32) (a2 : Int64) (a4 : Int32) (σ : Sto) : Option (Int64 × Sto) := B_FR_grown_0 a1 a2 a4 σ
theorem sp_FR_grown {l : Launch} {E : En} (hE : Dj E) {a1 : Int32} {a2 : Int64} {a4 : Int32} {σ : Sto} {r : Int64} {σ' : Sto} (h : f_FR_grown a1 a2 a4 σ = some (r, σ')) : Ct l E y_FR_grown (wsM y_FR_grown b_FR_grown 5 (some .long)) 70 [.ref (E.2.1 0), .int a1, .long a2, .int a4] σ (eL r) σ' :=
  ct_of hE (by decide +kernel) (Nat.le_of_ble_eq_true rfl) (fun x => Or.inr (Or.inr (Or.inl ⟨rfl, x, rfl⟩))) (fun X _ g => vB_FR_grown_0 g a1 a2 a4 σ) r σ' h
/-! method FittingRings.all(IIJI)J -/
theorem yv_FR_all : YV y_FR_all b_FR_all 7 (some .long) 4 9 := ⟨m1 619 (by decide +kernel) (by decide +kernel), m1 620 (by decide +kernel) (by decide +kernel), ini_FR, m1 621 (by decide +kernel) (by decide +kernel), ⟨by decide +kernel, by decide +kernel, by decide +kernel⟩, by decide, by decide, T_FR, 11, rfl⟩
theorem d_FR_all_0 : decode b_FR_all 0 = .ok (.aload_n 0, 1) := by decide +kernel
theorem d_FR_all_1 : decode b_FR_all 1 = .ok (.iload_n 1, 1) := by decide +kernel
theorem d_FR_all_2 : decode b_FR_all 2 = .ok (.iload_n 2, 1) := by decide +kernel
theorem d_FR_all_3 : decode b_FR_all 3 = .ok (.lload_n 3, 1) := by decide +kernel
theorem d_FR_all_4 : decode b_FR_all 4 = .ok (.invokevirtual 194, 3) := by decide +kernel
theorem d_FR_all_7 : decode b_FR_all 7 = .ok (.ifCond .eq 14, 3) := by decide +kernel
theorem d_FR_all_10 : decode b_FR_all 10 = .ok (.iload 5, 2) := by decide +kernel
theorem d_FR_all_12 : decode b_FR_all 12 = .ok (.ifCond .lt 9, 3) := by decide +kernel
theorem d_FR_all_15 : decode b_FR_all 15 = .ok (.iload 5, 2) := by decide +kernel
theorem d_FR_all_17 : decode b_FR_all 17 = .ok (.iconst 2, 1) := by decide +kernel
theorem d_FR_all_18 : decode b_FR_all 18 = .ok (.if_icmp .le 7, 3) := by decide +kernel
theorem d_FR_all_21 : decode b_FR_all 21 = .ok (.ldc2_w 146, 3) := by decide +kernel
theorem d_FR_all_24 : decode b_FR_all 24 = .ok (.lreturn, 1) := by decide +kernel
theorem d_FR_all_25 : decode b_FR_all 25 = .ok (.lload_n 3, 1) := by decide +kernel
theorem d_FR_all_26 : decode b_FR_all 26 = .ok (.invokestatic 108, 3) := by decide +kernel
theorem d_FR_all_29 : decode b_FR_all 29 = .ok (.bipush 16, 2) := by decide +kernel
theorem d_FR_all_31 : decode b_FR_all 31 = .ok (.if_icmp .le 7, 3) := by decide +kernel
theorem d_FR_all_34 : decode b_FR_all 34 = .ok (.ldc2_w 209, 3) := by decide +kernel
theorem d_FR_all_37 : decode b_FR_all 37 = .ok (.lreturn, 1) := by decide +kernel
theorem d_FR_all_38 : decode b_FR_all 38 = .ok (.aload_n 0, 1) := by decide +kernel
theorem d_FR_all_39 : decode b_FR_all 39 = .ok (.getfield 47, 3) := by decide +kernel
theorem d_FR_all_42 : decode b_FR_all 42 = .ok (.aload_n 0, 1) := by decide +kernel
theorem d_FR_all_43 : decode b_FR_all 43 = .ok (.getfield 10, 3) := by decide +kernel
theorem d_FR_all_46 : decode b_FR_all 46 = .ok (.iload_n 1, 1) := by decide +kernel
theorem d_FR_all_47 : decode b_FR_all 47 = .ok (.lload_n 3, 1) := by decide +kernel
theorem d_FR_all_48 : decode b_FR_all 48 = .ok (.invokevirtual 211, 3) := by decide +kernel
theorem d_FR_all_51 : decode b_FR_all 51 = .ok (.aload_n 0, 1) := by decide +kernel
theorem d_FR_all_52 : decode b_FR_all 52 = .ok (.getfield 47, 3) := by decide +kernel
theorem d_FR_all_55 : decode b_FR_all 55 = .ok (.iload_n 2, 1) := by decide +kernel
theorem d_FR_all_56 : decode b_FR_all 56 = .ok (.invokevirtual 215, 3) := by decide +kernel
theorem d_FR_all_59 : decode b_FR_all 59 = .ok (.istore 6, 2) := by decide +kernel
theorem d_FR_all_61 : decode b_FR_all 61 = .ok (.iload 5, 2) := by decide +kernel
theorem d_FR_all_63 : decode b_FR_all 63 = .ok (.ifCond .ne 15, 3) := by decide +kernel
theorem d_FR_all_66 : decode b_FR_all 66 = .ok (.aload_n 0, 1) := by decide +kernel
theorem d_FR_all_67 : decode b_FR_all 67 = .ok (.getfield 47, 3) := by decide +kernel
theorem d_FR_all_70 : decode b_FR_all 70 = .ok (.iload_n 2, 1) := by decide +kernel
theorem d_FR_all_71 : decode b_FR_all 71 = .ok (.iload 6, 2) := by decide +kernel
theorem d_FR_all_73 : decode b_FR_all 73 = .ok (.lload_n 3, 1) := by decide +kernel
theorem d_FR_all_74 : decode b_FR_all 74 = .ok (.invokevirtual 228, 3) := by decide +kernel
theorem d_FR_all_77 : decode b_FR_all 77 = .ok (.lreturn, 1) := by decide +kernel
theorem d_FR_all_78 : decode b_FR_all 78 = .ok (.iload 5, 2) := by decide +kernel
theorem d_FR_all_80 : decode b_FR_all 80 = .ok (.iconst 1, 1) := by decide +kernel
theorem d_FR_all_81 : decode b_FR_all 81 = .ok (.if_icmp .ne 16, 3) := by decide +kernel
theorem d_FR_all_84 : decode b_FR_all 84 = .ok (.aload_n 0, 1) := by decide +kernel
theorem d_FR_all_85 : decode b_FR_all 85 = .ok (.getfield 47, 3) := by decide +kernel
theorem d_FR_all_88 : decode b_FR_all 88 = .ok (.iload_n 2, 1) := by decide +kernel
theorem d_FR_all_89 : decode b_FR_all 89 = .ok (.iload 6, 2) := by decide +kernel
theorem d_FR_all_91 : decode b_FR_all 91 = .ok (.invokevirtual 231, 3) := by decide +kernel
theorem d_FR_all_94 : decode b_FR_all 94 = .ok (.goto 14, 3) := by decide +kernel
theorem d_FR_all_97 : decode b_FR_all 97 = .ok (.aload_n 0, 1) := by decide +kernel
theorem d_FR_all_98 : decode b_FR_all 98 = .ok (.getfield 47, 3) := by decide +kernel
theorem d_FR_all_101 : decode b_FR_all 101 = .ok (.iload_n 2, 1) := by decide +kernel
theorem d_FR_all_102 : decode b_FR_all 102 = .ok (.iload 6, 2) := by decide +kernel
theorem d_FR_all_104 : decode b_FR_all 104 = .ok (.invokevirtual 234, 3) := by decide +kernel
theorem d_FR_all_107 : decode b_FR_all 107 = .ok (.i2l, 1) := by decide +kernel
theorem d_FR_all_108 : decode b_FR_all 108 = .ok (.lreturn, 1) := by decide +kernel
def B_FR_all_0 (a1 : Int32) (a2 : Int32) (a3 : Int64) (a5 : Int32) (σ : Sto) : Option (Int64 × Sto) :=
  ((f_FR_isAsked a1 a2 a3 σ).bind fun q1 => (if (b2i q1.1) = 0 then some ((-2 : Int64), q1.2)
 else (if a5 < 0 then some ((-2 : Int64), q1.2)
  else (if a5 ≤ (2 : Int32) then ((f_JLong_bitCount a3 q1.2).bind fun q2 => (if q2.1 ≤ (16 : Int32) then ((f_Finder_gather 1 a1 a3 q2.2).bind fun q3 => ((f_Finder_mostWorth a2 q3.2).bind fun q4 => (if a5 = 0 then ((f_Finder_inEach a2 q4.1 a3 q4.2).bind fun q7 => some (q7.1, q7.2))
     else (if a5 = (1 : Int32) then ((f_Finder_inAny a2 q4.1 q4.2).bind fun q6 => some (q6.1, q6.2))
      else ((f_Finder_howMany a2 q4.1 q4.2).bind fun q5 => some ((Int32.toInt64 q5.1), q5.2))))))
    else some ((-5 : Int64), q2.2)))
   else some ((-2 : Int64), q1.2)))))
set_option maxHeartbeats 4000000 in
set_option maxRecDepth 100000 in
theorem vB_FR_all_0 {X : Xt} {E : En} (g : GG X E 70 b_FR_all R_FR 7) (a1 : Int32) (a2 : Int32) (a3 : Int64) (a5 : Int32) (σ : Sto) : VV X E b_FR_all 7 eL 0 [(0, .ref (E.2.1 0)), (1, .int a1), (2, .int a2), (3, .long a3), (5, .int a5)] [] σ (B_FR_all_0 a1 a2 a3 a5 σ) := by
  unfold B_FR_all_0
  refine v_aload_n 0 g d_FR_all_0 rfl ?_
  refine v_iload_n 1 g d_FR_all_1 rfl ?_
  refine v_iload_n 2 g d_FR_all_2 rfl ?_
  refine v_lload_n 3 g d_FR_all_3 rfl ?_
  refine v_callB (r_V (rest := []) [.int a1, .int a2, .long a3] g (m1 529 (by decide +kernel) (by decide +kernel)) yv_FR_isAsked rfl (fun r σ1 h => sp_FR_isAsked g.2.2.1  h) rfl rfl (by decide) (Nat.le_of_ble_eq_true rfl) d_FR_all_4) (fun q1 => ?_)
  refine v_if_eq 21 g d_FR_all_7 (by decide) (fun _ => ?_) (fun _ => ?_)
  · refine v_ldc2 (v := (-2 : Int64)) g (m1 456 (by decide +kernel) (by decide +kernel)) d_FR_all_21 ?_
    exact v_ret d_FR_all_24 rfl
  · refine v_iload 4 g d_FR_all_10 rfl ?_
    refine v_if_lt 21 g d_FR_all_12 (by decide) (fun _ => ?_) (fun _ => ?_)
    · refine v_ldc2 (v := (-2 : Int64)) g (m1 456 (by decide +kernel) (by decide +kernel)) d_FR_all_21 ?_
      exact v_ret d_FR_all_24 rfl
    · refine v_iload 4 g d_FR_all_15 rfl ?_
      refine v_iconst (v := (2 : Int32)) g d_FR_all_17 (by decide +kernel) ?_
      refine v_icmp_le 25 g d_FR_all_18 (by decide) (fun _ => ?_) (fun _ => ?_)
      · refine v_lload_n 3 g d_FR_all_25 rfl ?_
        refine v_callI (r_S (rest := []) [.long a3] g (m1 400 (by decide +kernel) (by decide +kernel)) ys_JLong_bitCount (fun r σ1 h => sp_JLong_bitCount g.2.2.1  h) rfl rfl (by decide) (Nat.le_of_ble_eq_true rfl) d_FR_all_26) (fun q2 => ?_)
        refine v_bipush (v := (16 : Int32)) g d_FR_all_29 (by decide +kernel) ?_
        refine v_icmp_le 38 g d_FR_all_31 (by decide) (fun _ => ?_) (fun _ => ?_)
        · refine v_aload_n 0 g d_FR_all_38 rfl ?_
          refine v_getR 26 g ff_FR_47 rfl rfl rfl d_FR_all_39 ?_
          refine v_aload_n 0 g d_FR_all_42 rfl ?_
          refine v_getR 1 g ff_FR_10 rfl rfl rfl d_FR_all_43 ?_
          refine v_iload_n 1 g d_FR_all_46 rfl ?_
          refine v_lload_n 3 g d_FR_all_47 rfl ?_
          refine v_callU (r_V (rest := []) [.ref (E.2.1 1), .int a1, .long a3] g (m1 585 (by decide +kernel) (by decide +kernel)) yv_Finder_gather rfl (fun r σ1 h => sp_Finder_gather g.2.2.1 rfl h) rfl rfl (by decide) (Nat.le_of_ble_eq_true rfl) d_FR_all_48) (fun q3 => ?_)
          refine v_aload_n 0 g d_FR_all_51 rfl ?_
          refine v_getR 26 g ff_FR_47 rfl rfl rfl d_FR_all_52 ?_
          refine v_iload_n 2 g d_FR_all_55 rfl ?_
          refine v_callI (r_V (rest := []) [.int a2] g (m1 604 (by decide +kernel) (by decide +kernel)) yv_Finder_mostWorth rfl (fun r σ1 h => sp_Finder_mostWorth g.2.2.1  h) rfl rfl (by decide) (Nat.le_of_ble_eq_true rfl) d_FR_all_56) (fun q4 => ?_)
          refine v_istore [(6, .int q4.1), (0, .ref (E.2.1 0)), (1, .int a1), (2, .int a2), (3, .long a3), (5, .int a5)] g d_FR_all_59 (by decide) rfl ?_
          refine v_iload 5 g d_FR_all_61 rfl ?_
          refine v_if_ne 78 g d_FR_all_63 (by decide) (fun _ => ?_) (fun _ => ?_)
          · refine v_iload 5 g d_FR_all_78 rfl ?_
            refine v_iconst (v := (1 : Int32)) g d_FR_all_80 (by decide +kernel) ?_
            refine v_icmp_ne 97 g d_FR_all_81 (by decide) (fun _ => ?_) (fun _ => ?_)
            · refine v_aload_n 1 g d_FR_all_97 rfl ?_
              refine v_getR 26 g ff_FR_47 rfl rfl rfl d_FR_all_98 ?_
              refine v_iload_n 3 g d_FR_all_101 rfl ?_
              refine v_iload 0 g d_FR_all_102 rfl ?_
              refine v_callI (r_V (rest := []) [.int a2, .int q4.1] g (m1 630 (by decide +kernel) (by decide +kernel)) yv_Finder_howMany rfl (fun r σ1 h => sp_Finder_howMany g.2.2.1  h) rfl rfl (by decide) (Nat.le_of_ble_eq_true rfl) d_FR_all_104) (fun q5 => ?_)
              refine v_i2l g d_FR_all_107 ?_
              exact v_ret d_FR_all_108 rfl
            · refine v_aload_n 1 g d_FR_all_84 rfl ?_
              refine v_getR 26 g ff_FR_47 rfl rfl rfl d_FR_all_85 ?_
              refine v_iload_n 3 g d_FR_all_88 rfl ?_
              refine v_iload 0 g d_FR_all_89 rfl ?_
              refine v_callL (r_V (rest := []) [.int a2, .int q4.1] g (m1 626 (by decide +kernel) (by decide +kernel)) yv_Finder_inAny rfl (fun r σ1 h => sp_Finder_inAny g.2.2.1  h) rfl rfl (by decide) (Nat.le_of_ble_eq_true rfl) d_FR_all_91) (fun q6 => ?_)
              refine v_goto 108 g d_FR_all_94 (by decide) ?_
              exact v_ret d_FR_all_108 rfl
          · refine v_aload_n 1 g d_FR_all_66 rfl ?_
            refine v_getR 26 g ff_FR_47 rfl rfl rfl d_FR_all_67 ?_
            refine v_iload_n 3 g d_FR_all_70 rfl ?_
            refine v_iload 0 g d_FR_all_71 rfl ?_
            refine v_lload_n 4 g d_FR_all_73 rfl ?_
            refine v_callL (r_V (rest := []) [.int a2, .int q4.1, .long a3] g (m1 622 (by decide +kernel) (by decide +kernel)) yv_Finder_inEach rfl (fun r σ1 h => sp_Finder_inEach g.2.2.1  h) rfl rfl (by decide) (Nat.le_of_ble_eq_true rfl) d_FR_all_74) (fun q7 => ?_)
            exact v_ret d_FR_all_77 rfl
        · refine v_ldc2 (v := (-5 : Int64)) g (m1 584 (by decide +kernel) (by decide +kernel)) d_FR_all_34 ?_
          exact v_ret d_FR_all_37 rfl
      · refine v_ldc2 (v := (-2 : Int64)) g (m1 456 (by decide +kernel) (by decide +kernel)) d_FR_all_21 ?_
        exact v_ret d_FR_all_24 rfl
def f_FR_all (a1 : Int32) (a2 : Int32) (a3 : Int64) (a5 : Int32) (σ : Sto) : Option (Int64 × Sto) := B_FR_all_0 a1 a2 a3 a5 σ
theorem sp_FR_all {l : Launch} {E : En} (hE : Dj E) {a1 : Int32} {a2 : Int32} {a3 : Int64} {a5 : Int32} {σ : Sto} {r : Int64} {σ' : Sto} (h : f_FR_all a1 a2 a3 a5 σ = some (r, σ')) : Ct l E y_FR_all (wsM y_FR_all b_FR_all 7 (some .long)) 70 [.ref (E.2.1 0), .int a1, .int a2, .long a3, .int a5] σ (eL r) σ' :=
  ct_of hE (by decide +kernel) (Nat.le_of_ble_eq_true rfl) (fun x => Or.inr (Or.inr (Or.inl ⟨rfl, x, rfl⟩))) (fun X _ g => vB_FR_all_0 g a1 a2 a3 a5 σ) r σ' h
/-! method FittingRings.turning(IIJI)I -/
theorem yv_FR_turning : YV y_FR_turning b_FR_turning 10 (some .int) 4 9 := ⟨m1 635 (by decide +kernel) (by decide +kernel), m1 636 (by decide +kernel) (by decide +kernel), ini_FR, m1 637 (by decide +kernel) (by decide +kernel), ⟨by decide +kernel, by decide +kernel, by decide +kernel⟩, by decide, by decide, T_FR, 11, rfl⟩
theorem d_FR_turning_0 : decode b_FR_turning 0 = .ok (.aload_n 0, 1) := by decide +kernel
theorem d_FR_turning_1 : decode b_FR_turning 1 = .ok (.iload_n 1, 1) := by decide +kernel
theorem d_FR_turning_2 : decode b_FR_turning 2 = .ok (.iload_n 2, 1) := by decide +kernel
theorem d_FR_turning_3 : decode b_FR_turning 3 = .ok (.lload_n 3, 1) := by decide +kernel
theorem d_FR_turning_4 : decode b_FR_turning 4 = .ok (.invokevirtual 194, 3) := by decide +kernel
theorem d_FR_turning_7 : decode b_FR_turning 7 = .ok (.ifCond .eq 11, 3) := by decide +kernel
theorem d_FR_turning_10 : decode b_FR_turning 10 = .ok (.iload 5, 2) := by decide +kernel
theorem d_FR_turning_12 : decode b_FR_turning 12 = .ok (.invokestatic 118, 3) := by decide +kernel
theorem d_FR_turning_15 : decode b_FR_turning 15 = .ok (.ifCond .ne 6, 3) := by decide +kernel
theorem d_FR_turning_18 : decode b_FR_turning 18 = .ok (.bipush (-2), 2) := by decide +kernel
theorem d_FR_turning_20 : decode b_FR_turning 20 = .ok (.ireturn, 1) := by decide +kernel
theorem d_FR_turning_21 : decode b_FR_turning 21 = .ok (.lload_n 3, 1) := by decide +kernel
theorem d_FR_turning_22 : decode b_FR_turning 22 = .ok (.invokestatic 108, 3) := by decide +kernel
theorem d_FR_turning_25 : decode b_FR_turning 25 = .ok (.bipush 16, 2) := by decide +kernel
theorem d_FR_turning_27 : decode b_FR_turning 27 = .ok (.if_icmp .le 6, 3) := by decide +kernel
theorem d_FR_turning_30 : decode b_FR_turning 30 = .ok (.bipush (-5), 2) := by decide +kernel
theorem d_FR_turning_32 : decode b_FR_turning 32 = .ok (.ireturn, 1) := by decide +kernel
theorem d_FR_turning_33 : decode b_FR_turning 33 = .ok (.aload_n 0, 1) := by decide +kernel
theorem d_FR_turning_34 : decode b_FR_turning 34 = .ok (.getfield 47, 3) := by decide +kernel
theorem d_FR_turning_37 : decode b_FR_turning 37 = .ok (.aload_n 0, 1) := by decide +kernel
theorem d_FR_turning_38 : decode b_FR_turning 38 = .ok (.getfield 10, 3) := by decide +kernel
theorem d_FR_turning_41 : decode b_FR_turning 41 = .ok (.iload_n 1, 1) := by decide +kernel
theorem d_FR_turning_42 : decode b_FR_turning 42 = .ok (.iload_n 2, 1) := by decide +kernel
theorem d_FR_turning_43 : decode b_FR_turning 43 = .ok (.lload_n 3, 1) := by decide +kernel
theorem d_FR_turning_44 : decode b_FR_turning 44 = .ok (.invokevirtual 237, 3) := by decide +kernel
theorem d_FR_turning_47 : decode b_FR_turning 47 = .ok (.iload 5, 2) := by decide +kernel
theorem d_FR_turning_49 : decode b_FR_turning 49 = .ok (.iadd, 1) := by decide +kernel
theorem d_FR_turning_50 : decode b_FR_turning 50 = .ok (.istore 6, 2) := by decide +kernel
theorem d_FR_turning_52 : decode b_FR_turning 52 = .ok (.iconst 0, 1) := by decide +kernel
theorem d_FR_turning_53 : decode b_FR_turning 53 = .ok (.istore 7, 2) := by decide +kernel
theorem d_FR_turning_55 : decode b_FR_turning 55 = .ok (.iload 7, 2) := by decide +kernel
theorem d_FR_turning_57 : decode b_FR_turning 57 = .ok (.aload_n 0, 1) := by decide +kernel
theorem d_FR_turning_58 : decode b_FR_turning 58 = .ok (.getfield 10, 3) := by decide +kernel
theorem d_FR_turning_61 : decode b_FR_turning 61 = .ok (.getfield 241, 3) := by decide +kernel
theorem d_FR_turning_64 : decode b_FR_turning 64 = .ok (.if_icmp .ge 115, 3) := by decide +kernel
theorem d_FR_turning_67 : decode b_FR_turning 67 = .ok (.iload 7, 2) := by decide +kernel
theorem d_FR_turning_69 : decode b_FR_turning 69 = .ok (.iconst 1, 1) := by decide +kernel
theorem d_FR_turning_70 : decode b_FR_turning 70 = .ok (.iadd, 1) := by decide +kernel
theorem d_FR_turning_71 : decode b_FR_turning 71 = .ok (.istore 8, 2) := by decide +kernel
theorem d_FR_turning_73 : decode b_FR_turning 73 = .ok (.iload 8, 2) := by decide +kernel
theorem d_FR_turning_75 : decode b_FR_turning 75 = .ok (.aload_n 0, 1) := by decide +kernel
theorem d_FR_turning_76 : decode b_FR_turning 76 = .ok (.getfield 10, 3) := by decide +kernel
theorem d_FR_turning_79 : decode b_FR_turning 79 = .ok (.getfield 241, 3) := by decide +kernel
theorem d_FR_turning_82 : decode b_FR_turning 82 = .ok (.if_icmp .ge 91, 3) := by decide +kernel
theorem d_FR_turning_85 : decode b_FR_turning 85 = .ok (.lload_n 3, 1) := by decide +kernel
theorem d_FR_turning_86 : decode b_FR_turning 86 = .ok (.iload 7, 2) := by decide +kernel
theorem d_FR_turning_88 : decode b_FR_turning 88 = .ok (.invokestatic 244, 3) := by decide +kernel
theorem d_FR_turning_91 : decode b_FR_turning 91 = .ok (.ifCond .eq 76, 3) := by decide +kernel
theorem d_FR_turning_94 : decode b_FR_turning 94 = .ok (.lload_n 3, 1) := by decide +kernel
theorem d_FR_turning_95 : decode b_FR_turning 95 = .ok (.iload 8, 2) := by decide +kernel
theorem d_FR_turning_97 : decode b_FR_turning 97 = .ok (.invokestatic 244, 3) := by decide +kernel
theorem d_FR_turning_100 : decode b_FR_turning 100 = .ok (.ifCond .eq 67, 3) := by decide +kernel
theorem d_FR_turning_103 : decode b_FR_turning 103 = .ok (.aload_n 0, 1) := by decide +kernel
theorem d_FR_turning_104 : decode b_FR_turning 104 = .ok (.getfield 10, 3) := by decide +kernel
theorem d_FR_turning_107 : decode b_FR_turning 107 = .ok (.iload 7, 2) := by decide +kernel
theorem d_FR_turning_109 : decode b_FR_turning 109 = .ok (.iload 8, 2) := by decide +kernel
theorem d_FR_turning_111 : decode b_FR_turning 111 = .ok (.invokevirtual 248, 3) := by decide +kernel
theorem d_FR_turning_114 : decode b_FR_turning 114 = .ok (.aload_n 0, 1) := by decide +kernel
theorem d_FR_turning_115 : decode b_FR_turning 115 = .ok (.getfield 47, 3) := by decide +kernel
theorem d_FR_turning_118 : decode b_FR_turning 118 = .ok (.aload_n 0, 1) := by decide +kernel
theorem d_FR_turning_119 : decode b_FR_turning 119 = .ok (.getfield 10, 3) := by decide +kernel
theorem d_FR_turning_122 : decode b_FR_turning 122 = .ok (.iload_n 1, 1) := by decide +kernel
theorem d_FR_turning_123 : decode b_FR_turning 123 = .ok (.iload_n 2, 1) := by decide +kernel
theorem d_FR_turning_124 : decode b_FR_turning 124 = .ok (.lload_n 3, 1) := by decide +kernel
theorem d_FR_turning_125 : decode b_FR_turning 125 = .ok (.iload 6, 2) := by decide +kernel
theorem d_FR_turning_127 : decode b_FR_turning 127 = .ok (.invokevirtual 252, 3) := by decide +kernel
theorem d_FR_turning_130 : decode b_FR_turning 130 = .ok (.istore 9, 2) := by decide +kernel
theorem d_FR_turning_132 : decode b_FR_turning 132 = .ok (.aload_n 0, 1) := by decide +kernel
theorem d_FR_turning_133 : decode b_FR_turning 133 = .ok (.getfield 10, 3) := by decide +kernel
theorem d_FR_turning_136 : decode b_FR_turning 136 = .ok (.iload 7, 2) := by decide +kernel
theorem d_FR_turning_138 : decode b_FR_turning 138 = .ok (.iload 8, 2) := by decide +kernel
theorem d_FR_turning_140 : decode b_FR_turning 140 = .ok (.invokevirtual 248, 3) := by decide +kernel
theorem d_FR_turning_143 : decode b_FR_turning 143 = .ok (.iload 9, 2) := by decide +kernel
theorem d_FR_turning_145 : decode b_FR_turning 145 = .ok (.iload 5, 2) := by decide +kernel
theorem d_FR_turning_147 : decode b_FR_turning 147 = .ok (.iconst 1, 1) := by decide +kernel
theorem d_FR_turning_148 : decode b_FR_turning 148 = .ok (.if_icmp .ne 7, 3) := by decide +kernel
theorem d_FR_turning_151 : decode b_FR_turning 151 = .ok (.iconst 1, 1) := by decide +kernel
theorem d_FR_turning_152 : decode b_FR_turning 152 = .ok (.goto 4, 3) := by decide +kernel
theorem d_FR_turning_155 : decode b_FR_turning 155 = .ok (.iconst 0, 1) := by decide +kernel
theorem d_FR_turning_156 : decode b_FR_turning 156 = .ok (.if_icmp .ne 11, 3) := by decide +kernel
theorem d_FR_turning_159 : decode b_FR_turning 159 = .ok (.iload 7, 2) := by decide +kernel
theorem d_FR_turning_161 : decode b_FR_turning 161 = .ok (.iload 8, 2) := by decide +kernel
theorem d_FR_turning_163 : decode b_FR_turning 163 = .ok (.invokestatic 256, 3) := by decide +kernel
theorem d_FR_turning_166 : decode b_FR_turning 166 = .ok (.ireturn, 1) := by decide +kernel
theorem d_FR_turning_167 : decode b_FR_turning 167 = .ok (.iinc 8 1, 3) := by decide +kernel
theorem d_FR_turning_170 : decode b_FR_turning 170 = .ok (.goto (-97), 3) := by decide +kernel
theorem d_FR_turning_173 : decode b_FR_turning 173 = .ok (.iinc 7 1, 3) := by decide +kernel
theorem d_FR_turning_176 : decode b_FR_turning 176 = .ok (.goto (-121), 3) := by decide +kernel
theorem d_FR_turning_179 : decode b_FR_turning 179 = .ok (.iconst (-1), 1) := by decide +kernel
theorem d_FR_turning_180 : decode b_FR_turning 180 = .ok (.ireturn, 1) := by decide +kernel
def B_FR_turning_73 (k55 : Int32 → Int32 → Int64 → Int32 → Int32 → Int32 → Sto → Option (Int32 × Sto)) (k73 : Int32 → Int32 → Int64 → Int32 → Int32 → Int32 → Int32 → Sto → Option (Int32 × Sto)) (v1 : Int32) (v2 : Int32) (v3 : Int64) (v5 : Int32) (v6 : Int32) (v7 : Int32) (v8 : Int32) (σ : Sto) : Option (Int32 × Sto) :=
  (if (gI σ 1 0) ≤ v8 then k55 v1 v2 v3 v5 v6 (v7 + (1 : Int32)) σ
 else ((f_FR_isOf v3 v7 σ).bind fun q5 => (if (b2i q5.1) = 0 then k73 v1 v2 v3 v5 v6 v7 (v8 + (1 : Int32)) q5.2
  else ((f_FR_isOf v3 v8 q5.2).bind fun q6 => (if (b2i q6.1) = 0 then k73 v1 v2 v3 v5 v6 v7 (v8 + (1 : Int32)) q6.2
   else ((f_Net_turnTwo 1 v7 v8 q6.2).bind fun q7 => ((f_Finder_reaches 1 v1 v2 v3 v6 q7.2).bind fun q8 => ((f_Net_turnTwo 1 v7 v8 q8.2).bind fun q9 => (if v5 = (1 : Int32) then (if (b2i q8.1) = (1 : Int32) then ((f_FR_pairOf v7 v8 q9.2).bind fun q11 => some (q11.1, q11.2))
     else k73 v1 v2 v3 v5 v6 v7 (v8 + (1 : Int32)) q9.2)
    else (if (b2i q8.1) = (0 : Int32) then ((f_FR_pairOf v7 v8 q9.2).bind fun q10 => some (q10.1, q10.2))
     else k73 v1 v2 v3 v5 v6 v7 (v8 + (1 : Int32)) q9.2))))))))))
set_option maxHeartbeats 4000000 in
set_option maxRecDepth 100000 in
theorem vB_FR_turning_73 {X : Xt} {E : En} (g : GG X E 69 b_FR_turning R_FR 10) {k55 : Int32 → Int32 → Int64 → Int32 → Int32 → Int32 → Sto → Option (Int32 × Sto)} {k73 : Int32 → Int32 → Int64 → Int32 → Int32 → Int32 → Int32 → Sto → Option (Int32 × Sto)} (hk55 : ∀ (v1 : Int32) (v2 : Int32) (v3 : Int64) (v5 : Int32) (v6 : Int32) (v7 : Int32) (σ : Sto), VV X E b_FR_turning 10 eI 55 [(0, .ref (E.2.1 0)), (1, .int v1), (2, .int v2), (3, .long v3), (5, .int v5), (6, .int v6), (7, .int v7)] [] σ (k55 v1 v2 v3 v5 v6 v7 σ)) (hk73 : ∀ (v1 : Int32) (v2 : Int32) (v3 : Int64) (v5 : Int32) (v6 : Int32) (v7 : Int32) (v8 : Int32) (σ : Sto), VV X E b_FR_turning 10 eI 73 [(0, .ref (E.2.1 0)), (1, .int v1), (2, .int v2), (3, .long v3), (5, .int v5), (6, .int v6), (7, .int v7), (8, .int v8)] [] σ (k73 v1 v2 v3 v5 v6 v7 v8 σ)) (v1 : Int32) (v2 : Int32) (v3 : Int64) (v5 : Int32) (v6 : Int32) (v7 : Int32) (v8 : Int32) (σ : Sto) : VV X E b_FR_turning 10 eI 73 [(0, .ref (E.2.1 0)), (1, .int v1), (2, .int v2), (3, .long v3), (5, .int v5), (6, .int v6), (7, .int v7), (8, .int v8)] [] σ (B_FR_turning_73 k55 k73 v1 v2 v3 v5 v6 v7 v8 σ) := by
  unfold B_FR_turning_73
  refine v_iload 7 g d_FR_turning_73 rfl ?_
  refine v_aload_n 0 g d_FR_turning_75 rfl ?_
  refine v_getR 1 g ff_FR_10 rfl rfl rfl d_FR_turning_76 ?_
  refine v_getI g ff_FR_241 rfl rfl d_FR_turning_79 ?_
  refine v_icmp_ge 173 g d_FR_turning_82 (by decide) (fun _ => ?_) (fun _ => ?_)
  · refine v_iinc 6 [(7, .int (v7 + (1 : Int32))), (0, .ref (E.2.1 0)), (1, .int v1), (2, .int v2), (3, .long v3), (5, .int v5), (6, .int v6), (8, .int v8)] g d_FR_turning_173 rfl (v := (1 : Int32)) (by decide +kernel) (by decide) rfl ?_
    refine v_goto 55 g d_FR_turning_176 (by decide) ?_
    exact v_sub [1,2,3,4,5,6,0] rfl (hk55 v1 v2 v3 v5 v6 (v7 + (1 : Int32)) σ)
  · refine v_lload_n 3 g d_FR_turning_85 rfl ?_
    refine v_iload 6 g d_FR_turning_86 rfl ?_
    refine v_callB (r_S (rest := []) [.long v3, .int v7] g (m1 596 (by decide +kernel) (by decide +kernel)) ys_FR_isOf (fun r σ1 h => sp_FR_isOf g.2.2.1  h) rfl rfl (by decide) (Nat.le_of_ble_eq_true rfl) d_FR_turning_88) (fun q5 => ?_)
    refine v_if_eq 167 g d_FR_turning_91 (by decide) (fun _ => ?_) (fun _ => ?_)
    · refine v_iinc 7 [(8, .int (v8 + (1 : Int32))), (0, .ref (E.2.1 0)), (1, .int v1), (2, .int v2), (3, .long v3), (5, .int v5), (6, .int v6), (7, .int v7)] g d_FR_turning_167 rfl (v := (1 : Int32)) (by decide +kernel) (by decide) rfl ?_
      refine v_goto 73 g d_FR_turning_170 (by decide) ?_
      exact v_sub [1,2,3,4,5,6,7,0] rfl (hk73 v1 v2 v3 v5 v6 v7 (v8 + (1 : Int32)) q5.2)
    · refine v_lload_n 3 g d_FR_turning_94 rfl ?_
      refine v_iload 7 g d_FR_turning_95 rfl ?_
      refine v_callB (r_S (rest := []) [.long v3, .int v8] g (m1 596 (by decide +kernel) (by decide +kernel)) ys_FR_isOf (fun r σ1 h => sp_FR_isOf g.2.2.1  h) rfl rfl (by decide) (Nat.le_of_ble_eq_true rfl) d_FR_turning_97) (fun q6 => ?_)
      refine v_if_eq 167 g d_FR_turning_100 (by decide) (fun _ => ?_) (fun _ => ?_)
      · refine v_iinc 7 [(8, .int (v8 + (1 : Int32))), (0, .ref (E.2.1 0)), (1, .int v1), (2, .int v2), (3, .long v3), (5, .int v5), (6, .int v6), (7, .int v7)] g d_FR_turning_167 rfl (v := (1 : Int32)) (by decide +kernel) (by decide) rfl ?_
        refine v_goto 73 g d_FR_turning_170 (by decide) ?_
        exact v_sub [1,2,3,4,5,6,7,0] rfl (hk73 v1 v2 v3 v5 v6 v7 (v8 + (1 : Int32)) q6.2)
      · refine v_aload_n 0 g d_FR_turning_103 rfl ?_
        refine v_getR 1 g ff_FR_10 rfl rfl rfl d_FR_turning_104 ?_
        refine v_iload 6 g d_FR_turning_107 rfl ?_
        refine v_iload 7 g d_FR_turning_109 rfl ?_
        refine v_callU (r_V (rest := []) [.int v7, .int v8] g (m1 657 (by decide +kernel) (by decide +kernel)) yv_Net_turnTwo rfl (fun r σ1 h => sp_Net_turnTwo g.2.2.1 rfl h) rfl rfl (by decide) (Nat.le_of_ble_eq_true rfl) d_FR_turning_111) (fun q7 => ?_)
        refine v_aload_n 0 g d_FR_turning_114 rfl ?_
        refine v_getR 26 g ff_FR_47 rfl rfl rfl d_FR_turning_115 ?_
        refine v_aload_n 0 g d_FR_turning_118 rfl ?_
        refine v_getR 1 g ff_FR_10 rfl rfl rfl d_FR_turning_119 ?_
        refine v_iload_n 1 g d_FR_turning_122 rfl ?_
        refine v_iload_n 2 g d_FR_turning_123 rfl ?_
        refine v_lload_n 3 g d_FR_turning_124 rfl ?_
        refine v_iload 5 g d_FR_turning_125 rfl ?_
        refine v_callB (r_V (rest := []) [.ref (E.2.1 1), .int v1, .int v2, .long v3, .int v6] g (m1 663 (by decide +kernel) (by decide +kernel)) yv_Finder_reaches rfl (fun r σ1 h => sp_Finder_reaches g.2.2.1 rfl h) rfl rfl (by decide) (Nat.le_of_ble_eq_true rfl) d_FR_turning_127) (fun q8 => ?_)
        refine v_istore [(9, .int (b2i q8.1)), (0, .ref (E.2.1 0)), (1, .int v1), (2, .int v2), (3, .long v3), (5, .int v5), (6, .int v6), (7, .int v7), (8, .int v8)] g d_FR_turning_130 (by decide) rfl ?_
        refine v_aload_n 1 g d_FR_turning_132 rfl ?_
        refine v_getR 1 g ff_FR_10 rfl rfl rfl d_FR_turning_133 ?_
        refine v_iload 7 g d_FR_turning_136 rfl ?_
        refine v_iload 8 g d_FR_turning_138 rfl ?_
        refine v_callU (r_V (rest := []) [.int v7, .int v8] g (m1 657 (by decide +kernel) (by decide +kernel)) yv_Net_turnTwo rfl (fun r σ1 h => sp_Net_turnTwo g.2.2.1 rfl h) rfl rfl (by decide) (Nat.le_of_ble_eq_true rfl) d_FR_turning_140) (fun q9 => ?_)
        refine v_iload 0 g d_FR_turning_143 rfl ?_
        refine v_iload 5 g d_FR_turning_145 rfl ?_
        refine v_iconst (v := (1 : Int32)) g d_FR_turning_147 (by decide +kernel) ?_
        refine v_icmp_ne 155 g d_FR_turning_148 (by decide) (fun _ => ?_) (fun _ => ?_)
        · refine v_iconst (v := (0 : Int32)) g d_FR_turning_155 (by decide +kernel) ?_
          refine v_icmp_ne 167 g d_FR_turning_156 (by decide) (fun _ => ?_) (fun _ => ?_)
          · refine v_iinc 8 [(8, .int (v8 + (1 : Int32))), (9, .int (b2i q8.1)), (0, .ref (E.2.1 0)), (1, .int v1), (2, .int v2), (3, .long v3), (5, .int v5), (6, .int v6), (7, .int v7)] g d_FR_turning_167 rfl (v := (1 : Int32)) (by decide +kernel) (by decide) rfl ?_
            refine v_goto 73 g d_FR_turning_170 (by decide) ?_
            exact v_sub [2,3,4,5,6,7,8,0] rfl (hk73 v1 v2 v3 v5 v6 v7 (v8 + (1 : Int32)) q9.2)
          · refine v_iload 7 g d_FR_turning_159 rfl ?_
            refine v_iload 8 g d_FR_turning_161 rfl ?_
            refine v_callI (r_S (rest := []) [.int v7, .int v8] g (m1 667 (by decide +kernel) (by decide +kernel)) ys_FR_pairOf (fun r σ1 h => sp_FR_pairOf g.2.2.1  h) rfl rfl (by decide) (Nat.le_of_ble_eq_true rfl) d_FR_turning_163) (fun q10 => ?_)
            exact v_ret d_FR_turning_166 rfl
        · refine v_iconst (v := (1 : Int32)) g d_FR_turning_151 (by decide +kernel) ?_
          refine v_goto 156 g d_FR_turning_152 (by decide) ?_
          refine v_icmp_ne 167 g d_FR_turning_156 (by decide) (fun _ => ?_) (fun _ => ?_)
          · refine v_iinc 8 [(8, .int (v8 + (1 : Int32))), (9, .int (b2i q8.1)), (0, .ref (E.2.1 0)), (1, .int v1), (2, .int v2), (3, .long v3), (5, .int v5), (6, .int v6), (7, .int v7)] g d_FR_turning_167 rfl (v := (1 : Int32)) (by decide +kernel) (by decide) rfl ?_
            refine v_goto 73 g d_FR_turning_170 (by decide) ?_
            exact v_sub [2,3,4,5,6,7,8,0] rfl (hk73 v1 v2 v3 v5 v6 v7 (v8 + (1 : Int32)) q9.2)
          · refine v_iload 7 g d_FR_turning_159 rfl ?_
            refine v_iload 8 g d_FR_turning_161 rfl ?_
            refine v_callI (r_S (rest := []) [.int v7, .int v8] g (m1 667 (by decide +kernel) (by decide +kernel)) ys_FR_pairOf (fun r σ1 h => sp_FR_pairOf g.2.2.1  h) rfl rfl (by decide) (Nat.le_of_ble_eq_true rfl) d_FR_turning_163) (fun q11 => ?_)
            exact v_ret d_FR_turning_166 rfl
def L_FR_turning_73 (k55 : Int32 → Int32 → Int64 → Int32 → Int32 → Int32 → Sto → Option (Int32 × Sto)) : Nat → Int32 → Int32 → Int64 → Int32 → Int32 → Int32 → Int32 → Sto → Option (Int32 × Sto)
  | 0, _, _, _, _, _, _, _, _ => none
  | fu + 1, v1, v2, v3, v5, v6, v7, v8, σ => B_FR_turning_73 k55 (L_FR_turning_73 k55 fu) v1 v2 v3 v5 v6 v7 v8 σ
theorem vL_FR_turning_73 {X : Xt} {E : En} (g : GG X E 69 b_FR_turning R_FR 10) {k55 : Int32 → Int32 → Int64 → Int32 → Int32 → Int32 → Sto → Option (Int32 × Sto)} (hk55 : ∀ (v1 : Int32) (v2 : Int32) (v3 : Int64) (v5 : Int32) (v6 : Int32) (v7 : Int32) (σ : Sto), VV X E b_FR_turning 10 eI 55 [(0, .ref (E.2.1 0)), (1, .int v1), (2, .int v2), (3, .long v3), (5, .int v5), (6, .int v6), (7, .int v7)] [] σ (k55 v1 v2 v3 v5 v6 v7 σ)) (fu : Nat) : ∀ (v1 : Int32) (v2 : Int32) (v3 : Int64) (v5 : Int32) (v6 : Int32) (v7 : Int32) (v8 : Int32) (σ : Sto), VV X E b_FR_turning 10 eI 73 [(0, .ref (E.2.1 0)), (1, .int v1), (2, .int v2), (3, .long v3), (5, .int v5), (6, .int v6), (7, .int v7), (8, .int v8)] [] σ (L_FR_turning_73 k55 fu v1 v2 v3 v5 v6 v7 v8 σ) := by
  induction fu with
  | zero => intros; exact v_none
  | succ fu ih =>
    intro v1 v2 v3 v5 v6 v7 v8 σ
    exact vB_FR_turning_73 g hk55 ih v1 v2 v3 v5 v6 v7 v8 σ
def B_FR_turning_55 (k55 : Int32 → Int32 → Int64 → Int32 → Int32 → Int32 → Sto → Option (Int32 × Sto)) (v1 : Int32) (v2 : Int32) (v3 : Int64) (v5 : Int32) (v6 : Int32) (v7 : Int32) (σ : Sto) : Option (Int32 × Sto) :=
  (if (gI σ 1 0) ≤ v7 then some ((-1 : Int32), σ)
 else L_FR_turning_73 k55 LF v1 v2 v3 v5 v6 v7 (v7 + (1 : Int32)) σ)
set_option maxHeartbeats 4000000 in
set_option maxRecDepth 100000 in
theorem vB_FR_turning_55 {X : Xt} {E : En} (g : GG X E 69 b_FR_turning R_FR 10) {k55 : Int32 → Int32 → Int64 → Int32 → Int32 → Int32 → Sto → Option (Int32 × Sto)} (hk55 : ∀ (v1 : Int32) (v2 : Int32) (v3 : Int64) (v5 : Int32) (v6 : Int32) (v7 : Int32) (σ : Sto), VV X E b_FR_turning 10 eI 55 [(0, .ref (E.2.1 0)), (1, .int v1), (2, .int v2), (3, .long v3), (5, .int v5), (6, .int v6), (7, .int v7)] [] σ (k55 v1 v2 v3 v5 v6 v7 σ)) (v1 : Int32) (v2 : Int32) (v3 : Int64) (v5 : Int32) (v6 : Int32) (v7 : Int32) (σ : Sto) : VV X E b_FR_turning 10 eI 55 [(0, .ref (E.2.1 0)), (1, .int v1), (2, .int v2), (3, .long v3), (5, .int v5), (6, .int v6), (7, .int v7)] [] σ (B_FR_turning_55 k55 v1 v2 v3 v5 v6 v7 σ) := by
  unfold B_FR_turning_55
  refine v_iload 6 g d_FR_turning_55 rfl ?_
  refine v_aload_n 0 g d_FR_turning_57 rfl ?_
  refine v_getR 1 g ff_FR_10 rfl rfl rfl d_FR_turning_58 ?_
  refine v_getI g ff_FR_241 rfl rfl d_FR_turning_61 ?_
  refine v_icmp_ge 179 g d_FR_turning_64 (by decide) (fun _ => ?_) (fun _ => ?_)
  · refine v_iconst (v := (-1 : Int32)) g d_FR_turning_179 (by decide +kernel) ?_
    exact v_ret d_FR_turning_180 rfl
  · refine v_iload 6 g d_FR_turning_67 rfl ?_
    refine v_iconst (v := (1 : Int32)) g d_FR_turning_69 (by decide +kernel) ?_
    refine v_iadd g d_FR_turning_70 ?_
    refine v_istore [(8, .int (v7 + (1 : Int32))), (0, .ref (E.2.1 0)), (1, .int v1), (2, .int v2), (3, .long v3), (5, .int v5), (6, .int v6), (7, .int v7)] g d_FR_turning_71 (by decide) rfl ?_
    exact v_sub [1,2,3,4,5,6,7,0] rfl (vL_FR_turning_73 g hk55 LF v1 v2 v3 v5 v6 v7 (v7 + (1 : Int32)) σ)
def L_FR_turning_55 : Nat → Int32 → Int32 → Int64 → Int32 → Int32 → Int32 → Sto → Option (Int32 × Sto)
  | 0, _, _, _, _, _, _, _ => none
  | fu + 1, v1, v2, v3, v5, v6, v7, σ => B_FR_turning_55 (L_FR_turning_55 fu) v1 v2 v3 v5 v6 v7 σ
theorem vL_FR_turning_55 {X : Xt} {E : En} (g : GG X E 69 b_FR_turning R_FR 10) (fu : Nat) : ∀ (v1 : Int32) (v2 : Int32) (v3 : Int64) (v5 : Int32) (v6 : Int32) (v7 : Int32) (σ : Sto), VV X E b_FR_turning 10 eI 55 [(0, .ref (E.2.1 0)), (1, .int v1), (2, .int v2), (3, .long v3), (5, .int v5), (6, .int v6), (7, .int v7)] [] σ (L_FR_turning_55 fu v1 v2 v3 v5 v6 v7 σ) := by
  induction fu with
  | zero => intros; exact v_none
  | succ fu ih =>
    intro v1 v2 v3 v5 v6 v7 σ
    exact vB_FR_turning_55 g ih v1 v2 v3 v5 v6 v7 σ
def B_FR_turning_0 (a1 : Int32) (a2 : Int32) (a3 : Int64) (a5 : Int32) (σ : Sto) : Option (Int32 × Sto) :=
  ((f_FR_isAsked a1 a2 a3 σ).bind fun q1 => (if (b2i q1.1) = 0 then some ((-2 : Int32), q1.2)
 else ((f_FR_isBit a5 q1.2).bind fun q2 => (if (b2i q2.1) = 0 then some ((-2 : Int32), q2.2)
  else ((f_JLong_bitCount a3 q2.2).bind fun q3 => (if q3.1 ≤ (16 : Int32) then ((f_Finder_search 1 a1 a2 a3 q3.2).bind fun q4 => L_FR_turning_55 LF a1 a2 a3 a5 (q4.1 + a5) (0 : Int32) q4.2)
   else some ((-5 : Int32), q3.2)))))))
set_option maxHeartbeats 4000000 in
set_option maxRecDepth 100000 in
theorem vB_FR_turning_0 {X : Xt} {E : En} (g : GG X E 69 b_FR_turning R_FR 10) (a1 : Int32) (a2 : Int32) (a3 : Int64) (a5 : Int32) (σ : Sto) : VV X E b_FR_turning 10 eI 0 [(0, .ref (E.2.1 0)), (1, .int a1), (2, .int a2), (3, .long a3), (5, .int a5)] [] σ (B_FR_turning_0 a1 a2 a3 a5 σ) := by
  unfold B_FR_turning_0
  refine v_aload_n 0 g d_FR_turning_0 rfl ?_
  refine v_iload_n 1 g d_FR_turning_1 rfl ?_
  refine v_iload_n 2 g d_FR_turning_2 rfl ?_
  refine v_lload_n 3 g d_FR_turning_3 rfl ?_
  refine v_callB (r_V (rest := []) [.int a1, .int a2, .long a3] g (m1 529 (by decide +kernel) (by decide +kernel)) yv_FR_isAsked rfl (fun r σ1 h => sp_FR_isAsked g.2.2.1  h) rfl rfl (by decide) (Nat.le_of_ble_eq_true rfl) d_FR_turning_4) (fun q1 => ?_)
  refine v_if_eq 18 g d_FR_turning_7 (by decide) (fun _ => ?_) (fun _ => ?_)
  · refine v_bipush (v := (-2 : Int32)) g d_FR_turning_18 (by decide +kernel) ?_
    exact v_ret d_FR_turning_20 rfl
  · refine v_iload 4 g d_FR_turning_10 rfl ?_
    refine v_callB (r_S (rest := []) [.int a5] g (m1 414 (by decide +kernel) (by decide +kernel)) ys_FR_isBit (fun r σ1 h => sp_FR_isBit g.2.2.1  h) rfl rfl (by decide) (Nat.le_of_ble_eq_true rfl) d_FR_turning_12) (fun q2 => ?_)
    refine v_if_ne 21 g d_FR_turning_15 (by decide) (fun _ => ?_) (fun _ => ?_)
    · refine v_lload_n 3 g d_FR_turning_21 rfl ?_
      refine v_callI (r_S (rest := []) [.long a3] g (m1 400 (by decide +kernel) (by decide +kernel)) ys_JLong_bitCount (fun r σ1 h => sp_JLong_bitCount g.2.2.1  h) rfl rfl (by decide) (Nat.le_of_ble_eq_true rfl) d_FR_turning_22) (fun q3 => ?_)
      refine v_bipush (v := (16 : Int32)) g d_FR_turning_25 (by decide +kernel) ?_
      refine v_icmp_le 33 g d_FR_turning_27 (by decide) (fun _ => ?_) (fun _ => ?_)
      · refine v_aload_n 0 g d_FR_turning_33 rfl ?_
        refine v_getR 26 g ff_FR_47 rfl rfl rfl d_FR_turning_34 ?_
        refine v_aload_n 0 g d_FR_turning_37 rfl ?_
        refine v_getR 1 g ff_FR_10 rfl rfl rfl d_FR_turning_38 ?_
        refine v_iload_n 1 g d_FR_turning_41 rfl ?_
        refine v_iload_n 2 g d_FR_turning_42 rfl ?_
        refine v_lload_n 3 g d_FR_turning_43 rfl ?_
        refine v_callI (r_V (rest := []) [.ref (E.2.1 1), .int a1, .int a2, .long a3] g (m1 638 (by decide +kernel) (by decide +kernel)) yv_Finder_search rfl (fun r σ1 h => sp_Finder_search g.2.2.1 rfl h) rfl rfl (by decide) (Nat.le_of_ble_eq_true rfl) d_FR_turning_44) (fun q4 => ?_)
        refine v_iload 4 g d_FR_turning_47 rfl ?_
        refine v_iadd g d_FR_turning_49 ?_
        refine v_istore [(6, .int (q4.1 + a5)), (0, .ref (E.2.1 0)), (1, .int a1), (2, .int a2), (3, .long a3), (5, .int a5)] g d_FR_turning_50 (by decide) rfl ?_
        refine v_iconst (v := (0 : Int32)) g d_FR_turning_52 (by decide +kernel) ?_
        refine v_istore [(7, .int (0 : Int32)), (6, .int (q4.1 + a5)), (0, .ref (E.2.1 0)), (1, .int a1), (2, .int a2), (3, .long a3), (5, .int a5)] g d_FR_turning_53 (by decide) rfl ?_
        exact v_sub [2,3,4,5,6,1,0] rfl (vL_FR_turning_55 g LF a1 a2 a3 a5 (q4.1 + a5) (0 : Int32) q4.2)
      · refine v_bipush (v := (-5 : Int32)) g d_FR_turning_30 (by decide +kernel) ?_
        exact v_ret d_FR_turning_32 rfl
    · refine v_bipush (v := (-2 : Int32)) g d_FR_turning_18 (by decide +kernel) ?_
      exact v_ret d_FR_turning_20 rfl
def f_FR_turning (a1 : Int32) (a2 : Int32) (a3 : Int64) (a5 : Int32) (σ : Sto) : Option (Int32 × Sto) := B_FR_turning_0 a1 a2 a3 a5 σ
theorem sp_FR_turning {l : Launch} {E : En} (hE : Dj E) {a1 : Int32} {a2 : Int32} {a3 : Int64} {a5 : Int32} {σ : Sto} {r : Int32} {σ' : Sto} (h : f_FR_turning a1 a2 a3 a5 σ = some (r, σ')) : Ct l E y_FR_turning (wsM y_FR_turning b_FR_turning 10 (some .int)) 69 [.ref (E.2.1 0), .int a1, .int a2, .long a3, .int a5] σ (eI r) σ' :=
  ct_of hE (by decide +kernel) (Nat.le_of_ble_eq_true rfl) (fun x => Or.inl ⟨rfl, x, rfl⟩) (fun X _ g => vB_FR_turning_0 g a1 a2 a3 a5 σ) r σ' h
/-! method FittingRings.fewest(IJ)I -/
theorem yv_FR_fewest : YV y_FR_fewest b_FR_fewest 4 (some .int) 2 9 := ⟨m1 671 (by decide +kernel) (by decide +kernel), m1 672 (by decide +kernel) (by decide +kernel), ini_FR, m1 673 (by decide +kernel) (by decide +kernel), ⟨by decide +kernel, by decide +kernel, by decide +kernel⟩, by decide, by decide, T_FR, 11, rfl⟩
theorem d_FR_fewest_0 : decode b_FR_fewest 0 = .ok (.aload_n 0, 1) := by decide +kernel
theorem d_FR_fewest_1 : decode b_FR_fewest 1 = .ok (.iload_n 1, 1) := by decide +kernel
theorem d_FR_fewest_2 : decode b_FR_fewest 2 = .ok (.lload_n 2, 1) := by decide +kernel
theorem d_FR_fewest_3 : decode b_FR_fewest 3 = .ok (.invokevirtual 156, 3) := by decide +kernel
theorem d_FR_fewest_6 : decode b_FR_fewest 6 = .ok (.ifCond .ne 6, 3) := by decide +kernel
theorem d_FR_fewest_9 : decode b_FR_fewest 9 = .ok (.bipush (-2), 2) := by decide +kernel
theorem d_FR_fewest_11 : decode b_FR_fewest 11 = .ok (.ireturn, 1) := by decide +kernel
theorem d_FR_fewest_12 : decode b_FR_fewest 12 = .ok (.lload_n 2, 1) := by decide +kernel
theorem d_FR_fewest_13 : decode b_FR_fewest 13 = .ok (.invokestatic 108, 3) := by decide +kernel
theorem d_FR_fewest_16 : decode b_FR_fewest 16 = .ok (.bipush 10, 2) := by decide +kernel
theorem d_FR_fewest_18 : decode b_FR_fewest 18 = .ok (.if_icmp .le 6, 3) := by decide +kernel
theorem d_FR_fewest_21 : decode b_FR_fewest 21 = .ok (.bipush (-5), 2) := by decide +kernel
theorem d_FR_fewest_23 : decode b_FR_fewest 23 = .ok (.ireturn, 1) := by decide +kernel
theorem d_FR_fewest_24 : decode b_FR_fewest 24 = .ok (.aload_n 0, 1) := by decide +kernel
theorem d_FR_fewest_25 : decode b_FR_fewest 25 = .ok (.getfield 47, 3) := by decide +kernel
theorem d_FR_fewest_28 : decode b_FR_fewest 28 = .ok (.aload_n 0, 1) := by decide +kernel
theorem d_FR_fewest_29 : decode b_FR_fewest 29 = .ok (.getfield 10, 3) := by decide +kernel
theorem d_FR_fewest_32 : decode b_FR_fewest 32 = .ok (.iload_n 1, 1) := by decide +kernel
theorem d_FR_fewest_33 : decode b_FR_fewest 33 = .ok (.lload_n 2, 1) := by decide +kernel
theorem d_FR_fewest_34 : decode b_FR_fewest 34 = .ok (.invokevirtual 259, 3) := by decide +kernel
theorem d_FR_fewest_37 : decode b_FR_fewest 37 = .ok (.ireturn, 1) := by decide +kernel
def B_FR_fewest_0 (a1 : Int32) (a2 : Int64) (σ : Sto) : Option (Int32 × Sto) :=
  ((f_FR_isSideAndSet a1 a2 σ).bind fun q1 => (if (b2i q1.1) = 0 then some ((-2 : Int32), q1.2)
 else ((f_JLong_bitCount a2 q1.2).bind fun q2 => (if q2.1 ≤ (10 : Int32) then ((f_Finder_fewestParts 1 a1 a2 q2.2).bind fun q3 => some (q3.1, q3.2))
  else some ((-5 : Int32), q2.2)))))
set_option maxHeartbeats 4000000 in
set_option maxRecDepth 100000 in
theorem vB_FR_fewest_0 {X : Xt} {E : En} (g : GG X E 69 b_FR_fewest R_FR 4) (a1 : Int32) (a2 : Int64) (σ : Sto) : VV X E b_FR_fewest 4 eI 0 [(0, .ref (E.2.1 0)), (1, .int a1), (2, .long a2)] [] σ (B_FR_fewest_0 a1 a2 σ) := by
  unfold B_FR_fewest_0
  refine v_aload_n 0 g d_FR_fewest_0 rfl ?_
  refine v_iload_n 1 g d_FR_fewest_1 rfl ?_
  refine v_lload_n 2 g d_FR_fewest_2 rfl ?_
  refine v_callB (r_V (rest := []) [.int a1, .long a2] g (m1 473 (by decide +kernel) (by decide +kernel)) yv_FR_isSideAndSet rfl (fun r σ1 h => sp_FR_isSideAndSet g.2.2.1  h) rfl rfl (by decide) (Nat.le_of_ble_eq_true rfl) d_FR_fewest_3) (fun q1 => ?_)
  refine v_if_ne 12 g d_FR_fewest_6 (by decide) (fun _ => ?_) (fun _ => ?_)
  · refine v_lload_n 2 g d_FR_fewest_12 rfl ?_
    refine v_callI (r_S (rest := []) [.long a2] g (m1 400 (by decide +kernel) (by decide +kernel)) ys_JLong_bitCount (fun r σ1 h => sp_JLong_bitCount g.2.2.1  h) rfl rfl (by decide) (Nat.le_of_ble_eq_true rfl) d_FR_fewest_13) (fun q2 => ?_)
    refine v_bipush (v := (10 : Int32)) g d_FR_fewest_16 (by decide +kernel) ?_
    refine v_icmp_le 24 g d_FR_fewest_18 (by decide) (fun _ => ?_) (fun _ => ?_)
    · refine v_aload_n 0 g d_FR_fewest_24 rfl ?_
      refine v_getR 26 g ff_FR_47 rfl rfl rfl d_FR_fewest_25 ?_
      refine v_aload_n 0 g d_FR_fewest_28 rfl ?_
      refine v_getR 1 g ff_FR_10 rfl rfl rfl d_FR_fewest_29 ?_
      refine v_iload_n 1 g d_FR_fewest_32 rfl ?_
      refine v_lload_n 2 g d_FR_fewest_33 rfl ?_
      refine v_callI (r_V (rest := []) [.ref (E.2.1 1), .int a1, .long a2] g (m1 674 (by decide +kernel) (by decide +kernel)) yv_Finder_fewestParts rfl (fun r σ1 h => sp_Finder_fewestParts g.2.2.1 rfl h) rfl rfl (by decide) (Nat.le_of_ble_eq_true rfl) d_FR_fewest_34) (fun q3 => ?_)
      exact v_ret d_FR_fewest_37 rfl
    · refine v_bipush (v := (-5 : Int32)) g d_FR_fewest_21 (by decide +kernel) ?_
      exact v_ret d_FR_fewest_23 rfl
  · refine v_bipush (v := (-2 : Int32)) g d_FR_fewest_9 (by decide +kernel) ?_
    exact v_ret d_FR_fewest_11 rfl
def f_FR_fewest (a1 : Int32) (a2 : Int64) (σ : Sto) : Option (Int32 × Sto) := B_FR_fewest_0 a1 a2 σ
theorem sp_FR_fewest {l : Launch} {E : En} (hE : Dj E) {a1 : Int32} {a2 : Int64} {σ : Sto} {r : Int32} {σ' : Sto} (h : f_FR_fewest a1 a2 σ = some (r, σ')) : Ct l E y_FR_fewest (wsM y_FR_fewest b_FR_fewest 4 (some .int)) 69 [.ref (E.2.1 0), .int a1, .long a2] σ (eI r) σ' :=
  ct_of hE (by decide +kernel) (Nat.le_of_ble_eq_true rfl) (fun x => Or.inl ⟨rfl, x, rfl⟩) (fun X _ g => vB_FR_fewest_0 g a1 a2 σ) r σ' h
/-! method FittingRings.better(IJJ)J -/
theorem yv_FR_better : YV y_FR_better b_FR_better 11 (some .long) 3 9 := ⟨m1 683 (by decide +kernel) (by decide +kernel), m1 684 (by decide +kernel) (by decide +kernel), ini_FR, m1 685 (by decide +kernel) (by decide +kernel), ⟨by decide +kernel, by decide +kernel, by decide +kernel⟩, by decide, by decide, T_FR, 11, rfl⟩
theorem d_FR_better_0 : decode b_FR_better 0 = .ok (.aload_n 0, 1) := by decide +kernel
theorem d_FR_better_1 : decode b_FR_better 1 = .ok (.iload_n 1, 1) := by decide +kernel
theorem d_FR_better_2 : decode b_FR_better 2 = .ok (.lload 4, 2) := by decide +kernel
theorem d_FR_better_4 : decode b_FR_better 4 = .ok (.invokevirtual 156, 3) := by decide +kernel
theorem d_FR_better_7 : decode b_FR_better 7 = .ok (.ifCond .ne 7, 3) := by decide +kernel
theorem d_FR_better_10 : decode b_FR_better 10 = .ok (.ldc2_w 146, 3) := by decide +kernel
theorem d_FR_better_13 : decode b_FR_better 13 = .ok (.lreturn, 1) := by decide +kernel
theorem d_FR_better_14 : decode b_FR_better 14 = .ok (.lload_n 2, 1) := by decide +kernel
theorem d_FR_better_15 : decode b_FR_better 15 = .ok (.lload 4, 2) := by decide +kernel
theorem d_FR_better_17 : decode b_FR_better 17 = .ok (.ldc2_w 263, 3) := by decide +kernel
theorem d_FR_better_20 : decode b_FR_better 20 = .ok (.lxor, 1) := by decide +kernel
theorem d_FR_better_21 : decode b_FR_better 21 = .ok (.land, 1) := by decide +kernel
theorem d_FR_better_22 : decode b_FR_better 22 = .ok (.lconst 0, 1) := by decide +kernel
theorem d_FR_better_23 : decode b_FR_better 23 = .ok (.lcmp, 1) := by decide +kernel
theorem d_FR_better_24 : decode b_FR_better 24 = .ok (.ifCond .ne 15, 3) := by decide +kernel
theorem d_FR_better_27 : decode b_FR_better 27 = .ok (.aload_n 0, 1) := by decide +kernel
theorem d_FR_better_28 : decode b_FR_better 28 = .ok (.getfield 10, 3) := by decide +kernel
theorem d_FR_better_31 : decode b_FR_better 31 = .ok (.iload_n 1, 1) := by decide +kernel
theorem d_FR_better_32 : decode b_FR_better 32 = .ok (.lload_n 2, 1) := by decide +kernel
theorem d_FR_better_33 : decode b_FR_better 33 = .ok (.invokevirtual 160, 3) := by decide +kernel
theorem d_FR_better_36 : decode b_FR_better 36 = .ok (.ifCond .ne 7, 3) := by decide +kernel
theorem d_FR_better_39 : decode b_FR_better 39 = .ok (.ldc2_w 265, 3) := by decide +kernel
theorem d_FR_better_42 : decode b_FR_better 42 = .ok (.lreturn, 1) := by decide +kernel
theorem d_FR_better_43 : decode b_FR_better 43 = .ok (.lload_n 2, 1) := by decide +kernel
theorem d_FR_better_44 : decode b_FR_better 44 = .ok (.lstore 6, 2) := by decide +kernel
theorem d_FR_better_46 : decode b_FR_better 46 = .ok (.iconst 0, 1) := by decide +kernel
theorem d_FR_better_47 : decode b_FR_better 47 = .ok (.istore 8, 2) := by decide +kernel
theorem d_FR_better_49 : decode b_FR_better 49 = .ok (.iload 8, 2) := by decide +kernel
theorem d_FR_better_51 : decode b_FR_better 51 = .ok (.bipush 40, 2) := by decide +kernel
theorem d_FR_better_53 : decode b_FR_better 53 = .ok (.if_icmp .ge 60, 3) := by decide +kernel
theorem d_FR_better_56 : decode b_FR_better 56 = .ok (.aload_n 0, 1) := by decide +kernel
theorem d_FR_better_57 : decode b_FR_better 57 = .ok (.getfield 10, 3) := by decide +kernel
theorem d_FR_better_60 : decode b_FR_better 60 = .ok (.iload_n 1, 1) := by decide +kernel
theorem d_FR_better_61 : decode b_FR_better 61 = .ok (.lload 6, 2) := by decide +kernel
theorem d_FR_better_63 : decode b_FR_better 63 = .ok (.lload 4, 2) := by decide +kernel
theorem d_FR_better_65 : decode b_FR_better 65 = .ok (.invokevirtual 267, 3) := by decide +kernel
theorem d_FR_better_68 : decode b_FR_better 68 = .ok (.lstore 9, 2) := by decide +kernel
theorem d_FR_better_70 : decode b_FR_better 70 = .ok (.lload 9, 2) := by decide +kernel
theorem d_FR_better_72 : decode b_FR_better 72 = .ok (.lload 6, 2) := by decide +kernel
theorem d_FR_better_74 : decode b_FR_better 74 = .ok (.lcmp, 1) := by decide +kernel
theorem d_FR_better_75 : decode b_FR_better 75 = .ok (.ifCond .ne 17, 3) := by decide +kernel
theorem d_FR_better_78 : decode b_FR_better 78 = .ok (.aload_n 0, 1) := by decide +kernel
theorem d_FR_better_79 : decode b_FR_better 79 = .ok (.getfield 10, 3) := by decide +kernel
theorem d_FR_better_82 : decode b_FR_better 82 = .ok (.iload_n 1, 1) := by decide +kernel
theorem d_FR_better_83 : decode b_FR_better 83 = .ok (.lload 6, 2) := by decide +kernel
theorem d_FR_better_85 : decode b_FR_better 85 = .ok (.lload 4, 2) := by decide +kernel
theorem d_FR_better_87 : decode b_FR_better 87 = .ok (.invokevirtual 271, 3) := by decide +kernel
theorem d_FR_better_90 : decode b_FR_better 90 = .ok (.lstore 9, 2) := by decide +kernel
theorem d_FR_better_92 : decode b_FR_better 92 = .ok (.lload 9, 2) := by decide +kernel
theorem d_FR_better_94 : decode b_FR_better 94 = .ok (.lload 6, 2) := by decide +kernel
theorem d_FR_better_96 : decode b_FR_better 96 = .ok (.lcmp, 1) := by decide +kernel
theorem d_FR_better_97 : decode b_FR_better 97 = .ok (.ifCond .ne 6, 3) := by decide +kernel
theorem d_FR_better_100 : decode b_FR_better 100 = .ok (.goto 13, 3) := by decide +kernel
theorem d_FR_better_103 : decode b_FR_better 103 = .ok (.lload 9, 2) := by decide +kernel
theorem d_FR_better_105 : decode b_FR_better 105 = .ok (.lstore 6, 2) := by decide +kernel
theorem d_FR_better_107 : decode b_FR_better 107 = .ok (.iinc 8 1, 3) := by decide +kernel
theorem d_FR_better_110 : decode b_FR_better 110 = .ok (.goto (-61), 3) := by decide +kernel
theorem d_FR_better_113 : decode b_FR_better 113 = .ok (.lload 6, 2) := by decide +kernel
theorem d_FR_better_115 : decode b_FR_better 115 = .ok (.lreturn, 1) := by decide +kernel
def B_FR_better_49 (k49 : Int32 → Int64 → Int64 → Int32 → Sto → Option (Int64 × Sto)) (v1 : Int32) (v4 : Int64) (v6 : Int64) (v8 : Int32) (σ : Sto) : Option (Int64 × Sto) :=
  (if (40 : Int32) ≤ v8 then some (v6, σ)
 else ((f_Net_withOneMore 1 v1 v6 v4 σ).bind fun q3 => (if q3.1 = v6 then ((f_Net_withTwoForOne 1 v1 v6 v4 q3.2).bind fun q4 => (if q4.1 = v6 then some (v6, q4.2)
   else k49 v1 v4 q4.1 (v8 + (1 : Int32)) q4.2))
  else (if q3.1 = v6 then some (v6, q3.2)
   else k49 v1 v4 q3.1 (v8 + (1 : Int32)) q3.2))))
set_option maxHeartbeats 4000000 in
set_option maxRecDepth 100000 in
theorem vB_FR_better_49 {X : Xt} {E : En} (g : GG X E 5 b_FR_better R_FR 11) {k49 : Int32 → Int64 → Int64 → Int32 → Sto → Option (Int64 × Sto)} (hk49 : ∀ (v1 : Int32) (v4 : Int64) (v6 : Int64) (v8 : Int32) (σ : Sto), VV X E b_FR_better 11 eL 49 [(0, .ref (E.2.1 0)), (1, .int v1), (4, .long v4), (6, .long v6), (8, .int v8)] [] σ (k49 v1 v4 v6 v8 σ)) (v1 : Int32) (v4 : Int64) (v6 : Int64) (v8 : Int32) (σ : Sto) : VV X E b_FR_better 11 eL 49 [(0, .ref (E.2.1 0)), (1, .int v1), (4, .long v4), (6, .long v6), (8, .int v8)] [] σ (B_FR_better_49 k49 v1 v4 v6 v8 σ) := by
  unfold B_FR_better_49
  refine v_iload 4 g d_FR_better_49 rfl ?_
  refine v_bipush (v := (40 : Int32)) g d_FR_better_51 (by decide +kernel) ?_
  refine v_icmp_ge 113 g d_FR_better_53 (by decide) (fun _ => ?_) (fun _ => ?_)
  · refine v_lload 3 g d_FR_better_113 rfl ?_
    exact v_ret d_FR_better_115 rfl
  · refine v_aload_n 0 g d_FR_better_56 rfl ?_
    refine v_getR 1 g ff_FR_10 rfl rfl rfl d_FR_better_57 ?_
    refine v_iload_n 1 g d_FR_better_60 rfl ?_
    refine v_lload 3 g d_FR_better_61 rfl ?_
    refine v_lload 2 g d_FR_better_63 rfl ?_
    refine v_callL (r_V (rest := []) [.int v1, .long v6, .long v4] g (m1 688 (by decide +kernel) (by decide +kernel)) yv_Net_withOneMore rfl (fun r σ1 h => sp_Net_withOneMore g.2.2.1 rfl h) rfl rfl (by decide) (Nat.le_of_ble_eq_true rfl) d_FR_better_65) (fun q3 => ?_)
    refine v_lstore [(9, .long q3.1), (0, .ref (E.2.1 0)), (1, .int v1), (4, .long v4), (6, .long v6), (8, .int v8)] g d_FR_better_68 (by decide) rfl ?_
    refine v_lload 0 g d_FR_better_70 rfl ?_
    refine v_lload 4 g d_FR_better_72 rfl ?_
    refine v_lcmp_ne 92 g d_FR_better_74 d_FR_better_75 (by decide) (fun _ => ?_) (fun _ => ?_)
    · refine v_lload 0 g d_FR_better_92 rfl ?_
      refine v_lload 4 g d_FR_better_94 rfl ?_
      refine v_lcmp_ne 103 g d_FR_better_96 d_FR_better_97 (by decide) (fun _ => ?_) (fun _ => ?_)
      · refine v_lload 0 g d_FR_better_103 rfl ?_
        refine v_lstore [(6, .long q3.1), (9, .long q3.1), (0, .ref (E.2.1 0)), (1, .int v1), (4, .long v4), (8, .int v8)] g d_FR_better_105 (by decide) rfl ?_
        refine v_iinc 5 [(8, .int (v8 + (1 : Int32))), (6, .long q3.1), (9, .long q3.1), (0, .ref (E.2.1 0)), (1, .int v1), (4, .long v4)] g d_FR_better_107 rfl (v := (1 : Int32)) (by decide +kernel) (by decide) rfl ?_
        refine v_goto 49 g d_FR_better_110 (by decide) ?_
        exact v_sub [3,4,5,1,0] rfl (hk49 v1 v4 q3.1 (v8 + (1 : Int32)) q3.2)
      · refine v_goto 113 g d_FR_better_100 (by decide) ?_
        refine v_lload 4 g d_FR_better_113 rfl ?_
        exact v_ret d_FR_better_115 rfl
    · refine v_aload_n 1 g d_FR_better_78 rfl ?_
      refine v_getR 1 g ff_FR_10 rfl rfl rfl d_FR_better_79 ?_
      refine v_iload_n 2 g d_FR_better_82 rfl ?_
      refine v_lload 4 g d_FR_better_83 rfl ?_
      refine v_lload 3 g d_FR_better_85 rfl ?_
      refine v_callL (r_V (rest := []) [.int v1, .long v6, .long v4] g (m1 696 (by decide +kernel) (by decide +kernel)) yv_Net_withTwoForOne rfl (fun r σ1 h => sp_Net_withTwoForOne g.2.2.1 rfl h) rfl rfl (by decide) (Nat.le_of_ble_eq_true rfl) d_FR_better_87) (fun q4 => ?_)
      refine v_lstore [(9, .long q4.1), (0, .ref (E.2.1 0)), (1, .int v1), (4, .long v4), (6, .long v6), (8, .int v8)] g d_FR_better_90 (by decide) rfl ?_
      refine v_lload 0 g d_FR_better_92 rfl ?_
      refine v_lload 4 g d_FR_better_94 rfl ?_
      refine v_lcmp_ne 103 g d_FR_better_96 d_FR_better_97 (by decide) (fun _ => ?_) (fun _ => ?_)
      · refine v_lload 0 g d_FR_better_103 rfl ?_
        refine v_lstore [(6, .long q4.1), (9, .long q4.1), (0, .ref (E.2.1 0)), (1, .int v1), (4, .long v4), (8, .int v8)] g d_FR_better_105 (by decide) rfl ?_
        refine v_iinc 5 [(8, .int (v8 + (1 : Int32))), (6, .long q4.1), (9, .long q4.1), (0, .ref (E.2.1 0)), (1, .int v1), (4, .long v4)] g d_FR_better_107 rfl (v := (1 : Int32)) (by decide +kernel) (by decide) rfl ?_
        refine v_goto 49 g d_FR_better_110 (by decide) ?_
        exact v_sub [3,4,5,1,0] rfl (hk49 v1 v4 q4.1 (v8 + (1 : Int32)) q4.2)
      · refine v_goto 113 g d_FR_better_100 (by decide) ?_
        refine v_lload 4 g d_FR_better_113 rfl ?_
        exact v_ret d_FR_better_115 rfl
def L_FR_better_49 : Nat → Int32 → Int64 → Int64 → Int32 → Sto → Option (Int64 × Sto)
  | 0, _, _, _, _, _ => none
  | fu + 1, v1, v4, v6, v8, σ => B_FR_better_49 (L_FR_better_49 fu) v1 v4 v6 v8 σ
theorem vL_FR_better_49 {X : Xt} {E : En} (g : GG X E 5 b_FR_better R_FR 11) (fu : Nat) : ∀ (v1 : Int32) (v4 : Int64) (v6 : Int64) (v8 : Int32) (σ : Sto), VV X E b_FR_better 11 eL 49 [(0, .ref (E.2.1 0)), (1, .int v1), (4, .long v4), (6, .long v6), (8, .int v8)] [] σ (L_FR_better_49 fu v1 v4 v6 v8 σ) := by
  induction fu with
  | zero => intros; exact v_none
  | succ fu ih =>
    intro v1 v4 v6 v8 σ
    exact vB_FR_better_49 g ih v1 v4 v6 v8 σ
def B_FR_better_0 (a1 : Int32) (a2 : Int64) (a4 : Int64) (σ : Sto) : Option (Int64 × Sto) :=
  ((f_FR_isSideAndSet a1 a4 σ).bind fun q1 => (if (b2i q1.1) = 0 then some ((-2 : Int64), q1.2)
 else (if (a2 &&& (a4 ^^^ (-1 : Int64))) = (0 : Int64) then ((f_Net_allFit 1 a1 a2 q1.2).bind fun q2 => (if (b2i q2.1) = 0 then some ((-3 : Int64), q2.2)
   else L_FR_better_49 LF a1 a4 a2 (0 : Int32) q2.2))
  else some ((-3 : Int64), q1.2))))
set_option maxHeartbeats 4000000 in
set_option maxRecDepth 100000 in
theorem vB_FR_better_0 {X : Xt} {E : En} (g : GG X E 5 b_FR_better R_FR 11) (a1 : Int32) (a2 : Int64) (a4 : Int64) (σ : Sto) : VV X E b_FR_better 11 eL 0 [(0, .ref (E.2.1 0)), (1, .int a1), (2, .long a2), (4, .long a4)] [] σ (B_FR_better_0 a1 a2 a4 σ) := by
  unfold B_FR_better_0
  refine v_aload_n 0 g d_FR_better_0 rfl ?_
  refine v_iload_n 1 g d_FR_better_1 rfl ?_
  refine v_lload 3 g d_FR_better_2 rfl ?_
  refine v_callB (r_V (rest := []) [.int a1, .long a4] g (m1 473 (by decide +kernel) (by decide +kernel)) yv_FR_isSideAndSet rfl (fun r σ1 h => sp_FR_isSideAndSet g.2.2.1  h) rfl rfl (by decide) (Nat.le_of_ble_eq_true rfl) d_FR_better_4) (fun q1 => ?_)
  refine v_if_ne 14 g d_FR_better_7 (by decide) (fun _ => ?_) (fun _ => ?_)
  · refine v_lload_n 2 g d_FR_better_14 rfl ?_
    refine v_lload 3 g d_FR_better_15 rfl ?_
    refine v_ldc2 (v := (-1 : Int64)) g (m1 686 (by decide +kernel) (by decide +kernel)) d_FR_better_17 ?_
    refine v_lxor g d_FR_better_20 ?_
    refine v_land g d_FR_better_21 ?_
    refine v_lconst (v := (0 : Int64)) g d_FR_better_22 (by decide +kernel) ?_
    refine v_lcmp_ne 39 g d_FR_better_23 d_FR_better_24 (by decide) (fun _ => ?_) (fun _ => ?_)
    · refine v_ldc2 (v := (-3 : Int64)) g (m1 687 (by decide +kernel) (by decide +kernel)) d_FR_better_39 ?_
      exact v_ret d_FR_better_42 rfl
    · refine v_aload_n 0 g d_FR_better_27 rfl ?_
      refine v_getR 1 g ff_FR_10 rfl rfl rfl d_FR_better_28 ?_
      refine v_iload_n 1 g d_FR_better_31 rfl ?_
      refine v_lload_n 2 g d_FR_better_32 rfl ?_
      refine v_callB (r_V (rest := []) [.int a1, .long a2] g (m1 477 (by decide +kernel) (by decide +kernel)) yv_Net_allFit rfl (fun r σ1 h => sp_Net_allFit g.2.2.1 rfl h) rfl rfl (by decide) (Nat.le_of_ble_eq_true rfl) d_FR_better_33) (fun q2 => ?_)
      refine v_if_ne 43 g d_FR_better_36 (by decide) (fun _ => ?_) (fun _ => ?_)
      · refine v_lload_n 2 g d_FR_better_43 rfl ?_
        refine v_lstore [(6, .long a2), (0, .ref (E.2.1 0)), (1, .int a1), (2, .long a2), (4, .long a4)] g d_FR_better_44 (by decide) rfl ?_
        refine v_iconst (v := (0 : Int32)) g d_FR_better_46 (by decide +kernel) ?_
        refine v_istore [(8, .int (0 : Int32)), (6, .long a2), (0, .ref (E.2.1 0)), (1, .int a1), (2, .long a2), (4, .long a4)] g d_FR_better_47 (by decide) rfl ?_
        exact v_sub [2,3,5,1,0] rfl (vL_FR_better_49 g LF a1 a4 a2 (0 : Int32) q2.2)
      · refine v_ldc2 (v := (-3 : Int64)) g (m1 687 (by decide +kernel) (by decide +kernel)) d_FR_better_39 ?_
        exact v_ret d_FR_better_42 rfl
  · refine v_ldc2 (v := (-2 : Int64)) g (m1 456 (by decide +kernel) (by decide +kernel)) d_FR_better_10 ?_
    exact v_ret d_FR_better_13 rfl
def f_FR_better (a1 : Int32) (a2 : Int64) (a4 : Int64) (σ : Sto) : Option (Int64 × Sto) := B_FR_better_0 a1 a2 a4 σ
theorem sp_FR_better {l : Launch} {E : En} (hE : Dj E) {a1 : Int32} {a2 : Int64} {a4 : Int64} {σ : Sto} {r : Int64} {σ' : Sto} (h : f_FR_better a1 a2 a4 σ = some (r, σ')) : Ct l E y_FR_better (wsM y_FR_better b_FR_better 11 (some .long)) 5 [.ref (E.2.1 0), .int a1, .long a2, .long a4] σ (eL r) σ' :=
  ct_of hE (by decide +kernel) (Nat.le_of_ble_eq_true rfl) (fun x => Or.inr (Or.inr (Or.inl ⟨rfl, x, rfl⟩))) (fun X _ g => vB_FR_better_0 g a1 a2 a4 σ) r σ' h
/-! method FittingRings.isClaim(IIIIJ)Z -/
theorem yv_FR_isClaim : YV y_FR_isClaim b_FR_isClaim 7 (some .boolean) 5 9 := ⟨m1 711 (by decide +kernel) (by decide +kernel), m1 12 (by decide +kernel) (by decide +kernel), ini_FR, m1 712 (by decide +kernel) (by decide +kernel), ⟨by decide +kernel, by decide +kernel, by decide +kernel⟩, by decide, by decide, T_FR, 11, rfl⟩
theorem d_FR_isClaim_0 : decode b_FR_isClaim 0 = .ok (.iload_n 1, 1) := by decide +kernel
theorem d_FR_isClaim_1 : decode b_FR_isClaim 1 = .ok (.i2l, 1) := by decide +kernel
theorem d_FR_isClaim_2 : decode b_FR_isClaim 2 = .ok (.invokestatic 202, 3) := by decide +kernel
theorem d_FR_isClaim_5 : decode b_FR_isClaim 5 = .ok (.ifCond .eq 23, 3) := by decide +kernel
theorem d_FR_isClaim_8 : decode b_FR_isClaim 8 = .ok (.aload_n 0, 1) := by decide +kernel
theorem d_FR_isClaim_9 : decode b_FR_isClaim 9 = .ok (.iload_n 2, 1) := by decide +kernel
theorem d_FR_isClaim_10 : decode b_FR_isClaim 10 = .ok (.iload_n 3, 1) := by decide +kernel
theorem d_FR_isClaim_11 : decode b_FR_isClaim 11 = .ok (.lload 5, 2) := by decide +kernel
theorem d_FR_isClaim_13 : decode b_FR_isClaim 13 = .ok (.invokevirtual 194, 3) := by decide +kernel
theorem d_FR_isClaim_16 : decode b_FR_isClaim 16 = .ok (.ifCond .eq 12, 3) := by decide +kernel
theorem d_FR_isClaim_19 : decode b_FR_isClaim 19 = .ok (.iload 4, 2) := by decide +kernel
theorem d_FR_isClaim_21 : decode b_FR_isClaim 21 = .ok (.ifCond .lt 7, 3) := by decide +kernel
theorem d_FR_isClaim_24 : decode b_FR_isClaim 24 = .ok (.iconst 1, 1) := by decide +kernel
theorem d_FR_isClaim_25 : decode b_FR_isClaim 25 = .ok (.goto 4, 3) := by decide +kernel
theorem d_FR_isClaim_28 : decode b_FR_isClaim 28 = .ok (.iconst 0, 1) := by decide +kernel
theorem d_FR_isClaim_29 : decode b_FR_isClaim 29 = .ok (.ireturn, 1) := by decide +kernel
def B_FR_isClaim_0 (a1 : Int32) (a2 : Int32) (a3 : Int32) (a4 : Int32) (a5 : Int64) (σ : Sto) : Option (Bool × Sto) :=
  ((f_FR_isRule (Int32.toInt64 a1) σ).bind fun q1 => (if (b2i q1.1) = 0 then some (false, q1.2)
 else ((f_FR_isAsked a2 a3 a5 q1.2).bind fun q2 => (if (b2i q2.1) = 0 then some (false, q2.2)
  else (if a4 < 0 then some (false, q2.2)
   else some (true, q2.2))))))
set_option maxHeartbeats 4000000 in
set_option maxRecDepth 100000 in
theorem vB_FR_isClaim_0 {X : Xt} {E : En} (g : GG X E 4 b_FR_isClaim R_FR 7) (a1 : Int32) (a2 : Int32) (a3 : Int32) (a4 : Int32) (a5 : Int64) (σ : Sto) : VV X E b_FR_isClaim 7 eB 0 [(0, .ref (E.2.1 0)), (1, .int a1), (2, .int a2), (3, .int a3), (4, .int a4), (5, .long a5)] [] σ (B_FR_isClaim_0 a1 a2 a3 a4 a5 σ) := by
  unfold B_FR_isClaim_0
  refine v_iload_n 1 g d_FR_isClaim_0 rfl ?_
  refine v_i2l g d_FR_isClaim_1 ?_
  refine v_callB (r_S (rest := []) [.long (Int32.toInt64 a1)] g (m1 545 (by decide +kernel) (by decide +kernel)) ys_FR_isRule (fun r σ1 h => sp_FR_isRule g.2.2.1  h) rfl rfl (by decide) (Nat.le_of_ble_eq_true rfl) d_FR_isClaim_2) (fun q1 => ?_)
  refine v_if_eq 28 g d_FR_isClaim_5 (by decide) (fun _ => ?_) (fun _ => ?_)
  · refine v_iconst (v := (0 : Int32)) g d_FR_isClaim_28 (by decide +kernel) ?_
    exact v_ret d_FR_isClaim_29 rfl
  · refine v_aload_n 0 g d_FR_isClaim_8 rfl ?_
    refine v_iload_n 2 g d_FR_isClaim_9 rfl ?_
    refine v_iload_n 3 g d_FR_isClaim_10 rfl ?_
    refine v_lload 5 g d_FR_isClaim_11 rfl ?_
    refine v_callB (r_V (rest := []) [.int a2, .int a3, .long a5] g (m1 529 (by decide +kernel) (by decide +kernel)) yv_FR_isAsked rfl (fun r σ1 h => sp_FR_isAsked g.2.2.1  h) rfl rfl (by decide) (Nat.le_of_ble_eq_true rfl) d_FR_isClaim_13) (fun q2 => ?_)
    refine v_if_eq 28 g d_FR_isClaim_16 (by decide) (fun _ => ?_) (fun _ => ?_)
    · refine v_iconst (v := (0 : Int32)) g d_FR_isClaim_28 (by decide +kernel) ?_
      exact v_ret d_FR_isClaim_29 rfl
    · refine v_iload 4 g d_FR_isClaim_19 rfl ?_
      refine v_if_lt 28 g d_FR_isClaim_21 (by decide) (fun _ => ?_) (fun _ => ?_)
      · refine v_iconst (v := (0 : Int32)) g d_FR_isClaim_28 (by decide +kernel) ?_
        exact v_ret d_FR_isClaim_29 rfl
      · refine v_iconst (v := (1 : Int32)) g d_FR_isClaim_24 (by decide +kernel) ?_
        refine v_goto 29 g d_FR_isClaim_25 (by decide) ?_
        exact v_ret d_FR_isClaim_29 rfl
def f_FR_isClaim (a1 : Int32) (a2 : Int32) (a3 : Int32) (a4 : Int32) (a5 : Int64) (σ : Sto) : Option (Bool × Sto) := B_FR_isClaim_0 a1 a2 a3 a4 a5 σ
theorem sp_FR_isClaim {l : Launch} {E : En} (hE : Dj E) {a1 : Int32} {a2 : Int32} {a3 : Int32} {a4 : Int32} {a5 : Int64} {σ : Sto} {r : Bool} {σ' : Sto} (h : f_FR_isClaim a1 a2 a3 a4 a5 σ = some (r, σ')) : Ct l E y_FR_isClaim (wsM y_FR_isClaim b_FR_isClaim 7 (some .boolean)) 4 [.ref (E.2.1 0), .int a1, .int a2, .int a3, .int a4, .long a5] σ (eB r) σ' :=
  ct_of hE (by decide +kernel) (Nat.le_of_ble_eq_true rfl) (fun b => Or.inr (Or.inl ⟨rfl, b, rfl⟩)) (fun X _ g => vB_FR_isClaim_0 g a1 a2 a3 a4 a5 σ) r σ' h
