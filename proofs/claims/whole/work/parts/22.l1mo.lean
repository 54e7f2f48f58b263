theorem ff_Mo_238 : FF R_Mo 238 10 21 := ⟨R_Mo, T_Mo, 39, rfl, in_Mo, by decide, rfl, by decide, m1 1065 (by decide +kernel) (by decide +kernel)⟩
theorem ff_Mo_249 : FF R_Mo 249 10 19 := ⟨R_Mo, T_Mo, 39, rfl, in_Mo, by decide, rfl, by decide, m1 1063 (by decide +kernel) (by decide +kernel)⟩
theorem ff_Mo_252 : FF R_Mo 252 10 22 := ⟨R_Mo, T_Mo, 39, rfl, in_Mo, by decide, rfl, by decide, m1 1066 (by decide +kernel) (by decide +kernel)⟩
theorem ff_Mo_38 : FF R_Mo 38 10 16 := ⟨R_Mo, T_Mo, 39, rfl, in_Mo, by decide, rfl, by decide, m1 1060 (by decide +kernel) (by decide +kernel)⟩
theorem ff_Mo_41 : FF R_Mo 41 10 17 := ⟨R_Mo, T_Mo, 39, rfl, in_Mo, by decide, rfl, by decide, m1 1061 (by decide +kernel) (by decide +kernel)⟩
theorem ff_Mo_44 : FF R_Mo 44 10 18 := ⟨R_Mo, T_Mo, 39, rfl, in_Mo, by decide, rfl, by decide, m1 1062 (by decide +kernel) (by decide +kernel)⟩
theorem ff_Mo_47 : FF R_Mo 47 10 20 := ⟨R_Mo, T_Mo, 39, rfl, in_Mo, by decide, rfl, by decide, m1 1064 (by decide +kernel) (by decide +kernel)⟩
theorem ff_Mo_74 : FF R_Mo 74 10 37 := ⟨R_Mo, T_Mo, 39, rfl, in_Mo, by decide, rfl, by decide, m1 1081 (by decide +kernel) (by decide +kernel)⟩
theorem ff_Mo_77 : FF R_Mo 77 10 38 := ⟨R_Mo, T_Mo, 39, rfl, in_Mo, by decide, rfl, by decide, m1 1082 (by decide +kernel) (by decide +kernel)⟩
theorem fp_Mo_238 : FP R_Mo 238 10 21 (.int) := ⟨R_Mo, T_Mo, 39, rfl, in_Mo, by decide, rfl, by decide, m1 1065 (by decide +kernel) (by decide +kernel), ⟨ty_Mo, tyok_Mo⟩, nm_Mo, rfl, by decide +kernel⟩
theorem fp_Mo_249 : FP R_Mo 249 10 19 (.int) := ⟨R_Mo, T_Mo, 39, rfl, in_Mo, by decide, rfl, by decide, m1 1063 (by decide +kernel) (by decide +kernel), ⟨ty_Mo, tyok_Mo⟩, nm_Mo, rfl, by decide +kernel⟩
theorem fp_Mo_252 : FP R_Mo 252 10 22 (.int) := ⟨R_Mo, T_Mo, 39, rfl, in_Mo, by decide, rfl, by decide, m1 1066 (by decide +kernel) (by decide +kernel), ⟨ty_Mo, tyok_Mo⟩, nm_Mo, rfl, by decide +kernel⟩
/-! method FittingRingsModel.all(IIJI)J -/
theorem yv_Mo_all : YV y_Mo_all b_Mo_all 13 (some .long) 4 10 := ⟨m1 1352 (by decide +kernel) (by decide +kernel), m1 1353 (by decide +kernel) (by decide +kernel), ini_Mo, m1 1354 (by decide +kernel) (by decide +kernel), ⟨by decide +kernel, by decide +kernel, by decide +kernel⟩, by decide, by decide, T_Mo, 39, rfl⟩
theorem d_Mo_all_0 : decode b_Mo_all 0 = .ok (.iload_n 1, 1) := by decide +kernel
theorem d_Mo_all_1 : decode b_Mo_all 1 = .ok (.invokestatic 116, 3) := by decide +kernel
theorem d_Mo_all_4 : decode b_Mo_all 4 = .ok (.ifCond .eq 31, 3) := by decide +kernel
theorem d_Mo_all_7 : decode b_Mo_all 7 = .ok (.iload_n 2, 1) := by decide +kernel
theorem d_Mo_all_8 : decode b_Mo_all 8 = .ok (.invokestatic 116, 3) := by decide +kernel
theorem d_Mo_all_11 : decode b_Mo_all 11 = .ok (.ifCond .eq 24, 3) := by decide +kernel
theorem d_Mo_all_14 : decode b_Mo_all 14 = .ok (.aload_n 0, 1) := by decide +kernel
theorem d_Mo_all_15 : decode b_Mo_all 15 = .ok (.lload_n 3, 1) := by decide +kernel
theorem d_Mo_all_16 : decode b_Mo_all 16 = .ok (.invokevirtual 127, 3) := by decide +kernel
theorem d_Mo_all_19 : decode b_Mo_all 19 = .ok (.ifCond .eq 16, 3) := by decide +kernel
theorem d_Mo_all_22 : decode b_Mo_all 22 = .ok (.iload 5, 2) := by decide +kernel
theorem d_Mo_all_24 : decode b_Mo_all 24 = .ok (.i2l, 1) := by decide +kernel
theorem d_Mo_all_25 : decode b_Mo_all 25 = .ok (.lconst 0, 1) := by decide +kernel
theorem d_Mo_all_26 : decode b_Mo_all 26 = .ok (.ldc2_w 224, 3) := by decide +kernel
theorem d_Mo_all_29 : decode b_Mo_all 29 = .ok (.invokestatic 84, 3) := by decide +kernel
theorem d_Mo_all_32 : decode b_Mo_all 32 = .ok (.ifCond .ne 7, 3) := by decide +kernel
theorem d_Mo_all_35 : decode b_Mo_all 35 = .ok (.ldc2_w 139, 3) := by decide +kernel
theorem d_Mo_all_38 : decode b_Mo_all 38 = .ok (.lreturn, 1) := by decide +kernel
theorem d_Mo_all_39 : decode b_Mo_all 39 = .ok (.lload_n 3, 1) := by decide +kernel
theorem d_Mo_all_40 : decode b_Mo_all 40 = .ok (.invokestatic 216, 3) := by decide +kernel
theorem d_Mo_all_43 : decode b_Mo_all 43 = .ok (.ifCond .eq 7, 3) := by decide +kernel
theorem d_Mo_all_46 : decode b_Mo_all 46 = .ok (.ldc2_w 219, 3) := by decide +kernel
theorem d_Mo_all_49 : decode b_Mo_all 49 = .ok (.lreturn, 1) := by decide +kernel
theorem d_Mo_all_50 : decode b_Mo_all 50 = .ok (.aload_n 0, 1) := by decide +kernel
theorem d_Mo_all_51 : decode b_Mo_all 51 = .ok (.iload_n 2, 1) := by decide +kernel
theorem d_Mo_all_52 : decode b_Mo_all 52 = .ok (.aload_n 0, 1) := by decide +kernel
theorem d_Mo_all_53 : decode b_Mo_all 53 = .ok (.iload_n 1, 1) := by decide +kernel
theorem d_Mo_all_54 : decode b_Mo_all 54 = .ok (.iload_n 2, 1) := by decide +kernel
theorem d_Mo_all_55 : decode b_Mo_all 55 = .ok (.lload_n 3, 1) := by decide +kernel
theorem d_Mo_all_56 : decode b_Mo_all 56 = .ok (.invokevirtual 221, 3) := by decide +kernel
theorem d_Mo_all_59 : decode b_Mo_all 59 = .ok (.invokevirtual 144, 3) := by decide +kernel
theorem d_Mo_all_62 : decode b_Mo_all 62 = .ok (.istore 6, 2) := by decide +kernel
theorem d_Mo_all_64 : decode b_Mo_all 64 = .ok (.ldc2_w 114, 3) := by decide +kernel
theorem d_Mo_all_67 : decode b_Mo_all 67 = .ok (.lstore 7, 2) := by decide +kernel
theorem d_Mo_all_69 : decode b_Mo_all 69 = .ok (.lconst 0, 1) := by decide +kernel
theorem d_Mo_all_70 : decode b_Mo_all 70 = .ok (.lstore 9, 2) := by decide +kernel
theorem d_Mo_all_72 : decode b_Mo_all 72 = .ok (.iconst 0, 1) := by decide +kernel
theorem d_Mo_all_73 : decode b_Mo_all 73 = .ok (.istore 11, 2) := by decide +kernel
theorem d_Mo_all_75 : decode b_Mo_all 75 = .ok (.iconst 0, 1) := by decide +kernel
theorem d_Mo_all_76 : decode b_Mo_all 76 = .ok (.istore 12, 2) := by decide +kernel
theorem d_Mo_all_78 : decode b_Mo_all 78 = .ok (.iload 12, 2) := by decide +kernel
theorem d_Mo_all_80 : decode b_Mo_all 80 = .ok (.aload_n 0, 1) := by decide +kernel
theorem d_Mo_all_81 : decode b_Mo_all 81 = .ok (.getfield 202, 3) := by decide +kernel
theorem d_Mo_all_84 : decode b_Mo_all 84 = .ok (.if_icmp .ge 53, 3) := by decide +kernel
theorem d_Mo_all_87 : decode b_Mo_all 87 = .ok (.aload_n 0, 1) := by decide +kernel
theorem d_Mo_all_88 : decode b_Mo_all 88 = .ok (.iload_n 2, 1) := by decide +kernel
theorem d_Mo_all_89 : decode b_Mo_all 89 = .ok (.aload_n 0, 1) := by decide +kernel
theorem d_Mo_all_90 : decode b_Mo_all 90 = .ok (.getfield 35, 3) := by decide +kernel
theorem d_Mo_all_93 : decode b_Mo_all 93 = .ok (.iload 12, 2) := by decide +kernel
theorem d_Mo_all_95 : decode b_Mo_all 95 = .ok (.laload, 1) := by decide +kernel
theorem d_Mo_all_96 : decode b_Mo_all 96 = .ok (.invokevirtual 144, 3) := by decide +kernel
theorem d_Mo_all_99 : decode b_Mo_all 99 = .ok (.iload 6, 2) := by decide +kernel
theorem d_Mo_all_101 : decode b_Mo_all 101 = .ok (.if_icmp .ne 30, 3) := by decide +kernel
theorem d_Mo_all_104 : decode b_Mo_all 104 = .ok (.lload 7, 2) := by decide +kernel
theorem d_Mo_all_106 : decode b_Mo_all 106 = .ok (.aload_n 0, 1) := by decide +kernel
theorem d_Mo_all_107 : decode b_Mo_all 107 = .ok (.getfield 35, 3) := by decide +kernel
theorem d_Mo_all_110 : decode b_Mo_all 110 = .ok (.iload 12, 2) := by decide +kernel
theorem d_Mo_all_112 : decode b_Mo_all 112 = .ok (.laload, 1) := by decide +kernel
theorem d_Mo_all_113 : decode b_Mo_all 113 = .ok (.land, 1) := by decide +kernel
theorem d_Mo_all_114 : decode b_Mo_all 114 = .ok (.lstore 7, 2) := by decide +kernel
theorem d_Mo_all_116 : decode b_Mo_all 116 = .ok (.lload 9, 2) := by decide +kernel
theorem d_Mo_all_118 : decode b_Mo_all 118 = .ok (.aload_n 0, 1) := by decide +kernel
theorem d_Mo_all_119 : decode b_Mo_all 119 = .ok (.getfield 35, 3) := by decide +kernel
theorem d_Mo_all_122 : decode b_Mo_all 122 = .ok (.iload 12, 2) := by decide +kernel
theorem d_Mo_all_124 : decode b_Mo_all 124 = .ok (.laload, 1) := by decide +kernel
theorem d_Mo_all_125 : decode b_Mo_all 125 = .ok (.lor, 1) := by decide +kernel
theorem d_Mo_all_126 : decode b_Mo_all 126 = .ok (.lstore 9, 2) := by decide +kernel
theorem d_Mo_all_128 : decode b_Mo_all 128 = .ok (.iinc 11 1, 3) := by decide +kernel
theorem d_Mo_all_131 : decode b_Mo_all 131 = .ok (.iinc 12 1, 3) := by decide +kernel
theorem d_Mo_all_134 : decode b_Mo_all 134 = .ok (.goto (-56), 3) := by decide +kernel
theorem d_Mo_all_137 : decode b_Mo_all 137 = .ok (.iload 5, 2) := by decide +kernel
theorem d_Mo_all_139 : decode b_Mo_all 139 = .ok (.ifCond .ne 8, 3) := by decide +kernel
theorem d_Mo_all_142 : decode b_Mo_all 142 = .ok (.lload 7, 2) := by decide +kernel
theorem d_Mo_all_144 : decode b_Mo_all 144 = .ok (.goto 17, 3) := by decide +kernel
theorem d_Mo_all_147 : decode b_Mo_all 147 = .ok (.iload 5, 2) := by decide +kernel
theorem d_Mo_all_149 : decode b_Mo_all 149 = .ok (.iconst 1, 1) := by decide +kernel
theorem d_Mo_all_150 : decode b_Mo_all 150 = .ok (.if_icmp .ne 8, 3) := by decide +kernel
theorem d_Mo_all_153 : decode b_Mo_all 153 = .ok (.lload 9, 2) := by decide +kernel
theorem d_Mo_all_155 : decode b_Mo_all 155 = .ok (.goto 6, 3) := by decide +kernel
theorem d_Mo_all_158 : decode b_Mo_all 158 = .ok (.iload 11, 2) := by decide +kernel
theorem d_Mo_all_160 : decode b_Mo_all 160 = .ok (.i2l, 1) := by decide +kernel
theorem d_Mo_all_161 : decode b_Mo_all 161 = .ok (.lreturn, 1) := by decide +kernel
def B_Mo_all_78 (k78 : Int32 → Int32 → Int32 → Int64 → Int64 → Int32 → Int32 → Sto → Option (Int64 × Sto)) (v2 : Int32) (v5 : Int32) (v6 : Int32) (v7 : Int64) (v9 : Int64) (v11 : Int32) (v12 : Int32) (σ : Sto) : Option (Int64 × Sto) :=
  (if (gI σ 48 15) ≤ v12 then (if v5 = 0 then some (v7, σ)
  else (if v5 = (1 : Int32) then some (v9, σ)
   else some ((Int32.toInt64 v11), σ)))
 else (if inb v12 400 = true then ((f_Mo_measureOf v2 (gL σ 57 (Int32.toNatClampNeg v12)) σ).bind fun q8 => (if q8.1 = v6 then (if inb v12 400 = true then (lt1 (v7 &&& (gL q8.2 57 (Int32.toNatClampNeg v12))) fun x9 => (if inb v12 400 = true then (lt1 (v9 ||| (gL q8.2 57 (Int32.toNatClampNeg v12))) fun x10 => k78 v2 v5 v6 x9 x10 (v11 + (1 : Int32)) (v12 + (1 : Int32)) q8.2) else none)) else none)
  else k78 v2 v5 v6 v7 v9 v11 (v12 + (1 : Int32)) q8.2)) else none))
set_option maxHeartbeats 4000000 in
set_option maxRecDepth 100000 in
theorem vB_Mo_all_78 {X : Xt} {E : En} (g : GG X E 6 b_Mo_all R_Mo 13) {k78 : Int32 → Int32 → Int32 → Int64 → Int64 → Int32 → Int32 → Sto → Option (Int64 × Sto)} (hk78 : ∀ (v2 : Int32) (v5 : Int32) (v6 : Int32) (v7 : Int64) (v9 : Int64) (v11 : Int32) (v12 : Int32) (σ : Sto), VV X E b_Mo_all 13 eL 78 [(0, .ref (E.2.1 48)), (2, .int v2), (5, .int v5), (6, .int v6), (7, .long v7), (9, .long v9), (11, .int v11), (12, .int v12)] [] σ (k78 v2 v5 v6 v7 v9 v11 v12 σ)) (v2 : Int32) (v5 : Int32) (v6 : Int32) (v7 : Int64) (v9 : Int64) (v11 : Int32) (v12 : Int32) (σ : Sto) : VV X E b_Mo_all 13 eL 78 [(0, .ref (E.2.1 48)), (2, .int v2), (5, .int v5), (6, .int v6), (7, .long v7), (9, .long v9), (11, .int v11), (12, .int v12)] [] σ (B_Mo_all_78 k78 v2 v5 v6 v7 v9 v11 v12 σ) := by
  unfold B_Mo_all_78
  refine v_iload 7 g d_Mo_all_78 rfl ?_
  refine v_aload_n 0 g d_Mo_all_80 rfl ?_
  refine v_getI g ff_Mo_202 rfl rfl d_Mo_all_81 ?_
  refine v_icmp_ge 137 g d_Mo_all_84 (by decide) (fun _ => ?_) (fun _ => ?_)
  · refine v_iload 2 g d_Mo_all_137 rfl ?_
    refine v_if_ne 147 g d_Mo_all_139 (by decide) (fun _ => ?_) (fun _ => ?_)
    · refine v_iload 2 g d_Mo_all_147 rfl ?_
      refine v_iconst (v := (1 : Int32)) g d_Mo_all_149 (by decide +kernel) ?_
      refine v_icmp_ne 158 g d_Mo_all_150 (by decide) (fun _ => ?_) (fun _ => ?_)
      · refine v_iload 6 g d_Mo_all_158 rfl ?_
        refine v_i2l g d_Mo_all_160 ?_
        exact v_ret d_Mo_all_161 rfl
      · refine v_lload 5 g d_Mo_all_153 rfl ?_
        refine v_goto 161 g d_Mo_all_155 (by decide) ?_
        exact v_ret d_Mo_all_161 rfl
    · refine v_lload 4 g d_Mo_all_142 rfl ?_
      refine v_goto 161 g d_Mo_all_144 (by decide) ?_
      exact v_ret d_Mo_all_161 rfl
  · refine v_aload_n 0 g d_Mo_all_87 rfl ?_
    refine v_iload_n 1 g d_Mo_all_88 rfl ?_
    refine v_aload_n 0 g d_Mo_all_89 rfl ?_
    refine v_getR 57 g ff_Mo_35 rfl rfl rfl d_Mo_all_90 ?_
    refine v_iload 7 g d_Mo_all_93 rfl ?_
    refine v_lald g rfl rfl d_Mo_all_95 (fun _ => ?_)
    refine v_callI (r_V (rest := []) [.int v2, .long (gL σ 57 (Int32.toNatClampNeg v12))] g (m1 1242 (by decide +kernel) (by decide +kernel)) yv_Mo_measureOf rfl (fun r σ1 h => sp_Mo_measureOf g.2.2.1  h) rfl rfl (by decide) (Nat.le_of_ble_eq_true rfl) d_Mo_all_96) (fun q8 => ?_)
    refine v_iload 3 g d_Mo_all_99 rfl ?_
    refine v_icmp_ne 131 g d_Mo_all_101 (by decide) (fun _ => ?_) (fun _ => ?_)
    · refine v_iinc 7 [(12, .int (v12 + (1 : Int32))), (0, .ref (E.2.1 48)), (2, .int v2), (5, .int v5), (6, .int v6), (7, .long v7), (9, .long v9), (11, .int v11)] g d_Mo_all_131 rfl (v := (1 : Int32)) (by decide +kernel) (by decide) rfl ?_
      refine v_goto 78 g d_Mo_all_134 (by decide) ?_
      exact v_sub [1,2,3,4,5,6,7,0] rfl (hk78 v2 v5 v6 v7 v9 v11 (v12 + (1 : Int32)) q8.2)
    · refine v_lload 4 g d_Mo_all_104 rfl ?_
      refine v_aload_n 0 g d_Mo_all_106 rfl ?_
      refine v_getR 57 g ff_Mo_35 rfl rfl rfl d_Mo_all_107 ?_
      refine v_iload 7 g d_Mo_all_110 rfl ?_
      refine v_lald g rfl rfl d_Mo_all_112 (fun _ => ?_)
      refine v_land g d_Mo_all_113 ?_
      refine v_nlet (fun x9 ex9 => ?_)
      rw [← ex9]
      refine v_lstore [(7, .long x9), (0, .ref (E.2.1 48)), (2, .int v2), (5, .int v5), (6, .int v6), (9, .long v9), (11, .int v11), (12, .int v12)] g d_Mo_all_114 (by decide) rfl ?_
      refine v_lload 5 g d_Mo_all_116 rfl ?_
      refine v_aload_n 1 g d_Mo_all_118 rfl ?_
      refine v_getR 57 g ff_Mo_35 rfl rfl rfl d_Mo_all_119 ?_
      refine v_iload 7 g d_Mo_all_122 rfl ?_
      refine v_lald g rfl rfl d_Mo_all_124 (fun _ => ?_)
      refine v_lor g d_Mo_all_125 ?_
      refine v_nlet (fun x10 ex10 => ?_)
      rw [← ex10]
      refine v_lstore [(9, .long x10), (7, .long x9), (0, .ref (E.2.1 48)), (2, .int v2), (5, .int v5), (6, .int v6), (11, .int v11), (12, .int v12)] g d_Mo_all_126 (by decide) rfl ?_
      refine v_iinc 6 [(11, .int (v11 + (1 : Int32))), (9, .long x10), (7, .long x9), (0, .ref (E.2.1 48)), (2, .int v2), (5, .int v5), (6, .int v6), (12, .int v12)] g d_Mo_all_128 rfl (v := (1 : Int32)) (by decide +kernel) (by decide) rfl ?_
      refine v_iinc 7 [(12, .int (v12 + (1 : Int32))), (11, .int (v11 + (1 : Int32))), (9, .long x10), (7, .long x9), (0, .ref (E.2.1 48)), (2, .int v2), (5, .int v5), (6, .int v6)] g d_Mo_all_131 rfl (v := (1 : Int32)) (by decide +kernel) (by decide) rfl ?_
      refine v_goto 78 g d_Mo_all_134 (by decide) ?_
      exact v_sub [4,5,6,7,3,2,1,0] rfl (hk78 v2 v5 v6 x9 x10 (v11 + (1 : Int32)) (v12 + (1 : Int32)) q8.2)
def L_Mo_all_78 : Nat → Int32 → Int32 → Int32 → Int64 → Int64 → Int32 → Int32 → Sto → Option (Int64 × Sto)
  | 0, _, _, _, _, _, _, _, _ => none
  | fu + 1, v2, v5, v6, v7, v9, v11, v12, σ => B_Mo_all_78 (L_Mo_all_78 fu) v2 v5 v6 v7 v9 v11 v12 σ
theorem vL_Mo_all_78 {X : Xt} {E : En} (g : GG X E 6 b_Mo_all R_Mo 13) (fu : Nat) : ∀ (v2 : Int32) (v5 : Int32) (v6 : Int32) (v7 : Int64) (v9 : Int64) (v11 : Int32) (v12 : Int32) (σ : Sto), VV X E b_Mo_all 13 eL 78 [(0, .ref (E.2.1 48)), (2, .int v2), (5, .int v5), (6, .int v6), (7, .long v7), (9, .long v9), (11, .int v11), (12, .int v12)] [] σ (L_Mo_all_78 fu v2 v5 v6 v7 v9 v11 v12 σ) := by
  induction fu with
  | zero => intros; exact v_none
  | succ fu ih =>
    intro v2 v5 v6 v7 v9 v11 v12 σ
    exact vB_Mo_all_78 g ih v2 v5 v6 v7 v9 v11 v12 σ
def B_Mo_all_0 (a1 : Int32) (a2 : Int32) (a3 : Int64) (a5 : Int32) (σ : Sto) : Option (Int64 × Sto) :=
  ((f_Mo_isOne a1 σ).bind fun q1 => (if (b2i q1.1) = 0 then some ((-2 : Int64), q1.2)
 else ((f_Mo_isOne a2 q1.2).bind fun q2 => (if (b2i q2.1) = 0 then some ((-2 : Int64), q2.2)
  else ((f_Mo_isSet a3 q2.2).bind fun q3 => (if (b2i q3.1) = 0 then some ((-2 : Int64), q3.2)
   else ((f_Mo_in (Int32.toInt64 a5) (0 : Int64) (2 : Int64) q3.2).bind fun q4 => (if (b2i q4.1) = 0 then some ((-2 : Int64), q4.2)
    else ((f_Mo_isMuch a3 q4.2).bind fun q5 => (if (b2i q5.1) = 0 then ((f_Mo_greatestOf a1 a2 a3 q5.2).bind fun q6 => ((f_Mo_measureOf a2 q6.1 q6.2).bind fun q7 => L_Mo_all_78 LF a2 a5 q7.1 (-1 : Int64) (0 : Int64) (0 : Int32) (0 : Int32) q7.2))
     else some ((-5 : Int64), q5.2)))))))))))
set_option maxHeartbeats 4000000 in
set_option maxRecDepth 100000 in
theorem vB_Mo_all_0 {X : Xt} {E : En} (g : GG X E 6 b_Mo_all R_Mo 13) (a1 : Int32) (a2 : Int32) (a3 : Int64) (a5 : Int32) (σ : Sto) : VV X E b_Mo_all 13 eL 0 [(0, .ref (E.2.1 48)), (1, .int a1), (2, .int a2), (3, .long a3), (5, .int a5)] [] σ (B_Mo_all_0 a1 a2 a3 a5 σ) := by
  unfold B_Mo_all_0
  refine v_iload_n 1 g d_Mo_all_0 rfl ?_
  refine v_callB (r_S (rest := []) [.int a1] g (m1 1203 (by decide +kernel) (by decide +kernel)) ys_Mo_isOne (fun r σ1 h => sp_Mo_isOne g.2.2.1  h) rfl rfl (by decide) (Nat.le_of_ble_eq_true rfl) d_Mo_all_1) (fun q1 => ?_)
  refine v_if_eq 35 g d_Mo_all_4 (by decide) (fun _ => ?_) (fun _ => ?_)
  · refine v_ldc2 (v := (-2 : Int64)) g (m1 1237 (by decide +kernel) (by decide +kernel)) d_Mo_all_35 ?_
    exact v_ret d_Mo_all_38 rfl
  · refine v_iload_n 2 g d_Mo_all_7 rfl ?_
    refine v_callB (r_S (rest := []) [.int a2] g (m1 1203 (by decide +kernel) (by decide +kernel)) ys_Mo_isOne (fun r σ1 h => sp_Mo_isOne g.2.2.1  h) rfl rfl (by decide) (Nat.le_of_ble_eq_true rfl) d_Mo_all_8) (fun q2 => ?_)
    refine v_if_eq 35 g d_Mo_all_11 (by decide) (fun _ => ?_) (fun _ => ?_)
    · refine v_ldc2 (v := (-2 : Int64)) g (m1 1237 (by decide +kernel) (by decide +kernel)) d_Mo_all_35 ?_
      exact v_ret d_Mo_all_38 rfl
    · refine v_aload_n 0 g d_Mo_all_14 rfl ?_
      refine v_lload_n 3 g d_Mo_all_15 rfl ?_
      refine v_callB (r_V (rest := []) [.long a3] g (m1 1221 (by decide +kernel) (by decide +kernel)) yv_Mo_isSet rfl (fun r σ1 h => sp_Mo_isSet g.2.2.1  h) rfl rfl (by decide) (Nat.le_of_ble_eq_true rfl) d_Mo_all_16) (fun q3 => ?_)
      refine v_if_eq 35 g d_Mo_all_19 (by decide) (fun _ => ?_) (fun _ => ?_)
      · refine v_ldc2 (v := (-2 : Int64)) g (m1 1237 (by decide +kernel) (by decide +kernel)) d_Mo_all_35 ?_
        exact v_ret d_Mo_all_38 rfl
      · refine v_iload 4 g d_Mo_all_22 rfl ?_
        refine v_i2l g d_Mo_all_24 ?_
        refine v_lconst (v := (0 : Int64)) g d_Mo_all_25 (by decide +kernel) ?_
        refine v_ldc2 (v := (2 : Int64)) g (m1 1355 (by decide +kernel) (by decide +kernel)) d_Mo_all_26 ?_
        refine v_callB (r_S (rest := []) [.long (Int32.toInt64 a5), .long (0 : Int64), .long (2 : Int64)] g (m1 1167 (by decide +kernel) (by decide +kernel)) ys_Mo_in (fun r σ1 h => sp_Mo_in g.2.2.1  h) rfl rfl (by decide) (Nat.le_of_ble_eq_true rfl) d_Mo_all_29) (fun q4 => ?_)
        refine v_if_ne 39 g d_Mo_all_32 (by decide) (fun _ => ?_) (fun _ => ?_)
        · refine v_lload_n 3 g d_Mo_all_39 rfl ?_
          refine v_callB (r_S (rest := []) [.long a3] g (m1 1327 (by decide +kernel) (by decide +kernel)) ys_Mo_isMuch (fun r σ1 h => sp_Mo_isMuch g.2.2.1  h) rfl rfl (by decide) (Nat.le_of_ble_eq_true rfl) d_Mo_all_40) (fun q5 => ?_)
          refine v_if_eq 50 g d_Mo_all_43 (by decide) (fun _ => ?_) (fun _ => ?_)
          · refine v_aload_n 0 g d_Mo_all_50 rfl ?_
            refine v_iload_n 2 g d_Mo_all_51 rfl ?_
            refine v_aload_n 0 g d_Mo_all_52 rfl ?_
            refine v_iload_n 1 g d_Mo_all_53 rfl ?_
            refine v_iload_n 2 g d_Mo_all_54 rfl ?_
            refine v_lload_n 3 g d_Mo_all_55 rfl ?_
            refine v_callL (r_V (rest := [.int a2, .ref (E.2.1 48)]) [.int a1, .int a2, .long a3] g (m1 1331 (by decide +kernel) (by decide +kernel)) yv_Mo_greatestOf rfl (fun r σ1 h => sp_Mo_greatestOf g.2.2.1  h) rfl rfl (by decide) (Nat.le_of_ble_eq_true rfl) d_Mo_all_56) (fun q6 => ?_)
            refine v_callI (r_V (rest := []) [.int a2, .long q6.1] g (m1 1242 (by decide +kernel) (by decide +kernel)) yv_Mo_measureOf rfl (fun r σ1 h => sp_Mo_measureOf g.2.2.1  h) rfl rfl (by decide) (Nat.le_of_ble_eq_true rfl) d_Mo_all_59) (fun q7 => ?_)
            refine v_istore [(6, .int q7.1), (0, .ref (E.2.1 48)), (1, .int a1), (2, .int a2), (3, .long a3), (5, .int a5)] g d_Mo_all_62 (by decide) rfl ?_
            refine v_ldc2 (v := (-1 : Int64)) g (m1 1216 (by decide +kernel) (by decide +kernel)) d_Mo_all_64 ?_
            refine v_lstore [(7, .long (-1 : Int64)), (6, .int q7.1), (0, .ref (E.2.1 48)), (1, .int a1), (2, .int a2), (3, .long a3), (5, .int a5)] g d_Mo_all_67 (by decide) rfl ?_
            refine v_lconst (v := (0 : Int64)) g d_Mo_all_69 (by decide +kernel) ?_
            refine v_lstore [(9, .long (0 : Int64)), (7, .long (-1 : Int64)), (6, .int q7.1), (0, .ref (E.2.1 48)), (1, .int a1), (2, .int a2), (3, .long a3), (5, .int a5)] g d_Mo_all_70 (by decide) rfl ?_
            refine v_iconst (v := (0 : Int32)) g d_Mo_all_72 (by decide +kernel) ?_
            refine v_istore [(11, .int (0 : Int32)), (9, .long (0 : Int64)), (7, .long (-1 : Int64)), (6, .int q7.1), (0, .ref (E.2.1 48)), (1, .int a1), (2, .int a2), (3, .long a3), (5, .int a5)] g d_Mo_all_73 (by decide) rfl ?_
            refine v_iconst (v := (0 : Int32)) g d_Mo_all_75 (by decide +kernel) ?_
            refine v_istore [(12, .int (0 : Int32)), (11, .int (0 : Int32)), (9, .long (0 : Int64)), (7, .long (-1 : Int64)), (6, .int q7.1), (0, .ref (E.2.1 48)), (1, .int a1), (2, .int a2), (3, .long a3), (5, .int a5)] g d_Mo_all_76 (by decide) rfl ?_
            exact v_sub [5,7,9,4,3,2,1,0] rfl (vL_Mo_all_78 g LF a2 a5 q7.1 (-1 : Int64) (0 : Int64) (0 : Int32) (0 : Int32) q7.2)
          · refine v_ldc2 (v := (-5 : Int64)) g (m1 1330 (by decide +kernel) (by decide +kernel)) d_Mo_all_46 ?_
            exact v_ret d_Mo_all_49 rfl
        · refine v_ldc2 (v := (-2 : Int64)) g (m1 1237 (by decide +kernel) (by decide +kernel)) d_Mo_all_35 ?_
          exact v_ret d_Mo_all_38 rfl
def f_Mo_all (a1 : Int32) (a2 : Int32) (a3 : Int64) (a5 : Int32) (σ : Sto) : Option (Int64 × Sto) := B_Mo_all_0 a1 a2 a3 a5 σ
theorem sp_Mo_all {l : Launch} {E : En} (hE : Dj E) {a1 : Int32} {a2 : Int32} {a3 : Int64} {a5 : Int32} {σ : Sto} {r : Int64} {σ' : Sto} (h : f_Mo_all a1 a2 a3 a5 σ = some (r, σ')) : Ct l E y_Mo_all (wsM y_Mo_all b_Mo_all 13 (some .long)) 6 [.ref (E.2.1 48), .int a1, .int a2, .long a3, .int a5] σ (eL r) σ' :=
  ct_of hE (by decide +kernel) (Nat.le_of_ble_eq_true rfl) (fun x => Or.inr (Or.inr (Or.inl ⟨rfl, x, rfl⟩))) (fun X _ g => vB_Mo_all_0 g a1 a2 a3 a5 σ) r σ' h
/-! method FittingRingsModel.topOf(IIJ)I -/
theorem yv_Mo_topOf : YV y_Mo_topOf b_Mo_topOf 5 (some .int) 3 10 := ⟨m1 1362 (by decide +kernel) (by decide +kernel), m1 47 (by decide +kernel) (by decide +kernel), ini_Mo, m1 1363 (by decide +kernel) (by decide +kernel), ⟨by decide +kernel, by decide +kernel, by decide +kernel⟩, by decide, by decide, T_Mo, 39, rfl⟩
theorem d_Mo_topOf_0 : decode b_Mo_topOf 0 = .ok (.aload_n 0, 1) := by decide +kernel
theorem d_Mo_topOf_1 : decode b_Mo_topOf 1 = .ok (.iload_n 2, 1) := by decide +kernel
theorem d_Mo_topOf_2 : decode b_Mo_topOf 2 = .ok (.aload_n 0, 1) := by decide +kernel
theorem d_Mo_topOf_3 : decode b_Mo_topOf 3 = .ok (.iload_n 1, 1) := by decide +kernel
theorem d_Mo_topOf_4 : decode b_Mo_topOf 4 = .ok (.iload_n 2, 1) := by decide +kernel
theorem d_Mo_topOf_5 : decode b_Mo_topOf 5 = .ok (.lload_n 3, 1) := by decide +kernel
theorem d_Mo_topOf_6 : decode b_Mo_topOf 6 = .ok (.invokevirtual 221, 3) := by decide +kernel
theorem d_Mo_topOf_9 : decode b_Mo_topOf 9 = .ok (.invokevirtual 144, 3) := by decide +kernel
theorem d_Mo_topOf_12 : decode b_Mo_topOf 12 = .ok (.ireturn, 1) := by decide +kernel
def B_Mo_topOf_0 (a1 : Int32) (a2 : Int32) (a3 : Int64) (σ : Sto) : Option (Int32 × Sto) :=
  ((f_Mo_greatestOf a1 a2 a3 σ).bind fun q1 => ((f_Mo_measureOf a2 q1.1 q1.2).bind fun q2 => some (q2.1, q2.2)))
set_option maxHeartbeats 4000000 in
set_option maxRecDepth 100000 in
theorem vB_Mo_topOf_0 {X : Xt} {E : En} (g : GG X E 6 b_Mo_topOf R_Mo 5) (a1 : Int32) (a2 : Int32) (a3 : Int64) (σ : Sto) : VV X E b_Mo_topOf 5 eI 0 [(0, .ref (E.2.1 48)), (1, .int a1), (2, .int a2), (3, .long a3)] [] σ (B_Mo_topOf_0 a1 a2 a3 σ) := by
  unfold B_Mo_topOf_0
  refine v_aload_n 0 g d_Mo_topOf_0 rfl ?_
  refine v_iload_n 2 g d_Mo_topOf_1 rfl ?_
  refine v_aload_n 0 g d_Mo_topOf_2 rfl ?_
  refine v_iload_n 1 g d_Mo_topOf_3 rfl ?_
  refine v_iload_n 2 g d_Mo_topOf_4 rfl ?_
  refine v_lload_n 3 g d_Mo_topOf_5 rfl ?_
  refine v_callL (r_V (rest := [.int a2, .ref (E.2.1 48)]) [.int a1, .int a2, .long a3] g (m1 1331 (by decide +kernel) (by decide +kernel)) yv_Mo_greatestOf rfl (fun r σ1 h => sp_Mo_greatestOf g.2.2.1  h) rfl rfl (by decide) (Nat.le_of_ble_eq_true rfl) d_Mo_topOf_6) (fun q1 => ?_)
  refine v_callI (r_V (rest := []) [.int a2, .long q1.1] g (m1 1242 (by decide +kernel) (by decide +kernel)) yv_Mo_measureOf rfl (fun r σ1 h => sp_Mo_measureOf g.2.2.1  h) rfl rfl (by decide) (Nat.le_of_ble_eq_true rfl) d_Mo_topOf_9) (fun q2 => ?_)
  exact v_ret d_Mo_topOf_12 rfl
def f_Mo_topOf (a1 : Int32) (a2 : Int32) (a3 : Int64) (σ : Sto) : Option (Int32 × Sto) := B_Mo_topOf_0 a1 a2 a3 σ
theorem sp_Mo_topOf {l : Launch} {E : En} (hE : Dj E) {a1 : Int32} {a2 : Int32} {a3 : Int64} {σ : Sto} {r : Int32} {σ' : Sto} (h : f_Mo_topOf a1 a2 a3 σ = some (r, σ')) : Ct l E y_Mo_topOf (wsM y_Mo_topOf b_Mo_topOf 5 (some .int)) 6 [.ref (E.2.1 48), .int a1, .int a2, .long a3] σ (eI r) σ' :=
  ct_of hE (by decide +kernel) (Nat.le_of_ble_eq_true rfl) (fun x => Or.inl ⟨rfl, x, rfl⟩) (fun X _ g => vB_Mo_topOf_0 g a1 a2 a3 σ) r σ' h
/-! method FittingRingsModel.turning(IIJI)I -/
theorem yv_Mo_turning : YV y_Mo_turning b_Mo_turning 10 (some .int) 4 10 := ⟨m1 1357 (by decide +kernel) (by decide +kernel), m1 1358 (by decide +kernel) (by decide +kernel), ini_Mo, m1 1359 (by decide +kernel) (by decide +kernel), ⟨by decide +kernel, by decide +kernel, by decide +kernel⟩, by decide, by decide, T_Mo, 39, rfl⟩
theorem d_Mo_turning_0 : decode b_Mo_turning 0 = .ok (.iload_n 1, 1) := by decide +kernel
theorem d_Mo_turning_1 : decode b_Mo_turning 1 = .ok (.invokestatic 116, 3) := by decide +kernel
theorem d_Mo_turning_4 : decode b_Mo_turning 4 = .ok (.ifCond .eq 26, 3) := by decide +kernel
theorem d_Mo_turning_7 : decode b_Mo_turning 7 = .ok (.iload_n 2, 1) := by decide +kernel
theorem d_Mo_turning_8 : decode b_Mo_turning 8 = .ok (.invokestatic 116, 3) := by decide +kernel
theorem d_Mo_turning_11 : decode b_Mo_turning 11 = .ok (.ifCond .eq 19, 3) := by decide +kernel
theorem d_Mo_turning_14 : decode b_Mo_turning 14 = .ok (.aload_n 0, 1) := by decide +kernel
theorem d_Mo_turning_15 : decode b_Mo_turning 15 = .ok (.lload_n 3, 1) := by decide +kernel
theorem d_Mo_turning_16 : decode b_Mo_turning 16 = .ok (.invokevirtual 127, 3) := by decide +kernel
theorem d_Mo_turning_19 : decode b_Mo_turning 19 = .ok (.ifCond .eq 11, 3) := by decide +kernel
theorem d_Mo_turning_22 : decode b_Mo_turning 22 = .ok (.iload 5, 2) := by decide +kernel
theorem d_Mo_turning_24 : decode b_Mo_turning 24 = .ok (.invokestatic 116, 3) := by decide +kernel
theorem d_Mo_turning_27 : decode b_Mo_turning 27 = .ok (.ifCond .ne 6, 3) := by decide +kernel
theorem d_Mo_turning_30 : decode b_Mo_turning 30 = .ok (.bipush (-2), 2) := by decide +kernel
theorem d_Mo_turning_32 : decode b_Mo_turning 32 = .ok (.ireturn, 1) := by decide +kernel
theorem d_Mo_turning_33 : decode b_Mo_turning 33 = .ok (.lload_n 3, 1) := by decide +kernel
theorem d_Mo_turning_34 : decode b_Mo_turning 34 = .ok (.invokestatic 216, 3) := by decide +kernel
theorem d_Mo_turning_37 : decode b_Mo_turning 37 = .ok (.ifCond .eq 6, 3) := by decide +kernel
theorem d_Mo_turning_40 : decode b_Mo_turning 40 = .ok (.bipush (-5), 2) := by decide +kernel
theorem d_Mo_turning_42 : decode b_Mo_turning 42 = .ok (.ireturn, 1) := by decide +kernel
theorem d_Mo_turning_43 : decode b_Mo_turning 43 = .ok (.aload_n 0, 1) := by decide +kernel
theorem d_Mo_turning_44 : decode b_Mo_turning 44 = .ok (.iload_n 1, 1) := by decide +kernel
theorem d_Mo_turning_45 : decode b_Mo_turning 45 = .ok (.iload_n 2, 1) := by decide +kernel
theorem d_Mo_turning_46 : decode b_Mo_turning 46 = .ok (.lload_n 3, 1) := by decide +kernel
theorem d_Mo_turning_47 : decode b_Mo_turning 47 = .ok (.invokevirtual 226, 3) := by decide +kernel
theorem d_Mo_turning_50 : decode b_Mo_turning 50 = .ok (.istore 6, 2) := by decide +kernel
theorem d_Mo_turning_52 : decode b_Mo_turning 52 = .ok (.iconst 0, 1) := by decide +kernel
theorem d_Mo_turning_53 : decode b_Mo_turning 53 = .ok (.istore 7, 2) := by decide +kernel
theorem d_Mo_turning_55 : decode b_Mo_turning 55 = .ok (.iload 7, 2) := by decide +kernel
theorem d_Mo_turning_57 : decode b_Mo_turning 57 = .ok (.aload_n 0, 1) := by decide +kernel
theorem d_Mo_turning_58 : decode b_Mo_turning 58 = .ok (.getfield 80, 3) := by decide +kernel
theorem d_Mo_turning_61 : decode b_Mo_turning 61 = .ok (.if_icmp .ge 105, 3) := by decide +kernel
theorem d_Mo_turning_64 : decode b_Mo_turning 64 = .ok (.iload 7, 2) := by decide +kernel
theorem d_Mo_turning_66 : decode b_Mo_turning 66 = .ok (.iconst 1, 1) := by decide +kernel
theorem d_Mo_turning_67 : decode b_Mo_turning 67 = .ok (.iadd, 1) := by decide +kernel
theorem d_Mo_turning_68 : decode b_Mo_turning 68 = .ok (.istore 8, 2) := by decide +kernel
theorem d_Mo_turning_70 : decode b_Mo_turning 70 = .ok (.iload 8, 2) := by decide +kernel
theorem d_Mo_turning_72 : decode b_Mo_turning 72 = .ok (.aload_n 0, 1) := by decide +kernel
theorem d_Mo_turning_73 : decode b_Mo_turning 73 = .ok (.getfield 80, 3) := by decide +kernel
theorem d_Mo_turning_76 : decode b_Mo_turning 76 = .ok (.if_icmp .ge 84, 3) := by decide +kernel
theorem d_Mo_turning_79 : decode b_Mo_turning 79 = .ok (.lload_n 3, 1) := by decide +kernel
theorem d_Mo_turning_80 : decode b_Mo_turning 80 = .ok (.iload 7, 2) := by decide +kernel
theorem d_Mo_turning_82 : decode b_Mo_turning 82 = .ok (.invokestatic 119, 3) := by decide +kernel
theorem d_Mo_turning_85 : decode b_Mo_turning 85 = .ok (.ifCond .eq 69, 3) := by decide +kernel
theorem d_Mo_turning_88 : decode b_Mo_turning 88 = .ok (.lload_n 3, 1) := by decide +kernel
theorem d_Mo_turning_89 : decode b_Mo_turning 89 = .ok (.iload 8, 2) := by decide +kernel
theorem d_Mo_turning_91 : decode b_Mo_turning 91 = .ok (.invokestatic 119, 3) := by decide +kernel
theorem d_Mo_turning_94 : decode b_Mo_turning 94 = .ok (.ifCond .eq 60, 3) := by decide +kernel
theorem d_Mo_turning_97 : decode b_Mo_turning 97 = .ok (.aload_n 0, 1) := by decide +kernel
theorem d_Mo_turning_98 : decode b_Mo_turning 98 = .ok (.iload 7, 2) := by decide +kernel
theorem d_Mo_turning_100 : decode b_Mo_turning 100 = .ok (.iload 8, 2) := by decide +kernel
theorem d_Mo_turning_102 : decode b_Mo_turning 102 = .ok (.invokevirtual 131, 3) := by decide +kernel
theorem d_Mo_turning_105 : decode b_Mo_turning 105 = .ok (.aload_n 0, 1) := by decide +kernel
theorem d_Mo_turning_106 : decode b_Mo_turning 106 = .ok (.iload_n 1, 1) := by decide +kernel
theorem d_Mo_turning_107 : decode b_Mo_turning 107 = .ok (.iload_n 2, 1) := by decide +kernel
theorem d_Mo_turning_108 : decode b_Mo_turning 108 = .ok (.lload_n 3, 1) := by decide +kernel
theorem d_Mo_turning_109 : decode b_Mo_turning 109 = .ok (.invokevirtual 226, 3) := by decide +kernel
theorem d_Mo_turning_112 : decode b_Mo_turning 112 = .ok (.istore 9, 2) := by decide +kernel
theorem d_Mo_turning_114 : decode b_Mo_turning 114 = .ok (.aload_n 0, 1) := by decide +kernel
theorem d_Mo_turning_115 : decode b_Mo_turning 115 = .ok (.iload 7, 2) := by decide +kernel
theorem d_Mo_turning_117 : decode b_Mo_turning 117 = .ok (.iload 8, 2) := by decide +kernel
theorem d_Mo_turning_119 : decode b_Mo_turning 119 = .ok (.invokevirtual 131, 3) := by decide +kernel
theorem d_Mo_turning_122 : decode b_Mo_turning 122 = .ok (.iload 5, 2) := by decide +kernel
theorem d_Mo_turning_124 : decode b_Mo_turning 124 = .ok (.iconst 1, 1) := by decide +kernel
theorem d_Mo_turning_125 : decode b_Mo_turning 125 = .ok (.if_icmp .ne 13, 3) := by decide +kernel
theorem d_Mo_turning_128 : decode b_Mo_turning 128 = .ok (.iload 9, 2) := by decide +kernel
theorem d_Mo_turning_130 : decode b_Mo_turning 130 = .ok (.iload 6, 2) := by decide +kernel
theorem d_Mo_turning_132 : decode b_Mo_turning 132 = .ok (.if_icmp .le 22, 3) := by decide +kernel
theorem d_Mo_turning_135 : decode b_Mo_turning 135 = .ok (.goto 10, 3) := by decide +kernel
theorem d_Mo_turning_138 : decode b_Mo_turning 138 = .ok (.iload 9, 2) := by decide +kernel
theorem d_Mo_turning_140 : decode b_Mo_turning 140 = .ok (.iload 6, 2) := by decide +kernel
theorem d_Mo_turning_142 : decode b_Mo_turning 142 = .ok (.if_icmp .ge 12, 3) := by decide +kernel
theorem d_Mo_turning_145 : decode b_Mo_turning 145 = .ok (.bipush 40, 2) := by decide +kernel
theorem d_Mo_turning_147 : decode b_Mo_turning 147 = .ok (.iload 7, 2) := by decide +kernel
theorem d_Mo_turning_149 : decode b_Mo_turning 149 = .ok (.imul, 1) := by decide +kernel
theorem d_Mo_turning_150 : decode b_Mo_turning 150 = .ok (.iload 8, 2) := by decide +kernel
theorem d_Mo_turning_152 : decode b_Mo_turning 152 = .ok (.iadd, 1) := by decide +kernel
theorem d_Mo_turning_153 : decode b_Mo_turning 153 = .ok (.ireturn, 1) := by decide +kernel
theorem d_Mo_turning_154 : decode b_Mo_turning 154 = .ok (.iinc 8 1, 3) := by decide +kernel
theorem d_Mo_turning_157 : decode b_Mo_turning 157 = .ok (.goto (-87), 3) := by decide +kernel
theorem d_Mo_turning_160 : decode b_Mo_turning 160 = .ok (.iinc 7 1, 3) := by decide +kernel
theorem d_Mo_turning_163 : decode b_Mo_turning 163 = .ok (.goto (-108), 3) := by decide +kernel
theorem d_Mo_turning_166 : decode b_Mo_turning 166 = .ok (.iconst (-1), 1) := by decide +kernel
theorem d_Mo_turning_167 : decode b_Mo_turning 167 = .ok (.ireturn, 1) := by decide +kernel
def B_Mo_turning_70 (k55 : Int32 → Int32 → Int64 → Int32 → Int32 → Int32 → Sto → Option (Int32 × Sto)) (k70 : Int32 → Int32 → Int64 → Int32 → Int32 → Int32 → Int32 → Sto → Option (Int32 × Sto)) (v1 : Int32) (v2 : Int32) (v3 : Int64) (v5 : Int32) (v6 : Int32) (v7 : Int32) (v8 : Int32) (σ : Sto) : Option (Int32 × Sto) :=
  (if (gI σ 48 0) ≤ v8 then k55 v1 v2 v3 v5 v6 (v7 + (1 : Int32)) σ
 else ((f_Mo_has v3 v7 σ).bind fun q7 => (if (b2i q7.1) = 0 then k70 v1 v2 v3 v5 v6 v7 (v8 + (1 : Int32)) q7.2
  else ((f_Mo_has v3 v8 q7.2).bind fun q8 => (if (b2i q8.1) = 0 then k70 v1 v2 v3 v5 v6 v7 (v8 + (1 : Int32)) q8.2
   else ((f_Mo_flips v7 v8 q8.2).bind fun q9 => ((f_Mo_topOf v1 v2 v3 q9.2).bind fun q10 => ((f_Mo_flips v7 v8 q10.2).bind fun q11 => (if v5 = (1 : Int32) then (if q10.1 ≤ v6 then k70 v1 v2 v3 v5 v6 v7 (v8 + (1 : Int32)) q11.2
     else some ((((40 : Int32) * v7) + v8), q11.2))
    else (if v6 ≤ q10.1 then k70 v1 v2 v3 v5 v6 v7 (v8 + (1 : Int32)) q11.2
     else some ((((40 : Int32) * v7) + v8), q11.2)))))))))))
set_option maxHeartbeats 4000000 in
set_option maxRecDepth 100000 in
theorem vB_Mo_turning_70 {X : Xt} {E : En} (g : GG X E 7 b_Mo_turning R_Mo 10) {k55 : Int32 → Int32 → Int64 → Int32 → Int32 → Int32 → Sto → Option (Int32 × Sto)} {k70 : Int32 → Int32 → Int64 → Int32 → Int32 → Int32 → Int32 → Sto → Option (Int32 × Sto)} (hk55 : ∀ (v1 : Int32) (v2 : Int32) (v3 : Int64) (v5 : Int32) (v6 : Int32) (v7 : Int32) (σ : Sto), VV X E b_Mo_turning 10 eI 55 [(0, .ref (E.2.1 48)), (1, .int v1), (2, .int v2), (3, .long v3), (5, .int v5), (6, .int v6), (7, .int v7)] [] σ (k55 v1 v2 v3 v5 v6 v7 σ)) (hk70 : ∀ (v1 : Int32) (v2 : Int32) (v3 : Int64) (v5 : Int32) (v6 : Int32) (v7 : Int32) (v8 : Int32) (σ : Sto), VV X E b_Mo_turning 10 eI 70 [(0, .ref (E.2.1 48)), (1, .int v1), (2, .int v2), (3, .long v3), (5, .int v5), (6, .int v6), (7, .int v7), (8, .int v8)] [] σ (k70 v1 v2 v3 v5 v6 v7 v8 σ)) (v1 : Int32) (v2 : Int32) (v3 : Int64) (v5 : Int32) (v6 : Int32) (v7 : Int32) (v8 : Int32) (σ : Sto) : VV X E b_Mo_turning 10 eI 70 [(0, .ref (E.2.1 48)), (1, .int v1), (2, .int v2), (3, .long v3), (5, .int v5), (6, .int v6), (7, .int v7), (8, .int v8)] [] σ (B_Mo_turning_70 k55 k70 v1 v2 v3 v5 v6 v7 v8 σ) := by
  unfold B_Mo_turning_70
  refine v_iload 7 g d_Mo_turning_70 rfl ?_
  refine v_aload_n 0 g d_Mo_turning_72 rfl ?_
  refine v_getI g ff_Mo_80 rfl rfl d_Mo_turning_73 ?_
  refine v_icmp_ge 160 g d_Mo_turning_76 (by decide) (fun _ => ?_) (fun _ => ?_)
  · refine v_iinc 6 [(7, .int (v7 + (1 : Int32))), (0, .ref (E.2.1 48)), (1, .int v1), (2, .int v2), (3, .long v3), (5, .int v5), (6, .int v6), (8, .int v8)] g d_Mo_turning_160 rfl (v := (1 : Int32)) (by decide +kernel) (by decide) rfl ?_
    refine v_goto 55 g d_Mo_turning_163 (by decide) ?_
    exact v_sub [1,2,3,4,5,6,0] rfl (hk55 v1 v2 v3 v5 v6 (v7 + (1 : Int32)) σ)
  · refine v_lload_n 3 g d_Mo_turning_79 rfl ?_
    refine v_iload 6 g d_Mo_turning_80 rfl ?_
    refine v_callB (r_S (rest := []) [.long v3, .int v7] g (m1 1206 (by decide +kernel) (by decide +kernel)) ys_Mo_has (fun r σ1 h => sp_Mo_has g.2.2.1  h) rfl rfl (by decide) (Nat.le_of_ble_eq_true rfl) d_Mo_turning_82) (fun q7 => ?_)
    refine v_if_eq 154 g d_Mo_turning_85 (by decide) (fun _ => ?_) (fun _ => ?_)
    · refine v_iinc 7 [(8, .int (v8 + (1 : Int32))), (0, .ref (E.2.1 48)), (1, .int v1), (2, .int v2), (3, .long v3), (5, .int v5), (6, .int v6), (7, .int v7)] g d_Mo_turning_154 rfl (v := (1 : Int32)) (by decide +kernel) (by decide) rfl ?_
      refine v_goto 70 g d_Mo_turning_157 (by decide) ?_
      exact v_sub [1,2,3,4,5,6,7,0] rfl (hk70 v1 v2 v3 v5 v6 v7 (v8 + (1 : Int32)) q7.2)
    · refine v_lload_n 3 g d_Mo_turning_88 rfl ?_
      refine v_iload 7 g d_Mo_turning_89 rfl ?_
      refine v_callB (r_S (rest := []) [.long v3, .int v8] g (m1 1206 (by decide +kernel) (by decide +kernel)) ys_Mo_has (fun r σ1 h => sp_Mo_has g.2.2.1  h) rfl rfl (by decide) (Nat.le_of_ble_eq_true rfl) d_Mo_turning_91) (fun q8 => ?_)
      refine v_if_eq 154 g d_Mo_turning_94 (by decide) (fun _ => ?_) (fun _ => ?_)
      · refine v_iinc 7 [(8, .int (v8 + (1 : Int32))), (0, .ref (E.2.1 48)), (1, .int v1), (2, .int v2), (3, .long v3), (5, .int v5), (6, .int v6), (7, .int v7)] g d_Mo_turning_154 rfl (v := (1 : Int32)) (by decide +kernel) (by decide) rfl ?_
        refine v_goto 70 g d_Mo_turning_157 (by decide) ?_
        exact v_sub [1,2,3,4,5,6,7,0] rfl (hk70 v1 v2 v3 v5 v6 v7 (v8 + (1 : Int32)) q8.2)
      · refine v_aload_n 0 g d_Mo_turning_97 rfl ?_
        refine v_iload 6 g d_Mo_turning_98 rfl ?_
        refine v_iload 7 g d_Mo_turning_100 rfl ?_
        refine v_callU (r_V (rest := []) [.int v7, .int v8] g (m1 1225 (by decide +kernel) (by decide +kernel)) yv_Mo_flips rfl (fun r σ1 h => sp_Mo_flips g.2.2.1  h) rfl rfl (by decide) (Nat.le_of_ble_eq_true rfl) d_Mo_turning_102) (fun q9 => ?_)
        refine v_aload_n 0 g d_Mo_turning_105 rfl ?_
        refine v_iload_n 1 g d_Mo_turning_106 rfl ?_
        refine v_iload_n 2 g d_Mo_turning_107 rfl ?_
        refine v_lload_n 3 g d_Mo_turning_108 rfl ?_
        refine v_callI (r_V (rest := []) [.int v1, .int v2, .long v3] g (m1 1360 (by decide +kernel) (by decide +kernel)) yv_Mo_topOf rfl (fun r σ1 h => sp_Mo_topOf g.2.2.1  h) rfl rfl (by decide) (Nat.le_of_ble_eq_true rfl) d_Mo_turning_109) (fun q10 => ?_)
        refine v_istore [(9, .int q10.1), (0, .ref (E.2.1 48)), (1, .int v1), (2, .int v2), (3, .long v3), (5, .int v5), (6, .int v6), (7, .int v7), (8, .int v8)] g d_Mo_turning_112 (by decide) rfl ?_
        refine v_aload_n 1 g d_Mo_turning_114 rfl ?_
        refine v_iload 7 g d_Mo_turning_115 rfl ?_
        refine v_iload 8 g d_Mo_turning_117 rfl ?_
        refine v_callU (r_V (rest := []) [.int v7, .int v8] g (m1 1225 (by decide +kernel) (by decide +kernel)) yv_Mo_flips rfl (fun r σ1 h => sp_Mo_flips g.2.2.1  h) rfl rfl (by decide) (Nat.le_of_ble_eq_true rfl) d_Mo_turning_119) (fun q11 => ?_)
        refine v_iload 5 g d_Mo_turning_122 rfl ?_
        refine v_iconst (v := (1 : Int32)) g d_Mo_turning_124 (by decide +kernel) ?_
        refine v_icmp_ne 138 g d_Mo_turning_125 (by decide) (fun _ => ?_) (fun _ => ?_)
        · refine v_iload 0 g d_Mo_turning_138 rfl ?_
          refine v_iload 6 g d_Mo_turning_140 rfl ?_
          refine v_icmp_ge 154 g d_Mo_turning_142 (by decide) (fun _ => ?_) (fun _ => ?_)
          · refine v_iinc 8 [(8, .int (v8 + (1 : Int32))), (9, .int q10.1), (0, .ref (E.2.1 48)), (1, .int v1), (2, .int v2), (3, .long v3), (5, .int v5), (6, .int v6), (7, .int v7)] g d_Mo_turning_154 rfl (v := (1 : Int32)) (by decide +kernel) (by decide) rfl ?_
            refine v_goto 70 g d_Mo_turning_157 (by decide) ?_
            exact v_sub [2,3,4,5,6,7,8,0] rfl (hk70 v1 v2 v3 v5 v6 v7 (v8 + (1 : Int32)) q11.2)
          · refine v_bipush (v := (40 : Int32)) g d_Mo_turning_145 (by decide +kernel) ?_
            refine v_iload 7 g d_Mo_turning_147 rfl ?_
            refine v_imul g d_Mo_turning_149 ?_
            refine v_iload 8 g d_Mo_turning_150 rfl ?_
            refine v_iadd g d_Mo_turning_152 ?_
            exact v_ret d_Mo_turning_153 rfl
        · refine v_iload 0 g d_Mo_turning_128 rfl ?_
          refine v_iload 6 g d_Mo_turning_130 rfl ?_
          refine v_icmp_le 154 g d_Mo_turning_132 (by decide) (fun _ => ?_) (fun _ => ?_)
          · refine v_iinc 8 [(8, .int (v8 + (1 : Int32))), (9, .int q10.1), (0, .ref (E.2.1 48)), (1, .int v1), (2, .int v2), (3, .long v3), (5, .int v5), (6, .int v6), (7, .int v7)] g d_Mo_turning_154 rfl (v := (1 : Int32)) (by decide +kernel) (by decide) rfl ?_
            refine v_goto 70 g d_Mo_turning_157 (by decide) ?_
            exact v_sub [2,3,4,5,6,7,8,0] rfl (hk70 v1 v2 v3 v5 v6 v7 (v8 + (1 : Int32)) q11.2)
          · refine v_goto 145 g d_Mo_turning_135 (by decide) ?_
            refine v_bipush (v := (40 : Int32)) g d_Mo_turning_145 (by decide +kernel) ?_
            refine v_iload 7 g d_Mo_turning_147 rfl ?_
            refine v_imul g d_Mo_turning_149 ?_
            refine v_iload 8 g d_Mo_turning_150 rfl ?_
            refine v_iadd g d_Mo_turning_152 ?_
            exact v_ret d_Mo_turning_153 rfl
def L_Mo_turning_70 (k55 : Int32 → Int32 → Int64 → Int32 → Int32 → Int32 → Sto → Option (Int32 × Sto)) : Nat → Int32 → Int32 → Int64 → Int32 → Int32 → Int32 → Int32 → Sto → Option (Int32 × Sto)
  | 0, _, _, _, _, _, _, _, _ => none
  | fu + 1, v1, v2, v3, v5, v6, v7, v8, σ => B_Mo_turning_70 k55 (L_Mo_turning_70 k55 fu) v1 v2 v3 v5 v6 v7 v8 σ
theorem vL_Mo_turning_70 {X : Xt} {E : En} (g : GG X E 7 b_Mo_turning R_Mo 10) {k55 : Int32 → Int32 → Int64 → Int32 → Int32 → Int32 → Sto → Option (Int32 × Sto)} (hk55 : ∀ (v1 : Int32) (v2 : Int32) (v3 : Int64) (v5 : Int32) (v6 : Int32) (v7 : Int32) (σ : Sto), VV X E b_Mo_turning 10 eI 55 [(0, .ref (E.2.1 48)), (1, .int v1), (2, .int v2), (3, .long v3), (5, .int v5), (6, .int v6), (7, .int v7)] [] σ (k55 v1 v2 v3 v5 v6 v7 σ)) (fu : Nat) : ∀ (v1 : Int32) (v2 : Int32) (v3 : Int64) (v5 : Int32) (v6 : Int32) (v7 : Int32) (v8 : Int32) (σ : Sto), VV X E b_Mo_turning 10 eI 70 [(0, .ref (E.2.1 48)), (1, .int v1), (2, .int v2), (3, .long v3), (5, .int v5), (6, .int v6), (7, .int v7), (8, .int v8)] [] σ (L_Mo_turning_70 k55 fu v1 v2 v3 v5 v6 v7 v8 σ) := by
  induction fu with
  | zero => intros; exact v_none
  | succ fu ih =>
    intro v1 v2 v3 v5 v6 v7 v8 σ
    exact vB_Mo_turning_70 g hk55 ih v1 v2 v3 v5 v6 v7 v8 σ
def B_Mo_turning_55 (k55 : Int32 → Int32 → Int64 → Int32 → Int32 → Int32 → Sto → Option (Int32 × Sto)) (v1 : Int32) (v2 : Int32) (v3 : Int64) (v5 : Int32) (v6 : Int32) (v7 : Int32) (σ : Sto) : Option (Int32 × Sto) :=
  (if (gI σ 48 0) ≤ v7 then some ((-1 : Int32), σ)
 else L_Mo_turning_70 k55 LF v1 v2 v3 v5 v6 v7 (v7 + (1 : Int32)) σ)
set_option maxHeartbeats 4000000 in
set_option maxRecDepth 100000 in
theorem vB_Mo_turning_55 {X : Xt} {E : En} (g : GG X E 7 b_Mo_turning R_Mo 10) {k55 : Int32 → Int32 → Int64 → Int32 → Int32 → Int32 → Sto → Option (Int32 × Sto)} (hk55 : ∀ (v1 : Int32) (v2 : Int32) (v3 : Int64) (v5 : Int32) (v6 : Int32) (v7 : Int32) (σ : Sto), VV X E b_Mo_turning 10 eI 55 [(0, .ref (E.2.1 48)), (1, .int v1), (2, .int v2), (3, .long v3), (5, .int v5), (6, .int v6), (7, .int v7)] [] σ (k55 v1 v2 v3 v5 v6 v7 σ)) (v1 : Int32) (v2 : Int32) (v3 : Int64) (v5 : Int32) (v6 : Int32) (v7 : Int32) (σ : Sto) : VV X E b_Mo_turning 10 eI 55 [(0, .ref (E.2.1 48)), (1, .int v1), (2, .int v2), (3, .long v3), (5, .int v5), (6, .int v6), (7, .int v7)] [] σ (B_Mo_turning_55 k55 v1 v2 v3 v5 v6 v7 σ) := by
  unfold B_Mo_turning_55
  refine v_iload 6 g d_Mo_turning_55 rfl ?_
  refine v_aload_n 0 g d_Mo_turning_57 rfl ?_
  refine v_getI g ff_Mo_80 rfl rfl d_Mo_turning_58 ?_
  refine v_icmp_ge 166 g d_Mo_turning_61 (by decide) (fun _ => ?_) (fun _ => ?_)
  · refine v_iconst (v := (-1 : Int32)) g d_Mo_turning_166 (by decide +kernel) ?_
    exact v_ret d_Mo_turning_167 rfl
  · refine v_iload 6 g d_Mo_turning_64 rfl ?_
    refine v_iconst (v := (1 : Int32)) g d_Mo_turning_66 (by decide +kernel) ?_
    refine v_iadd g d_Mo_turning_67 ?_
    refine v_istore [(8, .int (v7 + (1 : Int32))), (0, .ref (E.2.1 48)), (1, .int v1), (2, .int v2), (3, .long v3), (5, .int v5), (6, .int v6), (7, .int v7)] g d_Mo_turning_68 (by decide) rfl ?_
    exact v_sub [1,2,3,4,5,6,7,0] rfl (vL_Mo_turning_70 g hk55 LF v1 v2 v3 v5 v6 v7 (v7 + (1 : Int32)) σ)
def L_Mo_turning_55 : Nat → Int32 → Int32 → Int64 → Int32 → Int32 → Int32 → Sto → Option (Int32 × Sto)
  | 0, _, _, _, _, _, _, _ => none
  | fu + 1, v1, v2, v3, v5, v6, v7, σ => B_Mo_turning_55 (L_Mo_turning_55 fu) v1 v2 v3 v5 v6 v7 σ
theorem vL_Mo_turning_55 {X : Xt} {E : En} (g : GG X E 7 b_Mo_turning R_Mo 10) (fu : Nat) : ∀ (v1 : Int32) (v2 : Int32) (v3 : Int64) (v5 : Int32) (v6 : Int32) (v7 : Int32) (σ : Sto), VV X E b_Mo_turning 10 eI 55 [(0, .ref (E.2.1 48)), (1, .int v1), (2, .int v2), (3, .long v3), (5, .int v5), (6, .int v6), (7, .int v7)] [] σ (L_Mo_turning_55 fu v1 v2 v3 v5 v6 v7 σ) := by
  induction fu with
  | zero => intros; exact v_none
  | succ fu ih =>
    intro v1 v2 v3 v5 v6 v7 σ
    exact vB_Mo_turning_55 g ih v1 v2 v3 v5 v6 v7 σ
def B_Mo_turning_0 (a1 : Int32) (a2 : Int32) (a3 : Int64) (a5 : Int32) (σ : Sto) : Option (Int32 × Sto) :=
  ((f_Mo_isOne a1 σ).bind fun q1 => (if (b2i q1.1) = 0 then some ((-2 : Int32), q1.2)
 else ((f_Mo_isOne a2 q1.2).bind fun q2 => (if (b2i q2.1) = 0 then some ((-2 : Int32), q2.2)
  else ((f_Mo_isSet a3 q2.2).bind fun q3 => (if (b2i q3.1) = 0 then some ((-2 : Int32), q3.2)
   else ((f_Mo_isOne a5 q3.2).bind fun q4 => (if (b2i q4.1) = 0 then some ((-2 : Int32), q4.2)
    else ((f_Mo_isMuch a3 q4.2).bind fun q5 => (if (b2i q5.1) = 0 then ((f_Mo_topOf a1 a2 a3 q5.2).bind fun q6 => L_Mo_turning_55 LF a1 a2 a3 a5 q6.1 (0 : Int32) q6.2)
     else some ((-5 : Int32), q5.2)))))))))))
set_option maxHeartbeats 4000000 in
set_option maxRecDepth 100000 in
theorem vB_Mo_turning_0 {X : Xt} {E : En} (g : GG X E 7 b_Mo_turning R_Mo 10) (a1 : Int32) (a2 : Int32) (a3 : Int64) (a5 : Int32) (σ : Sto) : VV X E b_Mo_turning 10 eI 0 [(0, .ref (E.2.1 48)), (1, .int a1), (2, .int a2), (3, .long a3), (5, .int a5)] [] σ (B_Mo_turning_0 a1 a2 a3 a5 σ) := by
  unfold B_Mo_turning_0
  refine v_iload_n 1 g d_Mo_turning_0 rfl ?_
  refine v_callB (r_S (rest := []) [.int a1] g (m1 1203 (by decide +kernel) (by decide +kernel)) ys_Mo_isOne (fun r σ1 h => sp_Mo_isOne g.2.2.1  h) rfl rfl (by decide) (Nat.le_of_ble_eq_true rfl) d_Mo_turning_1) (fun q1 => ?_)
  refine v_if_eq 30 g d_Mo_turning_4 (by decide) (fun _ => ?_) (fun _ => ?_)
  · refine v_bipush (v := (-2 : Int32)) g d_Mo_turning_30 (by decide +kernel) ?_
    exact v_ret d_Mo_turning_32 rfl
  · refine v_iload_n 2 g d_Mo_turning_7 rfl ?_
    refine v_callB (r_S (rest := []) [.int a2] g (m1 1203 (by decide +kernel) (by decide +kernel)) ys_Mo_isOne (fun r σ1 h => sp_Mo_isOne g.2.2.1  h) rfl rfl (by decide) (Nat.le_of_ble_eq_true rfl) d_Mo_turning_8) (fun q2 => ?_)
    refine v_if_eq 30 g d_Mo_turning_11 (by decide) (fun _ => ?_) (fun _ => ?_)
    · refine v_bipush (v := (-2 : Int32)) g d_Mo_turning_30 (by decide +kernel) ?_
      exact v_ret d_Mo_turning_32 rfl
    · refine v_aload_n 0 g d_Mo_turning_14 rfl ?_
      refine v_lload_n 3 g d_Mo_turning_15 rfl ?_
      refine v_callB (r_V (rest := []) [.long a3] g (m1 1221 (by decide +kernel) (by decide +kernel)) yv_Mo_isSet rfl (fun r σ1 h => sp_Mo_isSet g.2.2.1  h) rfl rfl (by decide) (Nat.le_of_ble_eq_true rfl) d_Mo_turning_16) (fun q3 => ?_)
      refine v_if_eq 30 g d_Mo_turning_19 (by decide) (fun _ => ?_) (fun _ => ?_)
      · refine v_bipush (v := (-2 : Int32)) g d_Mo_turning_30 (by decide +kernel) ?_
        exact v_ret d_Mo_turning_32 rfl
      · refine v_iload 4 g d_Mo_turning_22 rfl ?_
        refine v_callB (r_S (rest := []) [.int a5] g (m1 1203 (by decide +kernel) (by decide +kernel)) ys_Mo_isOne (fun r σ1 h => sp_Mo_isOne g.2.2.1  h) rfl rfl (by decide) (Nat.le_of_ble_eq_true rfl) d_Mo_turning_24) (fun q4 => ?_)
        refine v_if_ne 33 g d_Mo_turning_27 (by decide) (fun _ => ?_) (fun _ => ?_)
        · refine v_lload_n 3 g d_Mo_turning_33 rfl ?_
          refine v_callB (r_S (rest := []) [.long a3] g (m1 1327 (by decide +kernel) (by decide +kernel)) ys_Mo_isMuch (fun r σ1 h => sp_Mo_isMuch g.2.2.1  h) rfl rfl (by decide) (Nat.le_of_ble_eq_true rfl) d_Mo_turning_34) (fun q5 => ?_)
          refine v_if_eq 43 g d_Mo_turning_37 (by decide) (fun _ => ?_) (fun _ => ?_)
          · refine v_aload_n 0 g d_Mo_turning_43 rfl ?_
            refine v_iload_n 1 g d_Mo_turning_44 rfl ?_
            refine v_iload_n 2 g d_Mo_turning_45 rfl ?_
            refine v_lload_n 3 g d_Mo_turning_46 rfl ?_
            refine v_callI (r_V (rest := []) [.int a1, .int a2, .long a3] g (m1 1360 (by decide +kernel) (by decide +kernel)) yv_Mo_topOf rfl (fun r σ1 h => sp_Mo_topOf g.2.2.1  h) rfl rfl (by decide) (Nat.le_of_ble_eq_true rfl) d_Mo_turning_47) (fun q6 => ?_)
            refine v_istore [(6, .int q6.1), (0, .ref (E.2.1 48)), (1, .int a1), (2, .int a2), (3, .long a3), (5, .int a5)] g d_Mo_turning_50 (by decide) rfl ?_
            refine v_iconst (v := (0 : Int32)) g d_Mo_turning_52 (by decide +kernel) ?_
            refine v_istore [(7, .int (0 : Int32)), (6, .int q6.1), (0, .ref (E.2.1 48)), (1, .int a1), (2, .int a2), (3, .long a3), (5, .int a5)] g d_Mo_turning_53 (by decide) rfl ?_
            exact v_sub [2,3,4,5,6,1,0] rfl (vL_Mo_turning_55 g LF a1 a2 a3 a5 q6.1 (0 : Int32) q6.2)
          · refine v_bipush (v := (-5 : Int32)) g d_Mo_turning_40 (by decide +kernel) ?_
            exact v_ret d_Mo_turning_42 rfl
        · refine v_bipush (v := (-2 : Int32)) g d_Mo_turning_30 (by decide +kernel) ?_
          exact v_ret d_Mo_turning_32 rfl
def f_Mo_turning (a1 : Int32) (a2 : Int32) (a3 : Int64) (a5 : Int32) (σ : Sto) : Option (Int32 × Sto) := B_Mo_turning_0 a1 a2 a3 a5 σ
theorem sp_Mo_turning {l : Launch} {E : En} (hE : Dj E) {a1 : Int32} {a2 : Int32} {a3 : Int64} {a5 : Int32} {σ : Sto} {r : Int32} {σ' : Sto} (h : f_Mo_turning a1 a2 a3 a5 σ = some (r, σ')) : Ct l E y_Mo_turning (wsM y_Mo_turning b_Mo_turning 10 (some .int)) 7 [.ref (E.2.1 48), .int a1, .int a2, .long a3, .int a5] σ (eI r) σ' :=
  ct_of hE (by decide +kernel) (Nat.le_of_ble_eq_true rfl) (fun x => Or.inl ⟨rfl, x, rfl⟩) (fun X _ g => vB_Mo_turning_0 g a1 a2 a3 a5 σ) r σ' h
/-! method FittingRingsModel.isLoose(III)Z -/
theorem yv_Mo_isLoose : YV y_Mo_isLoose b_Mo_isLoose 7 (some .boolean) 3 10 := ⟨m1 1370 (by decide +kernel) (by decide +kernel), m1 48 (by decide +kernel) (by decide +kernel), ini_Mo, m1 1371 (by decide +kernel) (by decide +kernel), ⟨by decide +kernel, by decide +kernel, by decide +kernel⟩, by decide, by decide, T_Mo, 39, rfl⟩
theorem d_Mo_isLoose_0 : decode b_Mo_isLoose 0 = .ok (.lconst 0, 1) := by decide +kernel
theorem d_Mo_isLoose_1 : decode b_Mo_isLoose 1 = .ok (.lstore 4, 2) := by decide +kernel
theorem d_Mo_isLoose_3 : decode b_Mo_isLoose 3 = .ok (.iconst 0, 1) := by decide +kernel
theorem d_Mo_isLoose_4 : decode b_Mo_isLoose 4 = .ok (.istore 6, 2) := by decide +kernel
theorem d_Mo_isLoose_6 : decode b_Mo_isLoose 6 = .ok (.iload 6, 2) := by decide +kernel
theorem d_Mo_isLoose_8 : decode b_Mo_isLoose 8 = .ok (.iload_n 3, 1) := by decide +kernel
theorem d_Mo_isLoose_9 : decode b_Mo_isLoose 9 = .ok (.if_icmp .ge 38, 3) := by decide +kernel
theorem d_Mo_isLoose_12 : decode b_Mo_isLoose 12 = .ok (.lload 4, 2) := by decide +kernel
theorem d_Mo_isLoose_14 : decode b_Mo_isLoose 14 = .ok (.iload_n 2, 1) := by decide +kernel
theorem d_Mo_isLoose_15 : decode b_Mo_isLoose 15 = .ok (.i2l, 1) := by decide +kernel
theorem d_Mo_isLoose_16 : decode b_Mo_isLoose 16 = .ok (.iload 6, 2) := by decide +kernel
theorem d_Mo_isLoose_18 : decode b_Mo_isLoose 18 = .ok (.invokestatic 119, 3) := by decide +kernel
theorem d_Mo_isLoose_21 : decode b_Mo_isLoose 21 = .ok (.ifCond .eq 16, 3) := by decide +kernel
theorem d_Mo_isLoose_24 : decode b_Mo_isLoose 24 = .ok (.aload_n 0, 1) := by decide +kernel
theorem d_Mo_isLoose_25 : decode b_Mo_isLoose 25 = .ok (.getfield 41, 3) := by decide +kernel
theorem d_Mo_isLoose_28 : decode b_Mo_isLoose 28 = .ok (.iload 6, 2) := by decide +kernel
theorem d_Mo_isLoose_30 : decode b_Mo_isLoose 30 = .ok (.iaload, 1) := by decide +kernel
theorem d_Mo_isLoose_31 : decode b_Mo_isLoose 31 = .ok (.invokestatic 110, 3) := by decide +kernel
theorem d_Mo_isLoose_34 : decode b_Mo_isLoose 34 = .ok (.goto 4, 3) := by decide +kernel
theorem d_Mo_isLoose_37 : decode b_Mo_isLoose 37 = .ok (.lconst 0, 1) := by decide +kernel
theorem d_Mo_isLoose_38 : decode b_Mo_isLoose 38 = .ok (.lor, 1) := by decide +kernel
theorem d_Mo_isLoose_39 : decode b_Mo_isLoose 39 = .ok (.lstore 4, 2) := by decide +kernel
theorem d_Mo_isLoose_41 : decode b_Mo_isLoose 41 = .ok (.iinc 6 1, 3) := by decide +kernel
theorem d_Mo_isLoose_44 : decode b_Mo_isLoose 44 = .ok (.goto (-38), 3) := by decide +kernel
theorem d_Mo_isLoose_47 : decode b_Mo_isLoose 47 = .ok (.iconst 0, 1) := by decide +kernel
theorem d_Mo_isLoose_48 : decode b_Mo_isLoose 48 = .ok (.istore 6, 2) := by decide +kernel
theorem d_Mo_isLoose_50 : decode b_Mo_isLoose 50 = .ok (.iload 6, 2) := by decide +kernel
theorem d_Mo_isLoose_52 : decode b_Mo_isLoose 52 = .ok (.iload_n 3, 1) := by decide +kernel
theorem d_Mo_isLoose_53 : decode b_Mo_isLoose 53 = .ok (.if_icmp .ge 40, 3) := by decide +kernel
theorem d_Mo_isLoose_56 : decode b_Mo_isLoose 56 = .ok (.iload_n 2, 1) := by decide +kernel
theorem d_Mo_isLoose_57 : decode b_Mo_isLoose 57 = .ok (.i2l, 1) := by decide +kernel
theorem d_Mo_isLoose_58 : decode b_Mo_isLoose 58 = .ok (.iload 6, 2) := by decide +kernel
theorem d_Mo_isLoose_60 : decode b_Mo_isLoose 60 = .ok (.invokestatic 119, 3) := by decide +kernel
theorem d_Mo_isLoose_63 : decode b_Mo_isLoose 63 = .ok (.ifCond .eq 24, 3) := by decide +kernel
theorem d_Mo_isLoose_66 : decode b_Mo_isLoose 66 = .ok (.aload_n 0, 1) := by decide +kernel
theorem d_Mo_isLoose_67 : decode b_Mo_isLoose 67 = .ok (.iload_n 1, 1) := by decide +kernel
theorem d_Mo_isLoose_68 : decode b_Mo_isLoose 68 = .ok (.aload_n 0, 1) := by decide +kernel
theorem d_Mo_isLoose_69 : decode b_Mo_isLoose 69 = .ok (.getfield 41, 3) := by decide +kernel
theorem d_Mo_isLoose_72 : decode b_Mo_isLoose 72 = .ok (.iload 6, 2) := by decide +kernel
theorem d_Mo_isLoose_74 : decode b_Mo_isLoose 74 = .ok (.iaload, 1) := by decide +kernel
theorem d_Mo_isLoose_75 : decode b_Mo_isLoose 75 = .ok (.lload 4, 2) := by decide +kernel
theorem d_Mo_isLoose_77 : decode b_Mo_isLoose 77 = .ok (.invokevirtual 135, 3) := by decide +kernel
theorem d_Mo_isLoose_80 : decode b_Mo_isLoose 80 = .ok (.lconst 0, 1) := by decide +kernel
theorem d_Mo_isLoose_81 : decode b_Mo_isLoose 81 = .ok (.lcmp, 1) := by decide +kernel
theorem d_Mo_isLoose_82 : decode b_Mo_isLoose 82 = .ok (.ifCond .eq 5, 3) := by decide +kernel
theorem d_Mo_isLoose_85 : decode b_Mo_isLoose 85 = .ok (.iconst 0, 1) := by decide +kernel
theorem d_Mo_isLoose_86 : decode b_Mo_isLoose 86 = .ok (.ireturn, 1) := by decide +kernel
theorem d_Mo_isLoose_87 : decode b_Mo_isLoose 87 = .ok (.iinc 6 1, 3) := by decide +kernel
theorem d_Mo_isLoose_90 : decode b_Mo_isLoose 90 = .ok (.goto (-40), 3) := by decide +kernel
theorem d_Mo_isLoose_93 : decode b_Mo_isLoose 93 = .ok (.iconst 1, 1) := by decide +kernel
theorem d_Mo_isLoose_94 : decode b_Mo_isLoose 94 = .ok (.ireturn, 1) := by decide +kernel
def B_Mo_isLoose_50 (k50 : Int32 → Int32 → Int32 → Int64 → Int32 → Sto → Option (Bool × Sto)) (v1 : Int32) (v2 : Int32) (v3 : Int32) (v4 : Int64) (v6 : Int32) (σ : Sto) : Option (Bool × Sto) :=
  (if v3 ≤ v6 then some (true, σ)
 else ((f_Mo_has (Int32.toInt64 v2) v6 σ).bind fun q3 => (if (b2i q3.1) = 0 then k50 v1 v2 v3 v4 (v6 + (1 : Int32)) q3.2
  else (if inb v6 10 = true then ((f_Mo_fits v1 (gI q3.2 59 (Int32.toNatClampNeg v6)) v4 q3.2).bind fun q4 => (if q4.1 = (0 : Int64) then k50 v1 v2 v3 v4 (v6 + (1 : Int32)) q4.2
   else some (false, q4.2))) else none))))
set_option maxHeartbeats 4000000 in
set_option maxRecDepth 100000 in
theorem vB_Mo_isLoose_50 {X : Xt} {E : En} (g : GG X E 3 b_Mo_isLoose R_Mo 7) {k50 : Int32 → Int32 → Int32 → Int64 → Int32 → Sto → Option (Bool × Sto)} (hk50 : ∀ (v1 : Int32) (v2 : Int32) (v3 : Int32) (v4 : Int64) (v6 : Int32) (σ : Sto), VV X E b_Mo_isLoose 7 eB 50 [(0, .ref (E.2.1 48)), (1, .int v1), (2, .int v2), (3, .int v3), (4, .long v4), (6, .int v6)] [] σ (k50 v1 v2 v3 v4 v6 σ)) (v1 : Int32) (v2 : Int32) (v3 : Int32) (v4 : Int64) (v6 : Int32) (σ : Sto) : VV X E b_Mo_isLoose 7 eB 50 [(0, .ref (E.2.1 48)), (1, .int v1), (2, .int v2), (3, .int v3), (4, .long v4), (6, .int v6)] [] σ (B_Mo_isLoose_50 k50 v1 v2 v3 v4 v6 σ) := by
  unfold B_Mo_isLoose_50
  refine v_iload 5 g d_Mo_isLoose_50 rfl ?_
  refine v_iload_n 3 g d_Mo_isLoose_52 rfl ?_
  refine v_icmp_ge 93 g d_Mo_isLoose_53 (by decide) (fun _ => ?_) (fun _ => ?_)
  · refine v_iconst (v := (1 : Int32)) g d_Mo_isLoose_93 (by decide +kernel) ?_
    exact v_ret d_Mo_isLoose_94 rfl
  · refine v_iload_n 2 g d_Mo_isLoose_56 rfl ?_
    refine v_i2l g d_Mo_isLoose_57 ?_
    refine v_iload 5 g d_Mo_isLoose_58 rfl ?_
    refine v_callB (r_S (rest := []) [.long (Int32.toInt64 v2), .int v6] g (m1 1206 (by decide +kernel) (by decide +kernel)) ys_Mo_has (fun r σ1 h => sp_Mo_has g.2.2.1  h) rfl rfl (by decide) (Nat.le_of_ble_eq_true rfl) d_Mo_isLoose_60) (fun q3 => ?_)
    refine v_if_eq 87 g d_Mo_isLoose_63 (by decide) (fun _ => ?_) (fun _ => ?_)
    · refine v_iinc 5 [(6, .int (v6 + (1 : Int32))), (0, .ref (E.2.1 48)), (1, .int v1), (2, .int v2), (3, .int v3), (4, .long v4)] g d_Mo_isLoose_87 rfl (v := (1 : Int32)) (by decide +kernel) (by decide) rfl ?_
      refine v_goto 50 g d_Mo_isLoose_90 (by decide) ?_
      exact v_sub [1,2,3,4,5,0] rfl (hk50 v1 v2 v3 v4 (v6 + (1 : Int32)) q3.2)
    · refine v_aload_n 0 g d_Mo_isLoose_66 rfl ?_
      refine v_iload_n 1 g d_Mo_isLoose_67 rfl ?_
      refine v_aload_n 0 g d_Mo_isLoose_68 rfl ?_
      refine v_getR 59 g ff_Mo_41 rfl rfl rfl d_Mo_isLoose_69 ?_
      refine v_iload 5 g d_Mo_isLoose_72 rfl ?_
      refine v_iald g rfl rfl d_Mo_isLoose_74 (fun _ => ?_)
      refine v_lload 4 g d_Mo_isLoose_75 rfl ?_
      refine v_callL (r_V (rest := []) [.int v1, .int (gI q3.2 59 (Int32.toNatClampNeg v6)), .long v4] g (m1 1233 (by decide +kernel) (by decide +kernel)) yv_Mo_fits rfl (fun r σ1 h => sp_Mo_fits g.2.2.1  h) rfl rfl (by decide) (Nat.le_of_ble_eq_true rfl) d_Mo_isLoose_77) (fun q4 => ?_)
      refine v_lconst (v := (0 : Int64)) g d_Mo_isLoose_80 (by decide +kernel) ?_
      refine v_lcmp_eq 87 g d_Mo_isLoose_81 d_Mo_isLoose_82 (by decide) (fun _ => ?_) (fun _ => ?_)
      · refine v_iinc 5 [(6, .int (v6 + (1 : Int32))), (0, .ref (E.2.1 48)), (1, .int v1), (2, .int v2), (3, .int v3), (4, .long v4)] g d_Mo_isLoose_87 rfl (v := (1 : Int32)) (by decide +kernel) (by decide) rfl ?_
        refine v_goto 50 g d_Mo_isLoose_90 (by decide) ?_
        exact v_sub [1,2,3,4,5,0] rfl (hk50 v1 v2 v3 v4 (v6 + (1 : Int32)) q4.2)
      · refine v_iconst (v := (0 : Int32)) g d_Mo_isLoose_85 (by decide +kernel) ?_
        exact v_ret d_Mo_isLoose_86 rfl
def L_Mo_isLoose_50 : Nat → Int32 → Int32 → Int32 → Int64 → Int32 → Sto → Option (Bool × Sto)
  | 0, _, _, _, _, _, _ => none
  | fu + 1, v1, v2, v3, v4, v6, σ => B_Mo_isLoose_50 (L_Mo_isLoose_50 fu) v1 v2 v3 v4 v6 σ
theorem vL_Mo_isLoose_50 {X : Xt} {E : En} (g : GG X E 3 b_Mo_isLoose R_Mo 7) (fu : Nat) : ∀ (v1 : Int32) (v2 : Int32) (v3 : Int32) (v4 : Int64) (v6 : Int32) (σ : Sto), VV X E b_Mo_isLoose 7 eB 50 [(0, .ref (E.2.1 48)), (1, .int v1), (2, .int v2), (3, .int v3), (4, .long v4), (6, .int v6)] [] σ (L_Mo_isLoose_50 fu v1 v2 v3 v4 v6 σ) := by
  induction fu with
  | zero => intros; exact v_none
  | succ fu ih =>
    intro v1 v2 v3 v4 v6 σ
    exact vB_Mo_isLoose_50 g ih v1 v2 v3 v4 v6 σ
def B_Mo_isLoose_6 (k6 : Int32 → Int32 → Int32 → Int64 → Int32 → Sto → Option (Bool × Sto)) (v1 : Int32) (v2 : Int32) (v3 : Int32) (v4 : Int64) (v6 : Int32) (σ : Sto) : Option (Bool × Sto) :=
  (if v3 ≤ v6 then L_Mo_isLoose_50 LF v1 v2 v3 v4 (0 : Int32) σ
 else ((f_Mo_has (Int32.toInt64 v2) v6 σ).bind fun q1 => (if (b2i q1.1) = 0 then k6 v1 v2 v3 (v4 ||| (0 : Int64)) (v6 + (1 : Int32)) q1.2
  else (if inb v6 10 = true then ((f_Mo_bit (gI q1.2 59 (Int32.toNatClampNeg v6)) q1.2).bind fun q2 => k6 v1 v2 v3 (v4 ||| q2.1) (v6 + (1 : Int32)) q2.2) else none))))
set_option maxHeartbeats 4000000 in
set_option maxRecDepth 100000 in
theorem vB_Mo_isLoose_6 {X : Xt} {E : En} (g : GG X E 3 b_Mo_isLoose R_Mo 7) {k6 : Int32 → Int32 → Int32 → Int64 → Int32 → Sto → Option (Bool × Sto)} (hk6 : ∀ (v1 : Int32) (v2 : Int32) (v3 : Int32) (v4 : Int64) (v6 : Int32) (σ : Sto), VV X E b_Mo_isLoose 7 eB 6 [(0, .ref (E.2.1 48)), (1, .int v1), (2, .int v2), (3, .int v3), (4, .long v4), (6, .int v6)] [] σ (k6 v1 v2 v3 v4 v6 σ)) (v1 : Int32) (v2 : Int32) (v3 : Int32) (v4 : Int64) (v6 : Int32) (σ : Sto) : VV X E b_Mo_isLoose 7 eB 6 [(0, .ref (E.2.1 48)), (1, .int v1), (2, .int v2), (3, .int v3), (4, .long v4), (6, .int v6)] [] σ (B_Mo_isLoose_6 k6 v1 v2 v3 v4 v6 σ) := by
  unfold B_Mo_isLoose_6
  refine v_iload 5 g d_Mo_isLoose_6 rfl ?_
  refine v_iload_n 3 g d_Mo_isLoose_8 rfl ?_
  refine v_icmp_ge 47 g d_Mo_isLoose_9 (by decide) (fun _ => ?_) (fun _ => ?_)
  · refine v_iconst (v := (0 : Int32)) g d_Mo_isLoose_47 (by decide +kernel) ?_
    refine v_istore [(6, .int (0 : Int32)), (0, .ref (E.2.1 48)), (1, .int v1), (2, .int v2), (3, .int v3), (4, .long v4)] g d_Mo_isLoose_48 (by decide) rfl ?_
    exact v_sub [1,2,3,4,5,0] rfl (vL_Mo_isLoose_50 g LF v1 v2 v3 v4 (0 : Int32) σ)
  · refine v_lload 4 g d_Mo_isLoose_12 rfl ?_
    refine v_iload_n 2 g d_Mo_isLoose_14 rfl ?_
    refine v_i2l g d_Mo_isLoose_15 ?_
    refine v_iload 5 g d_Mo_isLoose_16 rfl ?_
    refine v_callB (r_S (rest := [.long v4]) [.long (Int32.toInt64 v2), .int v6] g (m1 1206 (by decide +kernel) (by decide +kernel)) ys_Mo_has (fun r σ1 h => sp_Mo_has g.2.2.1  h) rfl rfl (by decide) (Nat.le_of_ble_eq_true rfl) d_Mo_isLoose_18) (fun q1 => ?_)
    refine v_if_eq 37 g d_Mo_isLoose_21 (by decide) (fun _ => ?_) (fun _ => ?_)
    · refine v_lconst (v := (0 : Int64)) g d_Mo_isLoose_37 (by decide +kernel) ?_
      refine v_lor g d_Mo_isLoose_38 ?_
      refine v_lstore [(4, .long (v4 ||| (0 : Int64))), (0, .ref (E.2.1 48)), (1, .int v1), (2, .int v2), (3, .int v3), (6, .int v6)] g d_Mo_isLoose_39 (by decide) rfl ?_
      refine v_iinc 5 [(6, .int (v6 + (1 : Int32))), (4, .long (v4 ||| (0 : Int64))), (0, .ref (E.2.1 48)), (1, .int v1), (2, .int v2), (3, .int v3)] g d_Mo_isLoose_41 rfl (v := (1 : Int32)) (by decide +kernel) (by decide) rfl ?_
      refine v_goto 6 g d_Mo_isLoose_44 (by decide) ?_
      exact v_sub [2,3,4,5,1,0] rfl (hk6 v1 v2 v3 (v4 ||| (0 : Int64)) (v6 + (1 : Int32)) q1.2)
    · refine v_aload_n 0 g d_Mo_isLoose_24 rfl ?_
      refine v_getR 59 g ff_Mo_41 rfl rfl rfl d_Mo_isLoose_25 ?_
      refine v_iload 5 g d_Mo_isLoose_28 rfl ?_
      refine v_iald g rfl rfl d_Mo_isLoose_30 (fun _ => ?_)
      refine v_callL (r_S (rest := [.long v4]) [.int (gI q1.2 59 (Int32.toNatClampNeg v6))] g (m1 1213 (by decide +kernel) (by decide +kernel)) ys_Mo_bit (fun r σ1 h => sp_Mo_bit g.2.2.1  h) rfl rfl (by decide) (Nat.le_of_ble_eq_true rfl) d_Mo_isLoose_31) (fun q2 => ?_)
      refine v_goto 38 g d_Mo_isLoose_34 (by decide) ?_
      refine v_lor g d_Mo_isLoose_38 ?_
      refine v_lstore [(4, .long (v4 ||| q2.1)), (0, .ref (E.2.1 48)), (1, .int v1), (2, .int v2), (3, .int v3), (6, .int v6)] g d_Mo_isLoose_39 (by decide) rfl ?_
      refine v_iinc 5 [(6, .int (v6 + (1 : Int32))), (4, .long (v4 ||| q2.1)), (0, .ref (E.2.1 48)), (1, .int v1), (2, .int v2), (3, .int v3)] g d_Mo_isLoose_41 rfl (v := (1 : Int32)) (by decide +kernel) (by decide) rfl ?_
      refine v_goto 6 g d_Mo_isLoose_44 (by decide) ?_
      exact v_sub [2,3,4,5,1,0] rfl (hk6 v1 v2 v3 (v4 ||| q2.1) (v6 + (1 : Int32)) q2.2)
def L_Mo_isLoose_6 : Nat → Int32 → Int32 → Int32 → Int64 → Int32 → Sto → Option (Bool × Sto)
  | 0, _, _, _, _, _, _ => none
  | fu + 1, v1, v2, v3, v4, v6, σ => B_Mo_isLoose_6 (L_Mo_isLoose_6 fu) v1 v2 v3 v4 v6 σ
theorem vL_Mo_isLoose_6 {X : Xt} {E : En} (g : GG X E 3 b_Mo_isLoose R_Mo 7) (fu : Nat) : ∀ (v1 : Int32) (v2 : Int32) (v3 : Int32) (v4 : Int64) (v6 : Int32) (σ : Sto), VV X E b_Mo_isLoose 7 eB 6 [(0, .ref (E.2.1 48)), (1, .int v1), (2, .int v2), (3, .int v3), (4, .long v4), (6, .int v6)] [] σ (L_Mo_isLoose_6 fu v1 v2 v3 v4 v6 σ) := by
  induction fu with
  | zero => intros; exact v_none
  | succ fu ih =>
    intro v1 v2 v3 v4 v6 σ
    exact vB_Mo_isLoose_6 g ih v1 v2 v3 v4 v6 σ
def B_Mo_isLoose_0 (a1 : Int32) (a2 : Int32) (a3 : Int32) (σ : Sto) : Option (Bool × Sto) :=
  L_Mo_isLoose_6 LF a1 a2 a3 (0 : Int64) (0 : Int32) σ
set_option maxHeartbeats 4000000 in
set_option maxRecDepth 100000 in
theorem vB_Mo_isLoose_0 {X : Xt} {E : En} (g : GG X E 3 b_Mo_isLoose R_Mo 7) (a1 : Int32) (a2 : Int32) (a3 : Int32) (σ : Sto) : VV X E b_Mo_isLoose 7 eB 0 [(0, .ref (E.2.1 48)), (1, .int a1), (2, .int a2), (3, .int a3)] [] σ (B_Mo_isLoose_0 a1 a2 a3 σ) := by
  unfold B_Mo_isLoose_0
  refine v_lconst (v := (0 : Int64)) g d_Mo_isLoose_0 (by decide +kernel) ?_
  refine v_lstore [(4, .long (0 : Int64)), (0, .ref (E.2.1 48)), (1, .int a1), (2, .int a2), (3, .int a3)] g d_Mo_isLoose_1 (by decide) rfl ?_
  refine v_iconst (v := (0 : Int32)) g d_Mo_isLoose_3 (by decide +kernel) ?_
  refine v_istore [(6, .int (0 : Int32)), (4, .long (0 : Int64)), (0, .ref (E.2.1 48)), (1, .int a1), (2, .int a2), (3, .int a3)] g d_Mo_isLoose_4 (by decide) rfl ?_
  exact v_sub [2,3,4,5,1,0] rfl (vL_Mo_isLoose_6 g LF a1 a2 a3 (0 : Int64) (0 : Int32) σ)
def f_Mo_isLoose (a1 : Int32) (a2 : Int32) (a3 : Int32) (σ : Sto) : Option (Bool × Sto) := B_Mo_isLoose_0 a1 a2 a3 σ
theorem sp_Mo_isLoose {l : Launch} {E : En} (hE : Dj E) {a1 : Int32} {a2 : Int32} {a3 : Int32} {σ : Sto} {r : Bool} {σ' : Sto} (h : f_Mo_isLoose a1 a2 a3 σ = some (r, σ')) : Ct l E y_Mo_isLoose (wsM y_Mo_isLoose b_Mo_isLoose 7 (some .boolean)) 3 [.ref (E.2.1 48), .int a1, .int a2, .int a3] σ (eB r) σ' :=
  ct_of hE (by decide +kernel) (Nat.le_of_ble_eq_true rfl) (fun b => Or.inr (Or.inl ⟨rfl, b, rfl⟩)) (fun X _ g => vB_Mo_isLoose_0 g a1 a2 a3 σ) r σ' h
/-! method FittingRingsModel.fewest(IJ)I -/
theorem yv_Mo_fewest : YV y_Mo_fewest b_Mo_fewest 8 (some .int) 2 10 := ⟨m1 1365 (by decide +kernel) (by decide +kernel), m1 1366 (by decide +kernel) (by decide +kernel), ini_Mo, m1 1367 (by decide +kernel) (by decide +kernel), ⟨by decide +kernel, by decide +kernel, by decide +kernel⟩, by decide, by decide, T_Mo, 39, rfl⟩
theorem d_Mo_fewest_0 : decode b_Mo_fewest 0 = .ok (.iload_n 1, 1) := by decide +kernel
theorem d_Mo_fewest_1 : decode b_Mo_fewest 1 = .ok (.invokestatic 116, 3) := by decide +kernel
theorem d_Mo_fewest_4 : decode b_Mo_fewest 4 = .ok (.ifCond .eq 11, 3) := by decide +kernel
theorem d_Mo_fewest_7 : decode b_Mo_fewest 7 = .ok (.aload_n 0, 1) := by decide +kernel
theorem d_Mo_fewest_8 : decode b_Mo_fewest 8 = .ok (.lload_n 2, 1) := by decide +kernel
theorem d_Mo_fewest_9 : decode b_Mo_fewest 9 = .ok (.invokevirtual 127, 3) := by decide +kernel
theorem d_Mo_fewest_12 : decode b_Mo_fewest 12 = .ok (.ifCond .ne 6, 3) := by decide +kernel
theorem d_Mo_fewest_15 : decode b_Mo_fewest 15 = .ok (.bipush (-2), 2) := by decide +kernel
theorem d_Mo_fewest_17 : decode b_Mo_fewest 17 = .ok (.ireturn, 1) := by decide +kernel
theorem d_Mo_fewest_18 : decode b_Mo_fewest 18 = .ok (.lload_n 2, 1) := by decide +kernel
theorem d_Mo_fewest_19 : decode b_Mo_fewest 19 = .ok (.invokestatic 96, 3) := by decide +kernel
theorem d_Mo_fewest_22 : decode b_Mo_fewest 22 = .ok (.bipush 10, 2) := by decide +kernel
theorem d_Mo_fewest_24 : decode b_Mo_fewest 24 = .ok (.if_icmp .le 6, 3) := by decide +kernel
theorem d_Mo_fewest_27 : decode b_Mo_fewest 27 = .ok (.bipush (-5), 2) := by decide +kernel
theorem d_Mo_fewest_29 : decode b_Mo_fewest 29 = .ok (.ireturn, 1) := by decide +kernel
theorem d_Mo_fewest_30 : decode b_Mo_fewest 30 = .ok (.iconst 0, 1) := by decide +kernel
theorem d_Mo_fewest_31 : decode b_Mo_fewest 31 = .ok (.istore 4, 2) := by decide +kernel
theorem d_Mo_fewest_33 : decode b_Mo_fewest 33 = .ok (.iconst 0, 1) := by decide +kernel
theorem d_Mo_fewest_34 : decode b_Mo_fewest 34 = .ok (.istore 5, 2) := by decide +kernel
theorem d_Mo_fewest_36 : decode b_Mo_fewest 36 = .ok (.iload 5, 2) := by decide +kernel
theorem d_Mo_fewest_38 : decode b_Mo_fewest 38 = .ok (.aload_n 0, 1) := by decide +kernel
theorem d_Mo_fewest_39 : decode b_Mo_fewest 39 = .ok (.getfield 80, 3) := by decide +kernel
theorem d_Mo_fewest_42 : decode b_Mo_fewest 42 = .ok (.if_icmp .ge 30, 3) := by decide +kernel
theorem d_Mo_fewest_45 : decode b_Mo_fewest 45 = .ok (.lload_n 2, 1) := by decide +kernel
theorem d_Mo_fewest_46 : decode b_Mo_fewest 46 = .ok (.iload 5, 2) := by decide +kernel
theorem d_Mo_fewest_48 : decode b_Mo_fewest 48 = .ok (.invokestatic 119, 3) := by decide +kernel
theorem d_Mo_fewest_51 : decode b_Mo_fewest 51 = .ok (.ifCond .eq 15, 3) := by decide +kernel
theorem d_Mo_fewest_54 : decode b_Mo_fewest 54 = .ok (.aload_n 0, 1) := by decide +kernel
theorem d_Mo_fewest_55 : decode b_Mo_fewest 55 = .ok (.getfield 41, 3) := by decide +kernel
theorem d_Mo_fewest_58 : decode b_Mo_fewest 58 = .ok (.iload 4, 2) := by decide +kernel
theorem d_Mo_fewest_60 : decode b_Mo_fewest 60 = .ok (.iload 5, 2) := by decide +kernel
theorem d_Mo_fewest_62 : decode b_Mo_fewest 62 = .ok (.iastore, 1) := by decide +kernel
theorem d_Mo_fewest_63 : decode b_Mo_fewest 63 = .ok (.iinc 4 1, 3) := by decide +kernel
theorem d_Mo_fewest_66 : decode b_Mo_fewest 66 = .ok (.iinc 5 1, 3) := by decide +kernel
theorem d_Mo_fewest_69 : decode b_Mo_fewest 69 = .ok (.goto (-33), 3) := by decide +kernel
theorem d_Mo_fewest_72 : decode b_Mo_fewest 72 = .ok (.aload_n 0, 1) := by decide +kernel
theorem d_Mo_fewest_73 : decode b_Mo_fewest 73 = .ok (.getfield 38, 3) := by decide +kernel
theorem d_Mo_fewest_76 : decode b_Mo_fewest 76 = .ok (.iconst 0, 1) := by decide +kernel
theorem d_Mo_fewest_77 : decode b_Mo_fewest 77 = .ok (.iconst 0, 1) := by decide +kernel
theorem d_Mo_fewest_78 : decode b_Mo_fewest 78 = .ok (.iastore, 1) := by decide +kernel
theorem d_Mo_fewest_79 : decode b_Mo_fewest 79 = .ok (.iconst 1, 1) := by decide +kernel
theorem d_Mo_fewest_80 : decode b_Mo_fewest 80 = .ok (.istore 5, 2) := by decide +kernel
theorem d_Mo_fewest_82 : decode b_Mo_fewest 82 = .ok (.iload 5, 2) := by decide +kernel
theorem d_Mo_fewest_84 : decode b_Mo_fewest 84 = .ok (.iconst 1, 1) := by decide +kernel
theorem d_Mo_fewest_85 : decode b_Mo_fewest 85 = .ok (.iload 4, 2) := by decide +kernel
theorem d_Mo_fewest_87 : decode b_Mo_fewest 87 = .ok (.ishl, 1) := by decide +kernel
theorem d_Mo_fewest_88 : decode b_Mo_fewest 88 = .ok (.if_icmp .ge 34, 3) := by decide +kernel
theorem d_Mo_fewest_91 : decode b_Mo_fewest 91 = .ok (.aload_n 0, 1) := by decide +kernel
theorem d_Mo_fewest_92 : decode b_Mo_fewest 92 = .ok (.getfield 38, 3) := by decide +kernel
theorem d_Mo_fewest_95 : decode b_Mo_fewest 95 = .ok (.iload 5, 2) := by decide +kernel
theorem d_Mo_fewest_97 : decode b_Mo_fewest 97 = .ok (.aload_n 0, 1) := by decide +kernel
theorem d_Mo_fewest_98 : decode b_Mo_fewest 98 = .ok (.iload_n 1, 1) := by decide +kernel
theorem d_Mo_fewest_99 : decode b_Mo_fewest 99 = .ok (.iload 5, 2) := by decide +kernel
theorem d_Mo_fewest_101 : decode b_Mo_fewest 101 = .ok (.iload 4, 2) := by decide +kernel
theorem d_Mo_fewest_103 : decode b_Mo_fewest 103 = .ok (.invokevirtual 229, 3) := by decide +kernel
theorem d_Mo_fewest_106 : decode b_Mo_fewest 106 = .ok (.ifCond .eq 7, 3) := by decide +kernel
theorem d_Mo_fewest_109 : decode b_Mo_fewest 109 = .ok (.iconst 1, 1) := by decide +kernel
theorem d_Mo_fewest_110 : decode b_Mo_fewest 110 = .ok (.goto 5, 3) := by decide +kernel
theorem d_Mo_fewest_113 : decode b_Mo_fewest 113 = .ok (.bipush 99, 2) := by decide +kernel
theorem d_Mo_fewest_115 : decode b_Mo_fewest 115 = .ok (.iastore, 1) := by decide +kernel
theorem d_Mo_fewest_116 : decode b_Mo_fewest 116 = .ok (.iinc 5 1, 3) := by decide +kernel
theorem d_Mo_fewest_119 : decode b_Mo_fewest 119 = .ok (.goto (-37), 3) := by decide +kernel
theorem d_Mo_fewest_122 : decode b_Mo_fewest 122 = .ok (.iconst 1, 1) := by decide +kernel
theorem d_Mo_fewest_123 : decode b_Mo_fewest 123 = .ok (.istore 5, 2) := by decide +kernel
theorem d_Mo_fewest_125 : decode b_Mo_fewest 125 = .ok (.iload 5, 2) := by decide +kernel
theorem d_Mo_fewest_127 : decode b_Mo_fewest 127 = .ok (.iconst 1, 1) := by decide +kernel
theorem d_Mo_fewest_128 : decode b_Mo_fewest 128 = .ok (.iload 4, 2) := by decide +kernel
theorem d_Mo_fewest_130 : decode b_Mo_fewest 130 = .ok (.ishl, 1) := by decide +kernel
theorem d_Mo_fewest_131 : decode b_Mo_fewest 131 = .ok (.if_icmp .ge 103, 3) := by decide +kernel
theorem d_Mo_fewest_134 : decode b_Mo_fewest 134 = .ok (.iload 5, 2) := by decide +kernel
theorem d_Mo_fewest_136 : decode b_Mo_fewest 136 = .ok (.iload 5, 2) := by decide +kernel
theorem d_Mo_fewest_138 : decode b_Mo_fewest 138 = .ok (.ineg, 1) := by decide +kernel
theorem d_Mo_fewest_139 : decode b_Mo_fewest 139 = .ok (.iand, 1) := by decide +kernel
theorem d_Mo_fewest_140 : decode b_Mo_fewest 140 = .ok (.istore 6, 2) := by decide +kernel
theorem d_Mo_fewest_142 : decode b_Mo_fewest 142 = .ok (.iload 5, 2) := by decide +kernel
theorem d_Mo_fewest_144 : decode b_Mo_fewest 144 = .ok (.iconst 1, 1) := by decide +kernel
theorem d_Mo_fewest_145 : decode b_Mo_fewest 145 = .ok (.isub, 1) := by decide +kernel
theorem d_Mo_fewest_146 : decode b_Mo_fewest 146 = .ok (.iload 5, 2) := by decide +kernel
theorem d_Mo_fewest_148 : decode b_Mo_fewest 148 = .ok (.iand, 1) := by decide +kernel
theorem d_Mo_fewest_149 : decode b_Mo_fewest 149 = .ok (.istore 7, 2) := by decide +kernel
theorem d_Mo_fewest_151 : decode b_Mo_fewest 151 = .ok (.iload 7, 2) := by decide +kernel
theorem d_Mo_fewest_153 : decode b_Mo_fewest 153 = .ok (.ifCond .le 75, 3) := by decide +kernel
theorem d_Mo_fewest_156 : decode b_Mo_fewest 156 = .ok (.iload 7, 2) := by decide +kernel
theorem d_Mo_fewest_158 : decode b_Mo_fewest 158 = .ok (.iload 6, 2) := by decide +kernel
theorem d_Mo_fewest_160 : decode b_Mo_fewest 160 = .ok (.iand, 1) := by decide +kernel
theorem d_Mo_fewest_161 : decode b_Mo_fewest 161 = .ok (.ifCond .eq 55, 3) := by decide +kernel
theorem d_Mo_fewest_164 : decode b_Mo_fewest 164 = .ok (.aload_n 0, 1) := by decide +kernel
theorem d_Mo_fewest_165 : decode b_Mo_fewest 165 = .ok (.getfield 38, 3) := by decide +kernel
theorem d_Mo_fewest_168 : decode b_Mo_fewest 168 = .ok (.iload 7, 2) := by decide +kernel
theorem d_Mo_fewest_170 : decode b_Mo_fewest 170 = .ok (.iaload, 1) := by decide +kernel
theorem d_Mo_fewest_171 : decode b_Mo_fewest 171 = .ok (.iconst 1, 1) := by decide +kernel
theorem d_Mo_fewest_172 : decode b_Mo_fewest 172 = .ok (.if_icmp .ne 44, 3) := by decide +kernel
theorem d_Mo_fewest_175 : decode b_Mo_fewest 175 = .ok (.aload_n 0, 1) := by decide +kernel
theorem d_Mo_fewest_176 : decode b_Mo_fewest 176 = .ok (.getfield 38, 3) := by decide +kernel
theorem d_Mo_fewest_179 : decode b_Mo_fewest 179 = .ok (.iload 5, 2) := by decide +kernel
theorem d_Mo_fewest_181 : decode b_Mo_fewest 181 = .ok (.iload 7, 2) := by decide +kernel
theorem d_Mo_fewest_183 : decode b_Mo_fewest 183 = .ok (.ixor, 1) := by decide +kernel
theorem d_Mo_fewest_184 : decode b_Mo_fewest 184 = .ok (.iaload, 1) := by decide +kernel
theorem d_Mo_fewest_185 : decode b_Mo_fewest 185 = .ok (.iconst 1, 1) := by decide +kernel
theorem d_Mo_fewest_186 : decode b_Mo_fewest 186 = .ok (.iadd, 1) := by decide +kernel
theorem d_Mo_fewest_187 : decode b_Mo_fewest 187 = .ok (.aload_n 0, 1) := by decide +kernel
theorem d_Mo_fewest_188 : decode b_Mo_fewest 188 = .ok (.getfield 38, 3) := by decide +kernel
theorem d_Mo_fewest_191 : decode b_Mo_fewest 191 = .ok (.iload 5, 2) := by decide +kernel
theorem d_Mo_fewest_193 : decode b_Mo_fewest 193 = .ok (.iaload, 1) := by decide +kernel
theorem d_Mo_fewest_194 : decode b_Mo_fewest 194 = .ok (.if_icmp .ge 22, 3) := by decide +kernel
theorem d_Mo_fewest_197 : decode b_Mo_fewest 197 = .ok (.aload_n 0, 1) := by decide +kernel
theorem d_Mo_fewest_198 : decode b_Mo_fewest 198 = .ok (.getfield 38, 3) := by decide +kernel
theorem d_Mo_fewest_201 : decode b_Mo_fewest 201 = .ok (.iload 5, 2) := by decide +kernel
theorem d_Mo_fewest_203 : decode b_Mo_fewest 203 = .ok (.aload_n 0, 1) := by decide +kernel
theorem d_Mo_fewest_204 : decode b_Mo_fewest 204 = .ok (.getfield 38, 3) := by decide +kernel
theorem d_Mo_fewest_207 : decode b_Mo_fewest 207 = .ok (.iload 5, 2) := by decide +kernel
theorem d_Mo_fewest_209 : decode b_Mo_fewest 209 = .ok (.iload 7, 2) := by decide +kernel
theorem d_Mo_fewest_211 : decode b_Mo_fewest 211 = .ok (.ixor, 1) := by decide +kernel
theorem d_Mo_fewest_212 : decode b_Mo_fewest 212 = .ok (.iaload, 1) := by decide +kernel
theorem d_Mo_fewest_213 : decode b_Mo_fewest 213 = .ok (.iconst 1, 1) := by decide +kernel
theorem d_Mo_fewest_214 : decode b_Mo_fewest 214 = .ok (.iadd, 1) := by decide +kernel
theorem d_Mo_fewest_215 : decode b_Mo_fewest 215 = .ok (.iastore, 1) := by decide +kernel
theorem d_Mo_fewest_216 : decode b_Mo_fewest 216 = .ok (.iload 7, 2) := by decide +kernel
theorem d_Mo_fewest_218 : decode b_Mo_fewest 218 = .ok (.iconst 1, 1) := by decide +kernel
theorem d_Mo_fewest_219 : decode b_Mo_fewest 219 = .ok (.isub, 1) := by decide +kernel
theorem d_Mo_fewest_220 : decode b_Mo_fewest 220 = .ok (.iload 5, 2) := by decide +kernel
theorem d_Mo_fewest_222 : decode b_Mo_fewest 222 = .ok (.iand, 1) := by decide +kernel
theorem d_Mo_fewest_223 : decode b_Mo_fewest 223 = .ok (.istore 7, 2) := by decide +kernel
theorem d_Mo_fewest_225 : decode b_Mo_fewest 225 = .ok (.goto (-74), 3) := by decide +kernel
theorem d_Mo_fewest_228 : decode b_Mo_fewest 228 = .ok (.iinc 5 1, 3) := by decide +kernel
theorem d_Mo_fewest_231 : decode b_Mo_fewest 231 = .ok (.goto (-106), 3) := by decide +kernel
theorem d_Mo_fewest_234 : decode b_Mo_fewest 234 = .ok (.aload_n 0, 1) := by decide +kernel
theorem d_Mo_fewest_235 : decode b_Mo_fewest 235 = .ok (.getfield 38, 3) := by decide +kernel
theorem d_Mo_fewest_238 : decode b_Mo_fewest 238 = .ok (.iconst 1, 1) := by decide +kernel
theorem d_Mo_fewest_239 : decode b_Mo_fewest 239 = .ok (.iload 4, 2) := by decide +kernel
theorem d_Mo_fewest_241 : decode b_Mo_fewest 241 = .ok (.ishl, 1) := by decide +kernel
theorem d_Mo_fewest_242 : decode b_Mo_fewest 242 = .ok (.iconst 1, 1) := by decide +kernel
theorem d_Mo_fewest_243 : decode b_Mo_fewest 243 = .ok (.isub, 1) := by decide +kernel
theorem d_Mo_fewest_244 : decode b_Mo_fewest 244 = .ok (.iaload, 1) := by decide +kernel
theorem d_Mo_fewest_245 : decode b_Mo_fewest 245 = .ok (.ireturn, 1) := by decide +kernel
def B_Mo_fewest_151 (k125 : Int32 → Int32 → Sto → Option (Int32 × Sto)) (k151 : Int32 → Int32 → Int32 → Int32 → Sto → Option (Int32 × Sto)) (v4 : Int32) (v5 : Int32) (v6 : Int32) (v7 : Int32) (σ : Sto) : Option (Int32 × Sto) :=
  (if v7 ≤ 0 then k125 v4 (v5 + (1 : Int32)) σ
 else (if (v7 &&& v6) = 0 then (lt1 ((v7 - (1 : Int32)) &&& v5) fun x7 => k151 v4 v5 v6 x7 σ)
  else (if inb v7 1024 = true then (if (gI σ 58 (Int32.toNatClampNeg v7)) = (1 : Int32) then (if inb (v5 ^^^ v7) 1024 = true then (if inb v5 1024 = true then (if (gI σ 58 (Int32.toNatClampNeg v5)) ≤ ((gI σ 58 (Int32.toNatClampNeg (v5 ^^^ v7))) + (1 : Int32)) then (lt1 ((v7 - (1 : Int32)) &&& v5) fun x9 => k151 v4 v5 v6 x9 σ)
    else (if inb (v5 ^^^ v7) 1024 = true then (if inb v5 1024 = true then (lt1 (sI σ 58 (Int32.toNatClampNeg v5) ((gI σ 58 (Int32.toNatClampNeg (v5 ^^^ v7))) + (1 : Int32))) fun σ10 => (lt1 ((v7 - (1 : Int32)) &&& v5) fun x11 => k151 v4 v5 v6 x11 σ10)) else none) else none)) else none) else none)
   else (lt1 ((v7 - (1 : Int32)) &&& v5) fun x8 => k151 v4 v5 v6 x8 σ)) else none)))
set_option maxHeartbeats 4000000 in
set_option maxRecDepth 100000 in
theorem vB_Mo_fewest_151 {X : Xt} {E : En} (g : GG X E 4 b_Mo_fewest R_Mo 8) {k125 : Int32 → Int32 → Sto → Option (Int32 × Sto)} {k151 : Int32 → Int32 → Int32 → Int32 → Sto → Option (Int32 × Sto)} (hk125 : ∀ (v4 : Int32) (v5 : Int32) (σ : Sto), VV X E b_Mo_fewest 8 eI 125 [(0, .ref (E.2.1 48)), (4, .int v4), (5, .int v5)] [] σ (k125 v4 v5 σ)) (hk151 : ∀ (v4 : Int32) (v5 : Int32) (v6 : Int32) (v7 : Int32) (σ : Sto), VV X E b_Mo_fewest 8 eI 151 [(0, .ref (E.2.1 48)), (4, .int v4), (5, .int v5), (6, .int v6), (7, .int v7)] [] σ (k151 v4 v5 v6 v7 σ)) (v4 : Int32) (v5 : Int32) (v6 : Int32) (v7 : Int32) (σ : Sto) : VV X E b_Mo_fewest 8 eI 151 [(0, .ref (E.2.1 48)), (4, .int v4), (5, .int v5), (6, .int v6), (7, .int v7)] [] σ (B_Mo_fewest_151 k125 k151 v4 v5 v6 v7 σ) := by
  unfold B_Mo_fewest_151
  refine v_iload 4 g d_Mo_fewest_151 rfl ?_
  refine v_if_le 228 g d_Mo_fewest_153 (by decide) (fun _ => ?_) (fun _ => ?_)
  · refine v_iinc 2 [(5, .int (v5 + (1 : Int32))), (0, .ref (E.2.1 48)), (4, .int v4), (6, .int v6), (7, .int v7)] g d_Mo_fewest_228 rfl (v := (1 : Int32)) (by decide +kernel) (by decide) rfl ?_
    refine v_goto 125 g d_Mo_fewest_231 (by decide) ?_
    exact v_sub [1,2,0] rfl (hk125 v4 (v5 + (1 : Int32)) σ)
  · refine v_iload 4 g d_Mo_fewest_156 rfl ?_
    refine v_iload 3 g d_Mo_fewest_158 rfl ?_
    refine v_iand g d_Mo_fewest_160 ?_
    refine v_if_eq 216 g d_Mo_fewest_161 (by decide) (fun _ => ?_) (fun _ => ?_)
    · refine v_iload 4 g d_Mo_fewest_216 rfl ?_
      refine v_iconst (v := (1 : Int32)) g d_Mo_fewest_218 (by decide +kernel) ?_
      refine v_isub g d_Mo_fewest_219 ?_
      refine v_iload 2 g d_Mo_fewest_220 rfl ?_
      refine v_iand g d_Mo_fewest_222 ?_
      refine v_nlet (fun x7 ex7 => ?_)
      rw [← ex7]
      refine v_istore [(7, .int x7), (0, .ref (E.2.1 48)), (4, .int v4), (5, .int v5), (6, .int v6)] g d_Mo_fewest_223 (by decide) rfl ?_
      refine v_goto 151 g d_Mo_fewest_225 (by decide) ?_
      exact v_sub [1,2,3,4,0] rfl (hk151 v4 v5 v6 x7 σ)
    · refine v_aload_n 0 g d_Mo_fewest_164 rfl ?_
      refine v_getR 58 g ff_Mo_38 rfl rfl rfl d_Mo_fewest_165 ?_
      refine v_iload 4 g d_Mo_fewest_168 rfl ?_
      refine v_iald g rfl rfl d_Mo_fewest_170 (fun _ => ?_)
      refine v_iconst (v := (1 : Int32)) g d_Mo_fewest_171 (by decide +kernel) ?_
      refine v_icmp_ne 216 g d_Mo_fewest_172 (by decide) (fun _ => ?_) (fun _ => ?_)
      · refine v_iload 4 g d_Mo_fewest_216 rfl ?_
        refine v_iconst (v := (1 : Int32)) g d_Mo_fewest_218 (by decide +kernel) ?_
        refine v_isub g d_Mo_fewest_219 ?_
        refine v_iload 2 g d_Mo_fewest_220 rfl ?_
        refine v_iand g d_Mo_fewest_222 ?_
        refine v_nlet (fun x8 ex8 => ?_)
        rw [← ex8]
        refine v_istore [(7, .int x8), (0, .ref (E.2.1 48)), (4, .int v4), (5, .int v5), (6, .int v6)] g d_Mo_fewest_223 (by decide) rfl ?_
        refine v_goto 151 g d_Mo_fewest_225 (by decide) ?_
        exact v_sub [1,2,3,4,0] rfl (hk151 v4 v5 v6 x8 σ)
      · refine v_aload_n 0 g d_Mo_fewest_175 rfl ?_
        refine v_getR 58 g ff_Mo_38 rfl rfl rfl d_Mo_fewest_176 ?_
        refine v_iload 2 g d_Mo_fewest_179 rfl ?_
        refine v_iload 4 g d_Mo_fewest_181 rfl ?_
        refine v_ixor g d_Mo_fewest_183 ?_
        refine v_iald g rfl rfl d_Mo_fewest_184 (fun _ => ?_)
        refine v_iconst (v := (1 : Int32)) g d_Mo_fewest_185 (by decide +kernel) ?_
        refine v_iadd g d_Mo_fewest_186 ?_
        refine v_aload_n 0 g d_Mo_fewest_187 rfl ?_
        refine v_getR 58 g ff_Mo_38 rfl rfl rfl d_Mo_fewest_188 ?_
        refine v_iload 2 g d_Mo_fewest_191 rfl ?_
        refine v_iald g rfl rfl d_Mo_fewest_193 (fun _ => ?_)
        refine v_icmp_ge 216 g d_Mo_fewest_194 (by decide) (fun _ => ?_) (fun _ => ?_)
        · refine v_iload 4 g d_Mo_fewest_216 rfl ?_
          refine v_iconst (v := (1 : Int32)) g d_Mo_fewest_218 (by decide +kernel) ?_
          refine v_isub g d_Mo_fewest_219 ?_
          refine v_iload 2 g d_Mo_fewest_220 rfl ?_
          refine v_iand g d_Mo_fewest_222 ?_
          refine v_nlet (fun x9 ex9 => ?_)
          rw [← ex9]
          refine v_istore [(7, .int x9), (0, .ref (E.2.1 48)), (4, .int v4), (5, .int v5), (6, .int v6)] g d_Mo_fewest_223 (by decide) rfl ?_
          refine v_goto 151 g d_Mo_fewest_225 (by decide) ?_
          exact v_sub [1,2,3,4,0] rfl (hk151 v4 v5 v6 x9 σ)
        · refine v_aload_n 0 g d_Mo_fewest_197 rfl ?_
          refine v_getR 58 g ff_Mo_38 rfl rfl rfl d_Mo_fewest_198 ?_
          refine v_iload 2 g d_Mo_fewest_201 rfl ?_
          refine v_aload_n 0 g d_Mo_fewest_203 rfl ?_
          refine v_getR 58 g ff_Mo_38 rfl rfl rfl d_Mo_fewest_204 ?_
          refine v_iload 2 g d_Mo_fewest_207 rfl ?_
          refine v_iload 4 g d_Mo_fewest_209 rfl ?_
          refine v_ixor g d_Mo_fewest_211 ?_
          refine v_iald g rfl rfl d_Mo_fewest_212 (fun _ => ?_)
          refine v_iconst (v := (1 : Int32)) g d_Mo_fewest_213 (by decide +kernel) ?_
          refine v_iadd g d_Mo_fewest_214 ?_
          refine v_iast g rfl rfl d_Mo_fewest_215 (fun _ => ?_)
          refine v_nlet (fun σ10 eσ10 => ?_)
          rw [← eσ10]
          refine v_iload 4 g d_Mo_fewest_216 rfl ?_
          refine v_iconst (v := (1 : Int32)) g d_Mo_fewest_218 (by decide +kernel) ?_
          refine v_isub g d_Mo_fewest_219 ?_
          refine v_iload 2 g d_Mo_fewest_220 rfl ?_
          refine v_iand g d_Mo_fewest_222 ?_
          refine v_nlet (fun x11 ex11 => ?_)
          rw [← ex11]
          refine v_istore [(7, .int x11), (0, .ref (E.2.1 48)), (4, .int v4), (5, .int v5), (6, .int v6)] g d_Mo_fewest_223 (by decide) rfl ?_
          refine v_goto 151 g d_Mo_fewest_225 (by decide) ?_
          exact v_sub [1,2,3,4,0] rfl (hk151 v4 v5 v6 x11 σ10)
def L_Mo_fewest_151 (k125 : Int32 → Int32 → Sto → Option (Int32 × Sto)) : Nat → Int32 → Int32 → Int32 → Int32 → Sto → Option (Int32 × Sto)
  | 0, _, _, _, _, _ => none
  | fu + 1, v4, v5, v6, v7, σ => B_Mo_fewest_151 k125 (L_Mo_fewest_151 k125 fu) v4 v5 v6 v7 σ
theorem vL_Mo_fewest_151 {X : Xt} {E : En} (g : GG X E 4 b_Mo_fewest R_Mo 8) {k125 : Int32 → Int32 → Sto → Option (Int32 × Sto)} (hk125 : ∀ (v4 : Int32) (v5 : Int32) (σ : Sto), VV X E b_Mo_fewest 8 eI 125 [(0, .ref (E.2.1 48)), (4, .int v4), (5, .int v5)] [] σ (k125 v4 v5 σ)) (fu : Nat) : ∀ (v4 : Int32) (v5 : Int32) (v6 : Int32) (v7 : Int32) (σ : Sto), VV X E b_Mo_fewest 8 eI 151 [(0, .ref (E.2.1 48)), (4, .int v4), (5, .int v5), (6, .int v6), (7, .int v7)] [] σ (L_Mo_fewest_151 k125 fu v4 v5 v6 v7 σ) := by
  induction fu with
  | zero => intros; exact v_none
  | succ fu ih =>
    intro v4 v5 v6 v7 σ
    exact vB_Mo_fewest_151 g hk125 ih v4 v5 v6 v7 σ
def B_Mo_fewest_125 (k125 : Int32 → Int32 → Sto → Option (Int32 × Sto)) (v4 : Int32) (v5 : Int32) (σ : Sto) : Option (Int32 × Sto) :=
  (if (ish (1 : Int32) v4) ≤ v5 then (if inb ((ish (1 : Int32) v4) - (1 : Int32)) 1024 = true then some ((gI σ 58 (Int32.toNatClampNeg ((ish (1 : Int32) v4) - (1 : Int32)))), σ) else none)
 else (lt1 ((v5 - (1 : Int32)) &&& v5) fun x6 => L_Mo_fewest_151 k125 LF v4 v5 (v5 &&& (-v5)) x6 σ))
set_option maxHeartbeats 4000000 in
set_option maxRecDepth 100000 in
theorem vB_Mo_fewest_125 {X : Xt} {E : En} (g : GG X E 4 b_Mo_fewest R_Mo 8) {k125 : Int32 → Int32 → Sto → Option (Int32 × Sto)} (hk125 : ∀ (v4 : Int32) (v5 : Int32) (σ : Sto), VV X E b_Mo_fewest 8 eI 125 [(0, .ref (E.2.1 48)), (4, .int v4), (5, .int v5)] [] σ (k125 v4 v5 σ)) (v4 : Int32) (v5 : Int32) (σ : Sto) : VV X E b_Mo_fewest 8 eI 125 [(0, .ref (E.2.1 48)), (4, .int v4), (5, .int v5)] [] σ (B_Mo_fewest_125 k125 v4 v5 σ) := by
  unfold B_Mo_fewest_125
  refine v_iload 2 g d_Mo_fewest_125 rfl ?_
  refine v_iconst (v := (1 : Int32)) g d_Mo_fewest_127 (by decide +kernel) ?_
  refine v_iload 1 g d_Mo_fewest_128 rfl ?_
  refine v_ishl g d_Mo_fewest_130 ?_
  refine v_icmp_ge 234 g d_Mo_fewest_131 (by decide) (fun _ => ?_) (fun _ => ?_)
  · refine v_aload_n 0 g d_Mo_fewest_234 rfl ?_
    refine v_getR 58 g ff_Mo_38 rfl rfl rfl d_Mo_fewest_235 ?_
    refine v_iconst (v := (1 : Int32)) g d_Mo_fewest_238 (by decide +kernel) ?_
    refine v_iload 1 g d_Mo_fewest_239 rfl ?_
    refine v_ishl g d_Mo_fewest_241 ?_
    refine v_iconst (v := (1 : Int32)) g d_Mo_fewest_242 (by decide +kernel) ?_
    refine v_isub g d_Mo_fewest_243 ?_
    refine v_iald g rfl rfl d_Mo_fewest_244 (fun _ => ?_)
    exact v_ret d_Mo_fewest_245 rfl
  · refine v_iload 2 g d_Mo_fewest_134 rfl ?_
    refine v_iload 2 g d_Mo_fewest_136 rfl ?_
    refine v_ineg g d_Mo_fewest_138 ?_
    refine v_iand g d_Mo_fewest_139 ?_
    refine v_istore [(6, .int (v5 &&& (-v5))), (0, .ref (E.2.1 48)), (4, .int v4), (5, .int v5)] g d_Mo_fewest_140 (by decide) rfl ?_
    refine v_iload 3 g d_Mo_fewest_142 rfl ?_
    refine v_iconst (v := (1 : Int32)) g d_Mo_fewest_144 (by decide +kernel) ?_
    refine v_isub g d_Mo_fewest_145 ?_
    refine v_iload 3 g d_Mo_fewest_146 rfl ?_
    refine v_iand g d_Mo_fewest_148 ?_
    refine v_nlet (fun x6 ex6 => ?_)
    rw [← ex6]
    refine v_istore [(7, .int x6), (6, .int (v5 &&& (-v5))), (0, .ref (E.2.1 48)), (4, .int v4), (5, .int v5)] g d_Mo_fewest_149 (by decide) rfl ?_
    exact v_sub [2,3,4,1,0] rfl (vL_Mo_fewest_151 g hk125 LF v4 v5 (v5 &&& (-v5)) x6 σ)
def L_Mo_fewest_125 : Nat → Int32 → Int32 → Sto → Option (Int32 × Sto)
  | 0, _, _, _ => none
  | fu + 1, v4, v5, σ => B_Mo_fewest_125 (L_Mo_fewest_125 fu) v4 v5 σ
theorem vL_Mo_fewest_125 {X : Xt} {E : En} (g : GG X E 4 b_Mo_fewest R_Mo 8) (fu : Nat) : ∀ (v4 : Int32) (v5 : Int32) (σ : Sto), VV X E b_Mo_fewest 8 eI 125 [(0, .ref (E.2.1 48)), (4, .int v4), (5, .int v5)] [] σ (L_Mo_fewest_125 fu v4 v5 σ) := by
  induction fu with
  | zero => intros; exact v_none
  | succ fu ih =>
    intro v4 v5 σ
    exact vB_Mo_fewest_125 g ih v4 v5 σ
def B_Mo_fewest_82 (k82 : Int32 → Int32 → Int32 → Sto → Option (Int32 × Sto)) (v1 : Int32) (v4 : Int32) (v5 : Int32) (σ : Sto) : Option (Int32 × Sto) :=
  (if (ish (1 : Int32) v4) ≤ v5 then L_Mo_fewest_125 LF v4 (1 : Int32) σ
 else ((f_Mo_isLoose v1 v5 v4 σ).bind fun q5 => (if (b2i q5.1) = 0 then (if inb v5 1024 = true then k82 v1 v4 (v5 + (1 : Int32)) (sI q5.2 58 (Int32.toNatClampNeg v5) (99 : Int32)) else none)
  else (if inb v5 1024 = true then k82 v1 v4 (v5 + (1 : Int32)) (sI q5.2 58 (Int32.toNatClampNeg v5) (1 : Int32)) else none))))
set_option maxHeartbeats 4000000 in
set_option maxRecDepth 100000 in
theorem vB_Mo_fewest_82 {X : Xt} {E : En} (g : GG X E 4 b_Mo_fewest R_Mo 8) {k82 : Int32 → Int32 → Int32 → Sto → Option (Int32 × Sto)} (hk82 : ∀ (v1 : Int32) (v4 : Int32) (v5 : Int32) (σ : Sto), VV X E b_Mo_fewest 8 eI 82 [(0, .ref (E.2.1 48)), (1, .int v1), (4, .int v4), (5, .int v5)] [] σ (k82 v1 v4 v5 σ)) (v1 : Int32) (v4 : Int32) (v5 : Int32) (σ : Sto) : VV X E b_Mo_fewest 8 eI 82 [(0, .ref (E.2.1 48)), (1, .int v1), (4, .int v4), (5, .int v5)] [] σ (B_Mo_fewest_82 k82 v1 v4 v5 σ) := by
  unfold B_Mo_fewest_82
  refine v_iload 3 g d_Mo_fewest_82 rfl ?_
  refine v_iconst (v := (1 : Int32)) g d_Mo_fewest_84 (by decide +kernel) ?_
  refine v_iload 2 g d_Mo_fewest_85 rfl ?_
  refine v_ishl g d_Mo_fewest_87 ?_
  refine v_icmp_ge 122 g d_Mo_fewest_88 (by decide) (fun _ => ?_) (fun _ => ?_)
  · refine v_iconst (v := (1 : Int32)) g d_Mo_fewest_122 (by decide +kernel) ?_
    refine v_istore [(5, .int (1 : Int32)), (0, .ref (E.2.1 48)), (1, .int v1), (4, .int v4)] g d_Mo_fewest_123 (by decide) rfl ?_
    exact v_sub [1,3,0] rfl (vL_Mo_fewest_125 g LF v4 (1 : Int32) σ)
  · refine v_aload_n 0 g d_Mo_fewest_91 rfl ?_
    refine v_getR 58 g ff_Mo_38 rfl rfl rfl d_Mo_fewest_92 ?_
    refine v_iload 3 g d_Mo_fewest_95 rfl ?_
    refine v_aload_n 0 g d_Mo_fewest_97 rfl ?_
    refine v_iload_n 1 g d_Mo_fewest_98 rfl ?_
    refine v_iload 3 g d_Mo_fewest_99 rfl ?_
    refine v_iload 2 g d_Mo_fewest_101 rfl ?_
    refine v_callB (r_V (rest := [.int v5, .ref (E.2.1 58)]) [.int v1, .int v5, .int v4] g (m1 1368 (by decide +kernel) (by decide +kernel)) yv_Mo_isLoose rfl (fun r σ1 h => sp_Mo_isLoose g.2.2.1  h) rfl rfl (by decide) (Nat.le_of_ble_eq_true rfl) d_Mo_fewest_103) (fun q5 => ?_)
    refine v_if_eq 113 g d_Mo_fewest_106 (by decide) (fun _ => ?_) (fun _ => ?_)
    · refine v_bipush (v := (99 : Int32)) g d_Mo_fewest_113 (by decide +kernel) ?_
      refine v_iast g rfl rfl d_Mo_fewest_115 (fun _ => ?_)
      refine v_iinc 3 [(5, .int (v5 + (1 : Int32))), (0, .ref (E.2.1 48)), (1, .int v1), (4, .int v4)] g d_Mo_fewest_116 rfl (v := (1 : Int32)) (by decide +kernel) (by decide) rfl ?_
      refine v_goto 82 g d_Mo_fewest_119 (by decide) ?_
      exact v_sub [1,2,3,0] rfl (hk82 v1 v4 (v5 + (1 : Int32)) (sI q5.2 58 (Int32.toNatClampNeg v5) (99 : Int32)))
    · refine v_iconst (v := (1 : Int32)) g d_Mo_fewest_109 (by decide +kernel) ?_
      refine v_goto 115 g d_Mo_fewest_110 (by decide) ?_
      refine v_iast g rfl rfl d_Mo_fewest_115 (fun _ => ?_)
      refine v_iinc 3 [(5, .int (v5 + (1 : Int32))), (0, .ref (E.2.1 48)), (1, .int v1), (4, .int v4)] g d_Mo_fewest_116 rfl (v := (1 : Int32)) (by decide +kernel) (by decide) rfl ?_
      refine v_goto 82 g d_Mo_fewest_119 (by decide) ?_
      exact v_sub [1,2,3,0] rfl (hk82 v1 v4 (v5 + (1 : Int32)) (sI q5.2 58 (Int32.toNatClampNeg v5) (1 : Int32)))
def L_Mo_fewest_82 : Nat → Int32 → Int32 → Int32 → Sto → Option (Int32 × Sto)
  | 0, _, _, _, _ => none
  | fu + 1, v1, v4, v5, σ => B_Mo_fewest_82 (L_Mo_fewest_82 fu) v1 v4 v5 σ
theorem vL_Mo_fewest_82 {X : Xt} {E : En} (g : GG X E 4 b_Mo_fewest R_Mo 8) (fu : Nat) : ∀ (v1 : Int32) (v4 : Int32) (v5 : Int32) (σ : Sto), VV X E b_Mo_fewest 8 eI 82 [(0, .ref (E.2.1 48)), (1, .int v1), (4, .int v4), (5, .int v5)] [] σ (L_Mo_fewest_82 fu v1 v4 v5 σ) := by
  induction fu with
  | zero => intros; exact v_none
  | succ fu ih =>
    intro v1 v4 v5 σ
    exact vB_Mo_fewest_82 g ih v1 v4 v5 σ
def B_Mo_fewest_36 (k36 : Int32 → Int64 → Int32 → Int32 → Sto → Option (Int32 × Sto)) (v1 : Int32) (v2 : Int64) (v4 : Int32) (v5 : Int32) (σ : Sto) : Option (Int32 × Sto) :=
  (if (gI σ 48 0) ≤ v5 then (if inb (0 : Int32) 1024 = true then L_Mo_fewest_82 LF v1 v4 (1 : Int32) (sI σ 58 (Int32.toNatClampNeg (0 : Int32)) (0 : Int32)) else none)
 else ((f_Mo_has v2 v5 σ).bind fun q4 => (if (b2i q4.1) = 0 then k36 v1 v2 v4 (v5 + (1 : Int32)) q4.2
  else (if inb v4 10 = true then k36 v1 v2 (v4 + (1 : Int32)) (v5 + (1 : Int32)) (sI q4.2 59 (Int32.toNatClampNeg v4) v5) else none))))
set_option maxHeartbeats 4000000 in
set_option maxRecDepth 100000 in
theorem vB_Mo_fewest_36 {X : Xt} {E : En} (g : GG X E 4 b_Mo_fewest R_Mo 8) {k36 : Int32 → Int64 → Int32 → Int32 → Sto → Option (Int32 × Sto)} (hk36 : ∀ (v1 : Int32) (v2 : Int64) (v4 : Int32) (v5 : Int32) (σ : Sto), VV X E b_Mo_fewest 8 eI 36 [(0, .ref (E.2.1 48)), (1, .int v1), (2, .long v2), (4, .int v4), (5, .int v5)] [] σ (k36 v1 v2 v4 v5 σ)) (v1 : Int32) (v2 : Int64) (v4 : Int32) (v5 : Int32) (σ : Sto) : VV X E b_Mo_fewest 8 eI 36 [(0, .ref (E.2.1 48)), (1, .int v1), (2, .long v2), (4, .int v4), (5, .int v5)] [] σ (B_Mo_fewest_36 k36 v1 v2 v4 v5 σ) := by
  unfold B_Mo_fewest_36
  refine v_iload 4 g d_Mo_fewest_36 rfl ?_
  refine v_aload_n 0 g d_Mo_fewest_38 rfl ?_
  refine v_getI g ff_Mo_80 rfl rfl d_Mo_fewest_39 ?_
  refine v_icmp_ge 72 g d_Mo_fewest_42 (by decide) (fun _ => ?_) (fun _ => ?_)
  · refine v_aload_n 0 g d_Mo_fewest_72 rfl ?_
    refine v_getR 58 g ff_Mo_38 rfl rfl rfl d_Mo_fewest_73 ?_
    refine v_iconst (v := (0 : Int32)) g d_Mo_fewest_76 (by decide +kernel) ?_
    refine v_iconst (v := (0 : Int32)) g d_Mo_fewest_77 (by decide +kernel) ?_
    refine v_iast g rfl rfl d_Mo_fewest_78 (fun _ => ?_)
    refine v_iconst (v := (1 : Int32)) g d_Mo_fewest_79 (by decide +kernel) ?_
    refine v_istore [(5, .int (1 : Int32)), (0, .ref (E.2.1 48)), (1, .int v1), (2, .long v2), (4, .int v4)] g d_Mo_fewest_80 (by decide) rfl ?_
    exact v_sub [1,2,4,0] rfl (vL_Mo_fewest_82 g LF v1 v4 (1 : Int32) (sI σ 58 (Int32.toNatClampNeg (0 : Int32)) (0 : Int32)))
  · refine v_lload_n 2 g d_Mo_fewest_45 rfl ?_
    refine v_iload 4 g d_Mo_fewest_46 rfl ?_
    refine v_callB (r_S (rest := []) [.long v2, .int v5] g (m1 1206 (by decide +kernel) (by decide +kernel)) ys_Mo_has (fun r σ1 h => sp_Mo_has g.2.2.1  h) rfl rfl (by decide) (Nat.le_of_ble_eq_true rfl) d_Mo_fewest_48) (fun q4 => ?_)
    refine v_if_eq 66 g d_Mo_fewest_51 (by decide) (fun _ => ?_) (fun _ => ?_)
    · refine v_iinc 4 [(5, .int (v5 + (1 : Int32))), (0, .ref (E.2.1 48)), (1, .int v1), (2, .long v2), (4, .int v4)] g d_Mo_fewest_66 rfl (v := (1 : Int32)) (by decide +kernel) (by decide) rfl ?_
      refine v_goto 36 g d_Mo_fewest_69 (by decide) ?_
      exact v_sub [1,2,3,4,0] rfl (hk36 v1 v2 v4 (v5 + (1 : Int32)) q4.2)
    · refine v_aload_n 0 g d_Mo_fewest_54 rfl ?_
      refine v_getR 59 g ff_Mo_41 rfl rfl rfl d_Mo_fewest_55 ?_
      refine v_iload 3 g d_Mo_fewest_58 rfl ?_
      refine v_iload 4 g d_Mo_fewest_60 rfl ?_
      refine v_iast g rfl rfl d_Mo_fewest_62 (fun _ => ?_)
      refine v_iinc 3 [(4, .int (v4 + (1 : Int32))), (0, .ref (E.2.1 48)), (1, .int v1), (2, .long v2), (5, .int v5)] g d_Mo_fewest_63 rfl (v := (1 : Int32)) (by decide +kernel) (by decide) rfl ?_
      refine v_iinc 4 [(5, .int (v5 + (1 : Int32))), (4, .int (v4 + (1 : Int32))), (0, .ref (E.2.1 48)), (1, .int v1), (2, .long v2)] g d_Mo_fewest_66 rfl (v := (1 : Int32)) (by decide +kernel) (by decide) rfl ?_
      refine v_goto 36 g d_Mo_fewest_69 (by decide) ?_
      exact v_sub [2,3,4,1,0] rfl (hk36 v1 v2 (v4 + (1 : Int32)) (v5 + (1 : Int32)) (sI q4.2 59 (Int32.toNatClampNeg v4) v5))
def L_Mo_fewest_36 : Nat → Int32 → Int64 → Int32 → Int32 → Sto → Option (Int32 × Sto)
  | 0, _, _, _, _, _ => none
  | fu + 1, v1, v2, v4, v5, σ => B_Mo_fewest_36 (L_Mo_fewest_36 fu) v1 v2 v4 v5 σ
theorem vL_Mo_fewest_36 {X : Xt} {E : En} (g : GG X E 4 b_Mo_fewest R_Mo 8) (fu : Nat) : ∀ (v1 : Int32) (v2 : Int64) (v4 : Int32) (v5 : Int32) (σ : Sto), VV X E b_Mo_fewest 8 eI 36 [(0, .ref (E.2.1 48)), (1, .int v1), (2, .long v2), (4, .int v4), (5, .int v5)] [] σ (L_Mo_fewest_36 fu v1 v2 v4 v5 σ) := by
  induction fu with
  | zero => intros; exact v_none
  | succ fu ih =>
    intro v1 v2 v4 v5 σ
    exact vB_Mo_fewest_36 g ih v1 v2 v4 v5 σ
def B_Mo_fewest_0 (a1 : Int32) (a2 : Int64) (σ : Sto) : Option (Int32 × Sto) :=
  ((f_Mo_isOne a1 σ).bind fun q1 => (if (b2i q1.1) = 0 then some ((-2 : Int32), q1.2)
 else ((f_Mo_isSet a2 q1.2).bind fun q2 => (if (b2i q2.1) = 0 then some ((-2 : Int32), q2.2)
  else ((f_Mo_many a2 q2.2).bind fun q3 => (if q3.1 ≤ (10 : Int32) then L_Mo_fewest_36 LF a1 a2 (0 : Int32) (0 : Int32) q3.2
   else some ((-5 : Int32), q3.2)))))))
set_option maxHeartbeats 4000000 in
set_option maxRecDepth 100000 in
theorem vB_Mo_fewest_0 {X : Xt} {E : En} (g : GG X E 4 b_Mo_fewest R_Mo 8) (a1 : Int32) (a2 : Int64) (σ : Sto) : VV X E b_Mo_fewest 8 eI 0 [(0, .ref (E.2.1 48)), (1, .int a1), (2, .long a2)] [] σ (B_Mo_fewest_0 a1 a2 σ) := by
  unfold B_Mo_fewest_0
  refine v_iload_n 1 g d_Mo_fewest_0 rfl ?_
  refine v_callB (r_S (rest := []) [.int a1] g (m1 1203 (by decide +kernel) (by decide +kernel)) ys_Mo_isOne (fun r σ1 h => sp_Mo_isOne g.2.2.1  h) rfl rfl (by decide) (Nat.le_of_ble_eq_true rfl) d_Mo_fewest_1) (fun q1 => ?_)
  refine v_if_eq 15 g d_Mo_fewest_4 (by decide) (fun _ => ?_) (fun _ => ?_)
  · refine v_bipush (v := (-2 : Int32)) g d_Mo_fewest_15 (by decide +kernel) ?_
    exact v_ret d_Mo_fewest_17 rfl
  · refine v_aload_n 0 g d_Mo_fewest_7 rfl ?_
    refine v_lload_n 2 g d_Mo_fewest_8 rfl ?_
    refine v_callB (r_V (rest := []) [.long a2] g (m1 1221 (by decide +kernel) (by decide +kernel)) yv_Mo_isSet rfl (fun r σ1 h => sp_Mo_isSet g.2.2.1  h) rfl rfl (by decide) (Nat.le_of_ble_eq_true rfl) d_Mo_fewest_9) (fun q2 => ?_)
    refine v_if_ne 18 g d_Mo_fewest_12 (by decide) (fun _ => ?_) (fun _ => ?_)
    · refine v_lload_n 2 g d_Mo_fewest_18 rfl ?_
      refine v_callI (r_S (rest := []) [.long a2] g (m1 1188 (by decide +kernel) (by decide +kernel)) ys_Mo_many (fun r σ1 h => sp_Mo_many g.2.2.1  h) rfl rfl (by decide) (Nat.le_of_ble_eq_true rfl) d_Mo_fewest_19) (fun q3 => ?_)
      refine v_bipush (v := (10 : Int32)) g d_Mo_fewest_22 (by decide +kernel) ?_
      refine v_icmp_le 30 g d_Mo_fewest_24 (by decide) (fun _ => ?_) (fun _ => ?_)
      · refine v_iconst (v := (0 : Int32)) g d_Mo_fewest_30 (by decide +kernel) ?_
        refine v_istore [(4, .int (0 : Int32)), (0, .ref (E.2.1 48)), (1, .int a1), (2, .long a2)] g d_Mo_fewest_31 (by decide) rfl ?_
        refine v_iconst (v := (0 : Int32)) g d_Mo_fewest_33 (by decide +kernel) ?_
        refine v_istore [(5, .int (0 : Int32)), (4, .int (0 : Int32)), (0, .ref (E.2.1 48)), (1, .int a1), (2, .long a2)] g d_Mo_fewest_34 (by decide) rfl ?_
        exact v_sub [2,3,4,1,0] rfl (vL_Mo_fewest_36 g LF a1 a2 (0 : Int32) (0 : Int32) q3.2)
      · refine v_bipush (v := (-5 : Int32)) g d_Mo_fewest_27 (by decide +kernel) ?_
        exact v_ret d_Mo_fewest_29 rfl
    · refine v_bipush (v := (-2 : Int32)) g d_Mo_fewest_15 (by decide +kernel) ?_
      exact v_ret d_Mo_fewest_17 rfl
def f_Mo_fewest (a1 : Int32) (a2 : Int64) (σ : Sto) : Option (Int32 × Sto) := B_Mo_fewest_0 a1 a2 σ
theorem sp_Mo_fewest {l : Launch} {E : En} (hE : Dj E) {a1 : Int32} {a2 : Int64} {σ : Sto} {r : Int32} {σ' : Sto} (h : f_Mo_fewest a1 a2 σ = some (r, σ')) : Ct l E y_Mo_fewest (wsM y_Mo_fewest b_Mo_fewest 8 (some .int)) 4 [.ref (E.2.1 48), .int a1, .long a2] σ (eI r) σ' :=
  ct_of hE (by decide +kernel) (Nat.le_of_ble_eq_true rfl) (fun x => Or.inl ⟨rfl, x, rfl⟩) (fun X _ g => vB_Mo_fewest_0 g a1 a2 σ) r σ' h
/-! method FittingRingsModel.bettered(IJJ)J -/
theorem yv_Mo_bettered : YV y_Mo_bettered b_Mo_bettered 13 (some .long) 3 10 := ⟨m1 1379 (by decide +kernel) (by decide +kernel), m1 49 (by decide +kernel) (by decide +kernel), ini_Mo, m1 1380 (by decide +kernel) (by decide +kernel), ⟨by decide +kernel, by decide +kernel, by decide +kernel⟩, by decide, by decide, T_Mo, 39, rfl⟩
theorem d_Mo_bettered_0 : decode b_Mo_bettered 0 = .ok (.lload 4, 2) := by decide +kernel
theorem d_Mo_bettered_2 : decode b_Mo_bettered 2 = .ok (.lload_n 2, 1) := by decide +kernel
theorem d_Mo_bettered_3 : decode b_Mo_bettered 3 = .ok (.ldc2_w 114, 3) := by decide +kernel
theorem d_Mo_bettered_6 : decode b_Mo_bettered 6 = .ok (.lxor, 1) := by decide +kernel
theorem d_Mo_bettered_7 : decode b_Mo_bettered 7 = .ok (.land, 1) := by decide +kernel
theorem d_Mo_bettered_8 : decode b_Mo_bettered 8 = .ok (.lstore 6, 2) := by decide +kernel
theorem d_Mo_bettered_10 : decode b_Mo_bettered 10 = .ok (.iconst 0, 1) := by decide +kernel
theorem d_Mo_bettered_11 : decode b_Mo_bettered 11 = .ok (.istore 8, 2) := by decide +kernel
theorem d_Mo_bettered_13 : decode b_Mo_bettered 13 = .ok (.iload 8, 2) := by decide +kernel
theorem d_Mo_bettered_15 : decode b_Mo_bettered 15 = .ok (.aload_n 0, 1) := by decide +kernel
theorem d_Mo_bettered_16 : decode b_Mo_bettered 16 = .ok (.getfield 80, 3) := by decide +kernel
theorem d_Mo_bettered_19 : decode b_Mo_bettered 19 = .ok (.if_icmp .ge 38, 3) := by decide +kernel
theorem d_Mo_bettered_22 : decode b_Mo_bettered 22 = .ok (.lload 6, 2) := by decide +kernel
theorem d_Mo_bettered_24 : decode b_Mo_bettered 24 = .ok (.iload 8, 2) := by decide +kernel
theorem d_Mo_bettered_26 : decode b_Mo_bettered 26 = .ok (.invokestatic 119, 3) := by decide +kernel
theorem d_Mo_bettered_29 : decode b_Mo_bettered 29 = .ok (.ifCond .eq 22, 3) := by decide +kernel
theorem d_Mo_bettered_32 : decode b_Mo_bettered 32 = .ok (.aload_n 0, 1) := by decide +kernel
theorem d_Mo_bettered_33 : decode b_Mo_bettered 33 = .ok (.iload_n 1, 1) := by decide +kernel
theorem d_Mo_bettered_34 : decode b_Mo_bettered 34 = .ok (.iload 8, 2) := by decide +kernel
theorem d_Mo_bettered_36 : decode b_Mo_bettered 36 = .ok (.lload_n 2, 1) := by decide +kernel
theorem d_Mo_bettered_37 : decode b_Mo_bettered 37 = .ok (.invokevirtual 148, 3) := by decide +kernel
theorem d_Mo_bettered_40 : decode b_Mo_bettered 40 = .ok (.ifCond .eq 11, 3) := by decide +kernel
theorem d_Mo_bettered_43 : decode b_Mo_bettered 43 = .ok (.lload_n 2, 1) := by decide +kernel
theorem d_Mo_bettered_44 : decode b_Mo_bettered 44 = .ok (.iload 8, 2) := by decide +kernel
theorem d_Mo_bettered_46 : decode b_Mo_bettered 46 = .ok (.invokestatic 110, 3) := by decide +kernel
theorem d_Mo_bettered_49 : decode b_Mo_bettered 49 = .ok (.lor, 1) := by decide +kernel
theorem d_Mo_bettered_50 : decode b_Mo_bettered 50 = .ok (.lreturn, 1) := by decide +kernel
theorem d_Mo_bettered_51 : decode b_Mo_bettered 51 = .ok (.iinc 8 1, 3) := by decide +kernel
theorem d_Mo_bettered_54 : decode b_Mo_bettered 54 = .ok (.goto (-41), 3) := by decide +kernel
theorem d_Mo_bettered_57 : decode b_Mo_bettered 57 = .ok (.iconst 0, 1) := by decide +kernel
theorem d_Mo_bettered_58 : decode b_Mo_bettered 58 = .ok (.istore 8, 2) := by decide +kernel
theorem d_Mo_bettered_60 : decode b_Mo_bettered 60 = .ok (.iload 8, 2) := by decide +kernel
theorem d_Mo_bettered_62 : decode b_Mo_bettered 62 = .ok (.aload_n 0, 1) := by decide +kernel
theorem d_Mo_bettered_63 : decode b_Mo_bettered 63 = .ok (.getfield 80, 3) := by decide +kernel
theorem d_Mo_bettered_66 : decode b_Mo_bettered 66 = .ok (.if_icmp .ge 135, 3) := by decide +kernel
theorem d_Mo_bettered_69 : decode b_Mo_bettered 69 = .ok (.lload_n 2, 1) := by decide +kernel
theorem d_Mo_bettered_70 : decode b_Mo_bettered 70 = .ok (.iload 8, 2) := by decide +kernel
theorem d_Mo_bettered_72 : decode b_Mo_bettered 72 = .ok (.invokestatic 110, 3) := by decide +kernel
theorem d_Mo_bettered_75 : decode b_Mo_bettered 75 = .ok (.ldc2_w 114, 3) := by decide +kernel
theorem d_Mo_bettered_78 : decode b_Mo_bettered 78 = .ok (.lxor, 1) := by decide +kernel
theorem d_Mo_bettered_79 : decode b_Mo_bettered 79 = .ok (.land, 1) := by decide +kernel
theorem d_Mo_bettered_80 : decode b_Mo_bettered 80 = .ok (.lstore 9, 2) := by decide +kernel
theorem d_Mo_bettered_82 : decode b_Mo_bettered 82 = .ok (.iconst 0, 1) := by decide +kernel
theorem d_Mo_bettered_83 : decode b_Mo_bettered 83 = .ok (.istore 11, 2) := by decide +kernel
theorem d_Mo_bettered_85 : decode b_Mo_bettered 85 = .ok (.iload 11, 2) := by decide +kernel
theorem d_Mo_bettered_87 : decode b_Mo_bettered 87 = .ok (.aload_n 0, 1) := by decide +kernel
theorem d_Mo_bettered_88 : decode b_Mo_bettered 88 = .ok (.getfield 80, 3) := by decide +kernel
theorem d_Mo_bettered_91 : decode b_Mo_bettered 91 = .ok (.if_icmp .ge 104, 3) := by decide +kernel
theorem d_Mo_bettered_94 : decode b_Mo_bettered 94 = .ok (.lload_n 2, 1) := by decide +kernel
theorem d_Mo_bettered_95 : decode b_Mo_bettered 95 = .ok (.iload 8, 2) := by decide +kernel
theorem d_Mo_bettered_97 : decode b_Mo_bettered 97 = .ok (.invokestatic 119, 3) := by decide +kernel
theorem d_Mo_bettered_100 : decode b_Mo_bettered 100 = .ok (.ifCond .eq 95, 3) := by decide +kernel
theorem d_Mo_bettered_103 : decode b_Mo_bettered 103 = .ok (.iload 11, 2) := by decide +kernel
theorem d_Mo_bettered_105 : decode b_Mo_bettered 105 = .ok (.iconst 1, 1) := by decide +kernel
theorem d_Mo_bettered_106 : decode b_Mo_bettered 106 = .ok (.iadd, 1) := by decide +kernel
theorem d_Mo_bettered_107 : decode b_Mo_bettered 107 = .ok (.istore 12, 2) := by decide +kernel
theorem d_Mo_bettered_109 : decode b_Mo_bettered 109 = .ok (.iload 12, 2) := by decide +kernel
theorem d_Mo_bettered_111 : decode b_Mo_bettered 111 = .ok (.aload_n 0, 1) := by decide +kernel
theorem d_Mo_bettered_112 : decode b_Mo_bettered 112 = .ok (.getfield 80, 3) := by decide +kernel
theorem d_Mo_bettered_115 : decode b_Mo_bettered 115 = .ok (.if_icmp .ge 74, 3) := by decide +kernel
theorem d_Mo_bettered_118 : decode b_Mo_bettered 118 = .ok (.lload 6, 2) := by decide +kernel
theorem d_Mo_bettered_120 : decode b_Mo_bettered 120 = .ok (.iload 11, 2) := by decide +kernel
theorem d_Mo_bettered_122 : decode b_Mo_bettered 122 = .ok (.invokestatic 119, 3) := by decide +kernel
theorem d_Mo_bettered_125 : decode b_Mo_bettered 125 = .ok (.ifCond .eq 64, 3) := by decide +kernel
theorem d_Mo_bettered_128 : decode b_Mo_bettered 128 = .ok (.aload_n 0, 1) := by decide +kernel
theorem d_Mo_bettered_129 : decode b_Mo_bettered 129 = .ok (.iload_n 1, 1) := by decide +kernel
theorem d_Mo_bettered_130 : decode b_Mo_bettered 130 = .ok (.iload 11, 2) := by decide +kernel
theorem d_Mo_bettered_132 : decode b_Mo_bettered 132 = .ok (.lload 9, 2) := by decide +kernel
theorem d_Mo_bettered_134 : decode b_Mo_bettered 134 = .ok (.invokevirtual 148, 3) := by decide +kernel
theorem d_Mo_bettered_137 : decode b_Mo_bettered 137 = .ok (.ifCond .eq 52, 3) := by decide +kernel
theorem d_Mo_bettered_140 : decode b_Mo_bettered 140 = .ok (.lload 6, 2) := by decide +kernel
theorem d_Mo_bettered_142 : decode b_Mo_bettered 142 = .ok (.iload 12, 2) := by decide +kernel
theorem d_Mo_bettered_144 : decode b_Mo_bettered 144 = .ok (.invokestatic 119, 3) := by decide +kernel
theorem d_Mo_bettered_147 : decode b_Mo_bettered 147 = .ok (.ifCond .eq 36, 3) := by decide +kernel
theorem d_Mo_bettered_150 : decode b_Mo_bettered 150 = .ok (.aload_n 0, 1) := by decide +kernel
theorem d_Mo_bettered_151 : decode b_Mo_bettered 151 = .ok (.iload_n 1, 1) := by decide +kernel
theorem d_Mo_bettered_152 : decode b_Mo_bettered 152 = .ok (.iload 12, 2) := by decide +kernel
theorem d_Mo_bettered_154 : decode b_Mo_bettered 154 = .ok (.lload 9, 2) := by decide +kernel
theorem d_Mo_bettered_156 : decode b_Mo_bettered 156 = .ok (.iload 11, 2) := by decide +kernel
theorem d_Mo_bettered_158 : decode b_Mo_bettered 158 = .ok (.invokestatic 110, 3) := by decide +kernel
theorem d_Mo_bettered_161 : decode b_Mo_bettered 161 = .ok (.lor, 1) := by decide +kernel
theorem d_Mo_bettered_162 : decode b_Mo_bettered 162 = .ok (.invokevirtual 148, 3) := by decide +kernel
theorem d_Mo_bettered_165 : decode b_Mo_bettered 165 = .ok (.ifCond .eq 18, 3) := by decide +kernel
theorem d_Mo_bettered_168 : decode b_Mo_bettered 168 = .ok (.lload 9, 2) := by decide +kernel
theorem d_Mo_bettered_170 : decode b_Mo_bettered 170 = .ok (.iload 11, 2) := by decide +kernel
theorem d_Mo_bettered_172 : decode b_Mo_bettered 172 = .ok (.invokestatic 110, 3) := by decide +kernel
theorem d_Mo_bettered_175 : decode b_Mo_bettered 175 = .ok (.lor, 1) := by decide +kernel
theorem d_Mo_bettered_176 : decode b_Mo_bettered 176 = .ok (.iload 12, 2) := by decide +kernel
theorem d_Mo_bettered_178 : decode b_Mo_bettered 178 = .ok (.invokestatic 110, 3) := by decide +kernel
theorem d_Mo_bettered_181 : decode b_Mo_bettered 181 = .ok (.lor, 1) := by decide +kernel
theorem d_Mo_bettered_182 : decode b_Mo_bettered 182 = .ok (.lreturn, 1) := by decide +kernel
theorem d_Mo_bettered_183 : decode b_Mo_bettered 183 = .ok (.iinc 12 1, 3) := by decide +kernel
theorem d_Mo_bettered_186 : decode b_Mo_bettered 186 = .ok (.goto (-77), 3) := by decide +kernel
theorem d_Mo_bettered_189 : decode b_Mo_bettered 189 = .ok (.iinc 11 1, 3) := by decide +kernel
theorem d_Mo_bettered_192 : decode b_Mo_bettered 192 = .ok (.goto (-107), 3) := by decide +kernel
theorem d_Mo_bettered_195 : decode b_Mo_bettered 195 = .ok (.iinc 8 1, 3) := by decide +kernel
theorem d_Mo_bettered_198 : decode b_Mo_bettered 198 = .ok (.goto (-138), 3) := by decide +kernel
theorem d_Mo_bettered_201 : decode b_Mo_bettered 201 = .ok (.lload_n 2, 1) := by decide +kernel
theorem d_Mo_bettered_202 : decode b_Mo_bettered 202 = .ok (.lreturn, 1) := by decide +kernel
def B_Mo_bettered_109 (k85 : Int32 → Int64 → Int64 → Int32 → Int64 → Int32 → Sto → Option (Int64 × Sto)) (k109 : Int32 → Int64 → Int64 → Int32 → Int64 → Int32 → Int32 → Sto → Option (Int64 × Sto)) (v1 : Int32) (v2 : Int64) (v6 : Int64) (v8 : Int32) (v9 : Int64) (v11 : Int32) (v12 : Int32) (σ : Sto) : Option (Int64 × Sto) :=
  (if (gI σ 48 0) ≤ v12 then k85 v1 v2 v6 v8 v9 (v11 + (1 : Int32)) σ
 else ((f_Mo_has v6 v11 σ).bind fun q8 => (if (b2i q8.1) = 0 then k85 v1 v2 v6 v8 v9 (v11 + (1 : Int32)) q8.2
  else ((f_Mo_fitsAll v1 v11 v9 q8.2).bind fun q9 => (if (b2i q9.1) = 0 then k85 v1 v2 v6 v8 v9 (v11 + (1 : Int32)) q9.2
   else ((f_Mo_has v6 v12 q9.2).bind fun q10 => (if (b2i q10.1) = 0 then k109 v1 v2 v6 v8 v9 v11 (v12 + (1 : Int32)) q10.2
    else ((f_Mo_bit v11 q10.2).bind fun q11 => ((f_Mo_fitsAll v1 v12 (v9 ||| q11.1) q11.2).bind fun q12 => (if (b2i q12.1) = 0 then k109 v1 v2 v6 v8 v9 v11 (v12 + (1 : Int32)) q12.2
     else ((f_Mo_bit v11 q12.2).bind fun q13 => ((f_Mo_bit v12 q13.2).bind fun q14 => some (((v9 ||| q13.1) ||| q14.1), q14.2)))))))))))))
set_option maxHeartbeats 4000000 in
set_option maxRecDepth 100000 in
theorem vB_Mo_bettered_109 {X : Xt} {E : En} (g : GG X E 4 b_Mo_bettered R_Mo 13) {k85 : Int32 → Int64 → Int64 → Int32 → Int64 → Int32 → Sto → Option (Int64 × Sto)} {k109 : Int32 → Int64 → Int64 → Int32 → Int64 → Int32 → Int32 → Sto → Option (Int64 × Sto)} (hk85 : ∀ (v1 : Int32) (v2 : Int64) (v6 : Int64) (v8 : Int32) (v9 : Int64) (v11 : Int32) (σ : Sto), VV X E b_Mo_bettered 13 eL 85 [(0, .ref (E.2.1 48)), (1, .int v1), (2, .long v2), (6, .long v6), (8, .int v8), (9, .long v9), (11, .int v11)] [] σ (k85 v1 v2 v6 v8 v9 v11 σ)) (hk109 : ∀ (v1 : Int32) (v2 : Int64) (v6 : Int64) (v8 : Int32) (v9 : Int64) (v11 : Int32) (v12 : Int32) (σ : Sto), VV X E b_Mo_bettered 13 eL 109 [(0, .ref (E.2.1 48)), (1, .int v1), (2, .long v2), (6, .long v6), (8, .int v8), (9, .long v9), (11, .int v11), (12, .int v12)] [] σ (k109 v1 v2 v6 v8 v9 v11 v12 σ)) (v1 : Int32) (v2 : Int64) (v6 : Int64) (v8 : Int32) (v9 : Int64) (v11 : Int32) (v12 : Int32) (σ : Sto) : VV X E b_Mo_bettered 13 eL 109 [(0, .ref (E.2.1 48)), (1, .int v1), (2, .long v2), (6, .long v6), (8, .int v8), (9, .long v9), (11, .int v11), (12, .int v12)] [] σ (B_Mo_bettered_109 k85 k109 v1 v2 v6 v8 v9 v11 v12 σ) := by
  unfold B_Mo_bettered_109
  refine v_iload 7 g d_Mo_bettered_109 rfl ?_
  refine v_aload_n 0 g d_Mo_bettered_111 rfl ?_
  refine v_getI g ff_Mo_80 rfl rfl d_Mo_bettered_112 ?_
  refine v_icmp_ge 189 g d_Mo_bettered_115 (by decide) (fun _ => ?_) (fun _ => ?_)
  · refine v_iinc 6 [(11, .int (v11 + (1 : Int32))), (0, .ref (E.2.1 48)), (1, .int v1), (2, .long v2), (6, .long v6), (8, .int v8), (9, .long v9), (12, .int v12)] g d_Mo_bettered_189 rfl (v := (1 : Int32)) (by decide +kernel) (by decide) rfl ?_
    refine v_goto 85 g d_Mo_bettered_192 (by decide) ?_
    exact v_sub [1,2,3,4,5,6,0] rfl (hk85 v1 v2 v6 v8 v9 (v11 + (1 : Int32)) σ)
  · refine v_lload 3 g d_Mo_bettered_118 rfl ?_
    refine v_iload 6 g d_Mo_bettered_120 rfl ?_
    refine v_callB (r_S (rest := []) [.long v6, .int v11] g (m1 1206 (by decide +kernel) (by decide +kernel)) ys_Mo_has (fun r σ1 h => sp_Mo_has g.2.2.1  h) rfl rfl (by decide) (Nat.le_of_ble_eq_true rfl) d_Mo_bettered_122) (fun q8 => ?_)
    refine v_if_eq 189 g d_Mo_bettered_125 (by decide) (fun _ => ?_) (fun _ => ?_)
    · refine v_iinc 6 [(11, .int (v11 + (1 : Int32))), (0, .ref (E.2.1 48)), (1, .int v1), (2, .long v2), (6, .long v6), (8, .int v8), (9, .long v9), (12, .int v12)] g d_Mo_bettered_189 rfl (v := (1 : Int32)) (by decide +kernel) (by decide) rfl ?_
      refine v_goto 85 g d_Mo_bettered_192 (by decide) ?_
      exact v_sub [1,2,3,4,5,6,0] rfl (hk85 v1 v2 v6 v8 v9 (v11 + (1 : Int32)) q8.2)
    · refine v_aload_n 0 g d_Mo_bettered_128 rfl ?_
      refine v_iload_n 1 g d_Mo_bettered_129 rfl ?_
      refine v_iload 6 g d_Mo_bettered_130 rfl ?_
      refine v_lload 5 g d_Mo_bettered_132 rfl ?_
      refine v_callB (r_V (rest := []) [.int v1, .int v11, .long v9] g (m1 1258 (by decide +kernel) (by decide +kernel)) yv_Mo_fitsAll rfl (fun r σ1 h => sp_Mo_fitsAll g.2.2.1  h) rfl rfl (by decide) (Nat.le_of_ble_eq_true rfl) d_Mo_bettered_134) (fun q9 => ?_)
      refine v_if_eq 189 g d_Mo_bettered_137 (by decide) (fun _ => ?_) (fun _ => ?_)
      · refine v_iinc 6 [(11, .int (v11 + (1 : Int32))), (0, .ref (E.2.1 48)), (1, .int v1), (2, .long v2), (6, .long v6), (8, .int v8), (9, .long v9), (12, .int v12)] g d_Mo_bettered_189 rfl (v := (1 : Int32)) (by decide +kernel) (by decide) rfl ?_
        refine v_goto 85 g d_Mo_bettered_192 (by decide) ?_
        exact v_sub [1,2,3,4,5,6,0] rfl (hk85 v1 v2 v6 v8 v9 (v11 + (1 : Int32)) q9.2)
      · refine v_lload 3 g d_Mo_bettered_140 rfl ?_
        refine v_iload 7 g d_Mo_bettered_142 rfl ?_
        refine v_callB (r_S (rest := []) [.long v6, .int v12] g (m1 1206 (by decide +kernel) (by decide +kernel)) ys_Mo_has (fun r σ1 h => sp_Mo_has g.2.2.1  h) rfl rfl (by decide) (Nat.le_of_ble_eq_true rfl) d_Mo_bettered_144) (fun q10 => ?_)
        refine v_if_eq 183 g d_Mo_bettered_147 (by decide) (fun _ => ?_) (fun _ => ?_)
        · refine v_iinc 7 [(12, .int (v12 + (1 : Int32))), (0, .ref (E.2.1 48)), (1, .int v1), (2, .long v2), (6, .long v6), (8, .int v8), (9, .long v9), (11, .int v11)] g d_Mo_bettered_183 rfl (v := (1 : Int32)) (by decide +kernel) (by decide) rfl ?_
          refine v_goto 109 g d_Mo_bettered_186 (by decide) ?_
          exact v_sub [1,2,3,4,5,6,7,0] rfl (hk109 v1 v2 v6 v8 v9 v11 (v12 + (1 : Int32)) q10.2)
        · refine v_aload_n 0 g d_Mo_bettered_150 rfl ?_
          refine v_iload_n 1 g d_Mo_bettered_151 rfl ?_
          refine v_iload 7 g d_Mo_bettered_152 rfl ?_
          refine v_lload 5 g d_Mo_bettered_154 rfl ?_
          refine v_iload 6 g d_Mo_bettered_156 rfl ?_
          refine v_callL (r_S (rest := [.long v9, .int v12, .int v1, .ref (E.2.1 48)]) [.int v11] g (m1 1213 (by decide +kernel) (by decide +kernel)) ys_Mo_bit (fun r σ1 h => sp_Mo_bit g.2.2.1  h) rfl rfl (by decide) (Nat.le_of_ble_eq_true rfl) d_Mo_bettered_158) (fun q11 => ?_)
          refine v_lor g d_Mo_bettered_161 ?_
          refine v_callB (r_V (rest := []) [.int v1, .int v12, .long (v9 ||| q11.1)] g (m1 1258 (by decide +kernel) (by decide +kernel)) yv_Mo_fitsAll rfl (fun r σ1 h => sp_Mo_fitsAll g.2.2.1  h) rfl rfl (by decide) (Nat.le_of_ble_eq_true rfl) d_Mo_bettered_162) (fun q12 => ?_)
          refine v_if_eq 183 g d_Mo_bettered_165 (by decide) (fun _ => ?_) (fun _ => ?_)
          · refine v_iinc 7 [(12, .int (v12 + (1 : Int32))), (0, .ref (E.2.1 48)), (1, .int v1), (2, .long v2), (6, .long v6), (8, .int v8), (9, .long v9), (11, .int v11)] g d_Mo_bettered_183 rfl (v := (1 : Int32)) (by decide +kernel) (by decide) rfl ?_
            refine v_goto 109 g d_Mo_bettered_186 (by decide) ?_
            exact v_sub [1,2,3,4,5,6,7,0] rfl (hk109 v1 v2 v6 v8 v9 v11 (v12 + (1 : Int32)) q12.2)
          · refine v_lload 5 g d_Mo_bettered_168 rfl ?_
            refine v_iload 6 g d_Mo_bettered_170 rfl ?_
            refine v_callL (r_S (rest := [.long v9]) [.int v11] g (m1 1213 (by decide +kernel) (by decide +kernel)) ys_Mo_bit (fun r σ1 h => sp_Mo_bit g.2.2.1  h) rfl rfl (by decide) (Nat.le_of_ble_eq_true rfl) d_Mo_bettered_172) (fun q13 => ?_)
            refine v_lor g d_Mo_bettered_175 ?_
            refine v_iload 7 g d_Mo_bettered_176 rfl ?_
            refine v_callL (r_S (rest := [.long (v9 ||| q13.1)]) [.int v12] g (m1 1213 (by decide +kernel) (by decide +kernel)) ys_Mo_bit (fun r σ1 h => sp_Mo_bit g.2.2.1  h) rfl rfl (by decide) (Nat.le_of_ble_eq_true rfl) d_Mo_bettered_178) (fun q14 => ?_)
            refine v_lor g d_Mo_bettered_181 ?_
            exact v_ret d_Mo_bettered_182 rfl
def L_Mo_bettered_109 (k85 : Int32 → Int64 → Int64 → Int32 → Int64 → Int32 → Sto → Option (Int64 × Sto)) : Nat → Int32 → Int64 → Int64 → Int32 → Int64 → Int32 → Int32 → Sto → Option (Int64 × Sto)
  | 0, _, _, _, _, _, _, _, _ => none
  | fu + 1, v1, v2, v6, v8, v9, v11, v12, σ => B_Mo_bettered_109 k85 (L_Mo_bettered_109 k85 fu) v1 v2 v6 v8 v9 v11 v12 σ
theorem vL_Mo_bettered_109 {X : Xt} {E : En} (g : GG X E 4 b_Mo_bettered R_Mo 13) {k85 : Int32 → Int64 → Int64 → Int32 → Int64 → Int32 → Sto → Option (Int64 × Sto)} (hk85 : ∀ (v1 : Int32) (v2 : Int64) (v6 : Int64) (v8 : Int32) (v9 : Int64) (v11 : Int32) (σ : Sto), VV X E b_Mo_bettered 13 eL 85 [(0, .ref (E.2.1 48)), (1, .int v1), (2, .long v2), (6, .long v6), (8, .int v8), (9, .long v9), (11, .int v11)] [] σ (k85 v1 v2 v6 v8 v9 v11 σ)) (fu : Nat) : ∀ (v1 : Int32) (v2 : Int64) (v6 : Int64) (v8 : Int32) (v9 : Int64) (v11 : Int32) (v12 : Int32) (σ : Sto), VV X E b_Mo_bettered 13 eL 109 [(0, .ref (E.2.1 48)), (1, .int v1), (2, .long v2), (6, .long v6), (8, .int v8), (9, .long v9), (11, .int v11), (12, .int v12)] [] σ (L_Mo_bettered_109 k85 fu v1 v2 v6 v8 v9 v11 v12 σ) := by
  induction fu with
  | zero => intros; exact v_none
  | succ fu ih =>
    intro v1 v2 v6 v8 v9 v11 v12 σ
    exact vB_Mo_bettered_109 g hk85 ih v1 v2 v6 v8 v9 v11 v12 σ
def B_Mo_bettered_85 (k60 : Int32 → Int64 → Int64 → Int32 → Sto → Option (Int64 × Sto)) (k85 : Int32 → Int64 → Int64 → Int32 → Int64 → Int32 → Sto → Option (Int64 × Sto)) (v1 : Int32) (v2 : Int64) (v6 : Int64) (v8 : Int32) (v9 : Int64) (v11 : Int32) (σ : Sto) : Option (Int64 × Sto) :=
  (if (gI σ 48 0) ≤ v11 then k60 v1 v2 v6 (v8 + (1 : Int32)) σ
 else ((f_Mo_has v2 v8 σ).bind fun q7 => (if (b2i q7.1) = 0 then k60 v1 v2 v6 (v8 + (1 : Int32)) q7.2
  else L_Mo_bettered_109 k85 LF v1 v2 v6 v8 v9 v11 (v11 + (1 : Int32)) q7.2)))
set_option maxHeartbeats 4000000 in
set_option maxRecDepth 100000 in
theorem vB_Mo_bettered_85 {X : Xt} {E : En} (g : GG X E 4 b_Mo_bettered R_Mo 13) {k60 : Int32 → Int64 → Int64 → Int32 → Sto → Option (Int64 × Sto)} {k85 : Int32 → Int64 → Int64 → Int32 → Int64 → Int32 → Sto → Option (Int64 × Sto)} (hk60 : ∀ (v1 : Int32) (v2 : Int64) (v6 : Int64) (v8 : Int32) (σ : Sto), VV X E b_Mo_bettered 13 eL 60 [(0, .ref (E.2.1 48)), (1, .int v1), (2, .long v2), (6, .long v6), (8, .int v8)] [] σ (k60 v1 v2 v6 v8 σ)) (hk85 : ∀ (v1 : Int32) (v2 : Int64) (v6 : Int64) (v8 : Int32) (v9 : Int64) (v11 : Int32) (σ : Sto), VV X E b_Mo_bettered 13 eL 85 [(0, .ref (E.2.1 48)), (1, .int v1), (2, .long v2), (6, .long v6), (8, .int v8), (9, .long v9), (11, .int v11)] [] σ (k85 v1 v2 v6 v8 v9 v11 σ)) (v1 : Int32) (v2 : Int64) (v6 : Int64) (v8 : Int32) (v9 : Int64) (v11 : Int32) (σ : Sto) : VV X E b_Mo_bettered 13 eL 85 [(0, .ref (E.2.1 48)), (1, .int v1), (2, .long v2), (6, .long v6), (8, .int v8), (9, .long v9), (11, .int v11)] [] σ (B_Mo_bettered_85 k60 k85 v1 v2 v6 v8 v9 v11 σ) := by
  unfold B_Mo_bettered_85
  refine v_iload 6 g d_Mo_bettered_85 rfl ?_
  refine v_aload_n 0 g d_Mo_bettered_87 rfl ?_
  refine v_getI g ff_Mo_80 rfl rfl d_Mo_bettered_88 ?_
  refine v_icmp_ge 195 g d_Mo_bettered_91 (by decide) (fun _ => ?_) (fun _ => ?_)
  · refine v_iinc 4 [(8, .int (v8 + (1 : Int32))), (0, .ref (E.2.1 48)), (1, .int v1), (2, .long v2), (6, .long v6), (9, .long v9), (11, .int v11)] g d_Mo_bettered_195 rfl (v := (1 : Int32)) (by decide +kernel) (by decide) rfl ?_
    refine v_goto 60 g d_Mo_bettered_198 (by decide) ?_
    exact v_sub [1,2,3,4,0] rfl (hk60 v1 v2 v6 (v8 + (1 : Int32)) σ)
  · refine v_lload_n 2 g d_Mo_bettered_94 rfl ?_
    refine v_iload 4 g d_Mo_bettered_95 rfl ?_
    refine v_callB (r_S (rest := []) [.long v2, .int v8] g (m1 1206 (by decide +kernel) (by decide +kernel)) ys_Mo_has (fun r σ1 h => sp_Mo_has g.2.2.1  h) rfl rfl (by decide) (Nat.le_of_ble_eq_true rfl) d_Mo_bettered_97) (fun q7 => ?_)
    refine v_if_eq 195 g d_Mo_bettered_100 (by decide) (fun _ => ?_) (fun _ => ?_)
    · refine v_iinc 4 [(8, .int (v8 + (1 : Int32))), (0, .ref (E.2.1 48)), (1, .int v1), (2, .long v2), (6, .long v6), (9, .long v9), (11, .int v11)] g d_Mo_bettered_195 rfl (v := (1 : Int32)) (by decide +kernel) (by decide) rfl ?_
      refine v_goto 60 g d_Mo_bettered_198 (by decide) ?_
      exact v_sub [1,2,3,4,0] rfl (hk60 v1 v2 v6 (v8 + (1 : Int32)) q7.2)
    · refine v_iload 6 g d_Mo_bettered_103 rfl ?_
      refine v_iconst (v := (1 : Int32)) g d_Mo_bettered_105 (by decide +kernel) ?_
      refine v_iadd g d_Mo_bettered_106 ?_
      refine v_istore [(12, .int (v11 + (1 : Int32))), (0, .ref (E.2.1 48)), (1, .int v1), (2, .long v2), (6, .long v6), (8, .int v8), (9, .long v9), (11, .int v11)] g d_Mo_bettered_107 (by decide) rfl ?_
      exact v_sub [1,2,3,4,5,6,7,0] rfl (vL_Mo_bettered_109 g hk85 LF v1 v2 v6 v8 v9 v11 (v11 + (1 : Int32)) q7.2)
def L_Mo_bettered_85 (k60 : Int32 → Int64 → Int64 → Int32 → Sto → Option (Int64 × Sto)) : Nat → Int32 → Int64 → Int64 → Int32 → Int64 → Int32 → Sto → Option (Int64 × Sto)
  | 0, _, _, _, _, _, _, _ => none
  | fu + 1, v1, v2, v6, v8, v9, v11, σ => B_Mo_bettered_85 k60 (L_Mo_bettered_85 k60 fu) v1 v2 v6 v8 v9 v11 σ
theorem vL_Mo_bettered_85 {X : Xt} {E : En} (g : GG X E 4 b_Mo_bettered R_Mo 13) {k60 : Int32 → Int64 → Int64 → Int32 → Sto → Option (Int64 × Sto)} (hk60 : ∀ (v1 : Int32) (v2 : Int64) (v6 : Int64) (v8 : Int32) (σ : Sto), VV X E b_Mo_bettered 13 eL 60 [(0, .ref (E.2.1 48)), (1, .int v1), (2, .long v2), (6, .long v6), (8, .int v8)] [] σ (k60 v1 v2 v6 v8 σ)) (fu : Nat) : ∀ (v1 : Int32) (v2 : Int64) (v6 : Int64) (v8 : Int32) (v9 : Int64) (v11 : Int32) (σ : Sto), VV X E b_Mo_bettered 13 eL 85 [(0, .ref (E.2.1 48)), (1, .int v1), (2, .long v2), (6, .long v6), (8, .int v8), (9, .long v9), (11, .int v11)] [] σ (L_Mo_bettered_85 k60 fu v1 v2 v6 v8 v9 v11 σ) := by
  induction fu with
  | zero => intros; exact v_none
  | succ fu ih =>
    intro v1 v2 v6 v8 v9 v11 σ
    exact vB_Mo_bettered_85 g hk60 ih v1 v2 v6 v8 v9 v11 σ
def B_Mo_bettered_60 (k60 : Int32 → Int64 → Int64 → Int32 → Sto → Option (Int64 × Sto)) (v1 : Int32) (v2 : Int64) (v6 : Int64) (v8 : Int32) (σ : Sto) : Option (Int64 × Sto) :=
  (if (gI σ 48 0) ≤ v8 then some (v2, σ)
 else ((f_Mo_bit v8 σ).bind fun q5 => (lt1 (v2 &&& (q5.1 ^^^ (-1 : Int64))) fun x6 => L_Mo_bettered_85 k60 LF v1 v2 v6 v8 x6 (0 : Int32) q5.2)))
set_option maxHeartbeats 4000000 in
set_option maxRecDepth 100000 in
theorem vB_Mo_bettered_60 {X : Xt} {E : En} (g : GG X E 4 b_Mo_bettered R_Mo 13) {k60 : Int32 → Int64 → Int64 → Int32 → Sto → Option (Int64 × Sto)} (hk60 : ∀ (v1 : Int32) (v2 : Int64) (v6 : Int64) (v8 : Int32) (σ : Sto), VV X E b_Mo_bettered 13 eL 60 [(0, .ref (E.2.1 48)), (1, .int v1), (2, .long v2), (6, .long v6), (8, .int v8)] [] σ (k60 v1 v2 v6 v8 σ)) (v1 : Int32) (v2 : Int64) (v6 : Int64) (v8 : Int32) (σ : Sto) : VV X E b_Mo_bettered 13 eL 60 [(0, .ref (E.2.1 48)), (1, .int v1), (2, .long v2), (6, .long v6), (8, .int v8)] [] σ (B_Mo_bettered_60 k60 v1 v2 v6 v8 σ) := by
  unfold B_Mo_bettered_60
  refine v_iload 4 g d_Mo_bettered_60 rfl ?_
  refine v_aload_n 0 g d_Mo_bettered_62 rfl ?_
  refine v_getI g ff_Mo_80 rfl rfl d_Mo_bettered_63 ?_
  refine v_icmp_ge 201 g d_Mo_bettered_66 (by decide) (fun _ => ?_) (fun _ => ?_)
  · refine v_lload_n 2 g d_Mo_bettered_201 rfl ?_
    exact v_ret d_Mo_bettered_202 rfl
  · refine v_lload_n 2 g d_Mo_bettered_69 rfl ?_
    refine v_iload 4 g d_Mo_bettered_70 rfl ?_
    refine v_callL (r_S (rest := [.long v2]) [.int v8] g (m1 1213 (by decide +kernel) (by decide +kernel)) ys_Mo_bit (fun r σ1 h => sp_Mo_bit g.2.2.1  h) rfl rfl (by decide) (Nat.le_of_ble_eq_true rfl) d_Mo_bettered_72) (fun q5 => ?_)
    refine v_ldc2 (v := (-1 : Int64)) g (m1 1216 (by decide +kernel) (by decide +kernel)) d_Mo_bettered_75 ?_
    refine v_lxor g d_Mo_bettered_78 ?_
    refine v_land g d_Mo_bettered_79 ?_
    refine v_nlet (fun x6 ex6 => ?_)
    rw [← ex6]
    refine v_lstore [(9, .long x6), (0, .ref (E.2.1 48)), (1, .int v1), (2, .long v2), (6, .long v6), (8, .int v8)] g d_Mo_bettered_80 (by decide) rfl ?_
    refine v_iconst (v := (0 : Int32)) g d_Mo_bettered_82 (by decide +kernel) ?_
    refine v_istore [(11, .int (0 : Int32)), (9, .long x6), (0, .ref (E.2.1 48)), (1, .int v1), (2, .long v2), (6, .long v6), (8, .int v8)] g d_Mo_bettered_83 (by decide) rfl ?_
    exact v_sub [2,3,4,5,6,1,0] rfl (vL_Mo_bettered_85 g hk60 LF v1 v2 v6 v8 x6 (0 : Int32) q5.2)
def L_Mo_bettered_60 : Nat → Int32 → Int64 → Int64 → Int32 → Sto → Option (Int64 × Sto)
  | 0, _, _, _, _, _ => none
  | fu + 1, v1, v2, v6, v8, σ => B_Mo_bettered_60 (L_Mo_bettered_60 fu) v1 v2 v6 v8 σ
theorem vL_Mo_bettered_60 {X : Xt} {E : En} (g : GG X E 4 b_Mo_bettered R_Mo 13) (fu : Nat) : ∀ (v1 : Int32) (v2 : Int64) (v6 : Int64) (v8 : Int32) (σ : Sto), VV X E b_Mo_bettered 13 eL 60 [(0, .ref (E.2.1 48)), (1, .int v1), (2, .long v2), (6, .long v6), (8, .int v8)] [] σ (L_Mo_bettered_60 fu v1 v2 v6 v8 σ) := by
  induction fu with
  | zero => intros; exact v_none
  | succ fu ih =>
    intro v1 v2 v6 v8 σ
    exact vB_Mo_bettered_60 g ih v1 v2 v6 v8 σ
def B_Mo_bettered_13 (k13 : Int32 → Int64 → Int64 → Int32 → Sto → Option (Int64 × Sto)) (v1 : Int32) (v2 : Int64) (v6 : Int64) (v8 : Int32) (σ : Sto) : Option (Int64 × Sto) :=
  (if (gI σ 48 0) ≤ v8 then L_Mo_bettered_60 LF v1 v2 v6 (0 : Int32) σ
 else ((f_Mo_has v6 v8 σ).bind fun q2 => (if (b2i q2.1) = 0 then k13 v1 v2 v6 (v8 + (1 : Int32)) q2.2
  else ((f_Mo_fitsAll v1 v8 v2 q2.2).bind fun q3 => (if (b2i q3.1) = 0 then k13 v1 v2 v6 (v8 + (1 : Int32)) q3.2
   else ((f_Mo_bit v8 q3.2).bind fun q4 => some ((v2 ||| q4.1), q4.2)))))))
set_option maxHeartbeats 4000000 in
set_option maxRecDepth 100000 in
theorem vB_Mo_bettered_13 {X : Xt} {E : En} (g : GG X E 4 b_Mo_bettered R_Mo 13) {k13 : Int32 → Int64 → Int64 → Int32 → Sto → Option (Int64 × Sto)} (hk13 : ∀ (v1 : Int32) (v2 : Int64) (v6 : Int64) (v8 : Int32) (σ : Sto), VV X E b_Mo_bettered 13 eL 13 [(0, .ref (E.2.1 48)), (1, .int v1), (2, .long v2), (6, .long v6), (8, .int v8)] [] σ (k13 v1 v2 v6 v8 σ)) (v1 : Int32) (v2 : Int64) (v6 : Int64) (v8 : Int32) (σ : Sto) : VV X E b_Mo_bettered 13 eL 13 [(0, .ref (E.2.1 48)), (1, .int v1), (2, .long v2), (6, .long v6), (8, .int v8)] [] σ (B_Mo_bettered_13 k13 v1 v2 v6 v8 σ) := by
  unfold B_Mo_bettered_13
  refine v_iload 4 g d_Mo_bettered_13 rfl ?_
  refine v_aload_n 0 g d_Mo_bettered_15 rfl ?_
  refine v_getI g ff_Mo_80 rfl rfl d_Mo_bettered_16 ?_
  refine v_icmp_ge 57 g d_Mo_bettered_19 (by decide) (fun _ => ?_) (fun _ => ?_)
  · refine v_iconst (v := (0 : Int32)) g d_Mo_bettered_57 (by decide +kernel) ?_
    refine v_istore [(8, .int (0 : Int32)), (0, .ref (E.2.1 48)), (1, .int v1), (2, .long v2), (6, .long v6)] g d_Mo_bettered_58 (by decide) rfl ?_
    exact v_sub [1,2,3,4,0] rfl (vL_Mo_bettered_60 g LF v1 v2 v6 (0 : Int32) σ)
  · refine v_lload 3 g d_Mo_bettered_22 rfl ?_
    refine v_iload 4 g d_Mo_bettered_24 rfl ?_
    refine v_callB (r_S (rest := []) [.long v6, .int v8] g (m1 1206 (by decide +kernel) (by decide +kernel)) ys_Mo_has (fun r σ1 h => sp_Mo_has g.2.2.1  h) rfl rfl (by decide) (Nat.le_of_ble_eq_true rfl) d_Mo_bettered_26) (fun q2 => ?_)
    refine v_if_eq 51 g d_Mo_bettered_29 (by decide) (fun _ => ?_) (fun _ => ?_)
    · refine v_iinc 4 [(8, .int (v8 + (1 : Int32))), (0, .ref (E.2.1 48)), (1, .int v1), (2, .long v2), (6, .long v6)] g d_Mo_bettered_51 rfl (v := (1 : Int32)) (by decide +kernel) (by decide) rfl ?_
      refine v_goto 13 g d_Mo_bettered_54 (by decide) ?_
      exact v_sub [1,2,3,4,0] rfl (hk13 v1 v2 v6 (v8 + (1 : Int32)) q2.2)
    · refine v_aload_n 0 g d_Mo_bettered_32 rfl ?_
      refine v_iload_n 1 g d_Mo_bettered_33 rfl ?_
      refine v_iload 4 g d_Mo_bettered_34 rfl ?_
      refine v_lload_n 2 g d_Mo_bettered_36 rfl ?_
      refine v_callB (r_V (rest := []) [.int v1, .int v8, .long v2] g (m1 1258 (by decide +kernel) (by decide +kernel)) yv_Mo_fitsAll rfl (fun r σ1 h => sp_Mo_fitsAll g.2.2.1  h) rfl rfl (by decide) (Nat.le_of_ble_eq_true rfl) d_Mo_bettered_37) (fun q3 => ?_)
      refine v_if_eq 51 g d_Mo_bettered_40 (by decide) (fun _ => ?_) (fun _ => ?_)
      · refine v_iinc 4 [(8, .int (v8 + (1 : Int32))), (0, .ref (E.2.1 48)), (1, .int v1), (2, .long v2), (6, .long v6)] g d_Mo_bettered_51 rfl (v := (1 : Int32)) (by decide +kernel) (by decide) rfl ?_
        refine v_goto 13 g d_Mo_bettered_54 (by decide) ?_
        exact v_sub [1,2,3,4,0] rfl (hk13 v1 v2 v6 (v8 + (1 : Int32)) q3.2)
      · refine v_lload_n 2 g d_Mo_bettered_43 rfl ?_
        refine v_iload 4 g d_Mo_bettered_44 rfl ?_
        refine v_callL (r_S (rest := [.long v2]) [.int v8] g (m1 1213 (by decide +kernel) (by decide +kernel)) ys_Mo_bit (fun r σ1 h => sp_Mo_bit g.2.2.1  h) rfl rfl (by decide) (Nat.le_of_ble_eq_true rfl) d_Mo_bettered_46) (fun q4 => ?_)
        refine v_lor g d_Mo_bettered_49 ?_
        exact v_ret d_Mo_bettered_50 rfl
def L_Mo_bettered_13 : Nat → Int32 → Int64 → Int64 → Int32 → Sto → Option (Int64 × Sto)
  | 0, _, _, _, _, _ => none
  | fu + 1, v1, v2, v6, v8, σ => B_Mo_bettered_13 (L_Mo_bettered_13 fu) v1 v2 v6 v8 σ
theorem vL_Mo_bettered_13 {X : Xt} {E : En} (g : GG X E 4 b_Mo_bettered R_Mo 13) (fu : Nat) : ∀ (v1 : Int32) (v2 : Int64) (v6 : Int64) (v8 : Int32) (σ : Sto), VV X E b_Mo_bettered 13 eL 13 [(0, .ref (E.2.1 48)), (1, .int v1), (2, .long v2), (6, .long v6), (8, .int v8)] [] σ (L_Mo_bettered_13 fu v1 v2 v6 v8 σ) := by
  induction fu with
  | zero => intros; exact v_none
  | succ fu ih =>
    intro v1 v2 v6 v8 σ
    exact vB_Mo_bettered_13 g ih v1 v2 v6 v8 σ
def B_Mo_bettered_0 (a1 : Int32) (a2 : Int64) (a4 : Int64) (σ : Sto) : Option (Int64 × Sto) :=
  (lt1 (a4 &&& (a2 ^^^ (-1 : Int64))) fun x1 => L_Mo_bettered_13 LF a1 a2 x1 (0 : Int32) σ)
set_option maxHeartbeats 4000000 in
set_option maxRecDepth 100000 in
theorem vB_Mo_bettered_0 {X : Xt} {E : En} (g : GG X E 4 b_Mo_bettered R_Mo 13) (a1 : Int32) (a2 : Int64) (a4 : Int64) (σ : Sto) : VV X E b_Mo_bettered 13 eL 0 [(0, .ref (E.2.1 48)), (1, .int a1), (2, .long a2), (4, .long a4)] [] σ (B_Mo_bettered_0 a1 a2 a4 σ) := by
  unfold B_Mo_bettered_0
  refine v_lload 3 g d_Mo_bettered_0 rfl ?_
  refine v_lload_n 2 g d_Mo_bettered_2 rfl ?_
  refine v_ldc2 (v := (-1 : Int64)) g (m1 1216 (by decide +kernel) (by decide +kernel)) d_Mo_bettered_3 ?_
  refine v_lxor g d_Mo_bettered_6 ?_
  refine v_land g d_Mo_bettered_7 ?_
  refine v_nlet (fun x1 ex1 => ?_)
  rw [← ex1]
  refine v_lstore [(6, .long x1), (0, .ref (E.2.1 48)), (1, .int a1), (2, .long a2), (4, .long a4)] g d_Mo_bettered_8 (by decide) rfl ?_
  refine v_iconst (v := (0 : Int32)) g d_Mo_bettered_10 (by decide +kernel) ?_
  refine v_istore [(8, .int (0 : Int32)), (6, .long x1), (0, .ref (E.2.1 48)), (1, .int a1), (2, .long a2), (4, .long a4)] g d_Mo_bettered_11 (by decide) rfl ?_
  exact v_sub [2,3,4,1,0] rfl (vL_Mo_bettered_13 g LF a1 a2 x1 (0 : Int32) σ)
def f_Mo_bettered (a1 : Int32) (a2 : Int64) (a4 : Int64) (σ : Sto) : Option (Int64 × Sto) := B_Mo_bettered_0 a1 a2 a4 σ
theorem sp_Mo_bettered {l : Launch} {E : En} (hE : Dj E) {a1 : Int32} {a2 : Int64} {a4 : Int64} {σ : Sto} {r : Int64} {σ' : Sto} (h : f_Mo_bettered a1 a2 a4 σ = some (r, σ')) : Ct l E y_Mo_bettered (wsM y_Mo_bettered b_Mo_bettered 13 (some .long)) 4 [.ref (E.2.1 48), .int a1, .long a2, .long a4] σ (eL r) σ' :=
  ct_of hE (by decide +kernel) (Nat.le_of_ble_eq_true rfl) (fun x => Or.inr (Or.inr (Or.inl ⟨rfl, x, rfl⟩))) (fun X _ g => vB_Mo_bettered_0 g a1 a2 a4 σ) r σ' h
/-! method FittingRingsModel.better(IJJ)J -/
theorem yv_Mo_better : YV y_Mo_better b_Mo_better 10 (some .long) 3 10 := ⟨m1 1373 (by decide +kernel) (by decide +kernel), m1 1374 (by decide +kernel) (by decide +kernel), ini_Mo, m1 1375 (by decide +kernel) (by decide +kernel), ⟨by decide +kernel, by decide +kernel, by decide +kernel⟩, by decide, by decide, T_Mo, 39, rfl⟩
theorem d_Mo_better_0 : decode b_Mo_better 0 = .ok (.iload_n 1, 1) := by decide +kernel
theorem d_Mo_better_1 : decode b_Mo_better 1 = .ok (.invokestatic 116, 3) := by decide +kernel
theorem d_Mo_better_4 : decode b_Mo_better 4 = .ok (.ifCond .eq 12, 3) := by decide +kernel
theorem d_Mo_better_7 : decode b_Mo_better 7 = .ok (.aload_n 0, 1) := by decide +kernel
theorem d_Mo_better_8 : decode b_Mo_better 8 = .ok (.lload 4, 2) := by decide +kernel
theorem d_Mo_better_10 : decode b_Mo_better 10 = .ok (.invokevirtual 127, 3) := by decide +kernel
theorem d_Mo_better_13 : decode b_Mo_better 13 = .ok (.ifCond .ne 7, 3) := by decide +kernel
theorem d_Mo_better_16 : decode b_Mo_better 16 = .ok (.ldc2_w 139, 3) := by decide +kernel
theorem d_Mo_better_19 : decode b_Mo_better 19 = .ok (.lreturn, 1) := by decide +kernel
theorem d_Mo_better_20 : decode b_Mo_better 20 = .ok (.lload_n 2, 1) := by decide +kernel
theorem d_Mo_better_21 : decode b_Mo_better 21 = .ok (.lload 4, 2) := by decide +kernel
theorem d_Mo_better_23 : decode b_Mo_better 23 = .ok (.ldc2_w 114, 3) := by decide +kernel
theorem d_Mo_better_26 : decode b_Mo_better 26 = .ok (.lxor, 1) := by decide +kernel
theorem d_Mo_better_27 : decode b_Mo_better 27 = .ok (.land, 1) := by decide +kernel
theorem d_Mo_better_28 : decode b_Mo_better 28 = .ok (.lconst 0, 1) := by decide +kernel
theorem d_Mo_better_29 : decode b_Mo_better 29 = .ok (.lcmp, 1) := by decide +kernel
theorem d_Mo_better_30 : decode b_Mo_better 30 = .ok (.ifCond .ne 12, 3) := by decide +kernel
theorem d_Mo_better_33 : decode b_Mo_better 33 = .ok (.aload_n 0, 1) := by decide +kernel
theorem d_Mo_better_34 : decode b_Mo_better 34 = .ok (.iload_n 1, 1) := by decide +kernel
theorem d_Mo_better_35 : decode b_Mo_better 35 = .ok (.lload_n 2, 1) := by decide +kernel
theorem d_Mo_better_36 : decode b_Mo_better 36 = .ok (.invokevirtual 152, 3) := by decide +kernel
theorem d_Mo_better_39 : decode b_Mo_better 39 = .ok (.ifCond .ne 7, 3) := by decide +kernel
theorem d_Mo_better_42 : decode b_Mo_better 42 = .ok (.ldc2_w 233, 3) := by decide +kernel
theorem d_Mo_better_45 : decode b_Mo_better 45 = .ok (.lreturn, 1) := by decide +kernel
theorem d_Mo_better_46 : decode b_Mo_better 46 = .ok (.ldc2_w 114, 3) := by decide +kernel
theorem d_Mo_better_49 : decode b_Mo_better 49 = .ok (.lstore 6, 2) := by decide +kernel
theorem d_Mo_better_51 : decode b_Mo_better 51 = .ok (.lload_n 2, 1) := by decide +kernel
theorem d_Mo_better_52 : decode b_Mo_better 52 = .ok (.lstore 8, 2) := by decide +kernel
theorem d_Mo_better_54 : decode b_Mo_better 54 = .ok (.lload 8, 2) := by decide +kernel
theorem d_Mo_better_56 : decode b_Mo_better 56 = .ok (.lload 6, 2) := by decide +kernel
theorem d_Mo_better_58 : decode b_Mo_better 58 = .ok (.lcmp, 1) := by decide +kernel
theorem d_Mo_better_59 : decode b_Mo_better 59 = .ok (.ifCond .eq 21, 3) := by decide +kernel
theorem d_Mo_better_62 : decode b_Mo_better 62 = .ok (.lload 8, 2) := by decide +kernel
theorem d_Mo_better_64 : decode b_Mo_better 64 = .ok (.lstore 6, 2) := by decide +kernel
theorem d_Mo_better_66 : decode b_Mo_better 66 = .ok (.aload_n 0, 1) := by decide +kernel
theorem d_Mo_better_67 : decode b_Mo_better 67 = .ok (.iload_n 1, 1) := by decide +kernel
theorem d_Mo_better_68 : decode b_Mo_better 68 = .ok (.lload 8, 2) := by decide +kernel
theorem d_Mo_better_70 : decode b_Mo_better 70 = .ok (.lload 4, 2) := by decide +kernel
theorem d_Mo_better_72 : decode b_Mo_better 72 = .ok (.invokevirtual 235, 3) := by decide +kernel
theorem d_Mo_better_75 : decode b_Mo_better 75 = .ok (.lstore 8, 2) := by decide +kernel
theorem d_Mo_better_77 : decode b_Mo_better 77 = .ok (.goto (-23), 3) := by decide +kernel
theorem d_Mo_better_80 : decode b_Mo_better 80 = .ok (.lload 8, 2) := by decide +kernel
theorem d_Mo_better_82 : decode b_Mo_better 82 = .ok (.lreturn, 1) := by decide +kernel
def B_Mo_better_54 (k54 : Int32 → Int64 → Int64 → Int64 → Sto → Option (Int64 × Sto)) (v1 : Int32) (v4 : Int64) (v6 : Int64) (v8 : Int64) (σ : Sto) : Option (Int64 × Sto) :=
  (if v8 = v6 then some (v8, σ)
 else ((f_Mo_bettered v1 v8 v4 σ).bind fun q4 => k54 v1 v4 v8 q4.1 q4.2))
set_option maxHeartbeats 4000000 in
set_option maxRecDepth 100000 in
theorem vB_Mo_better_54 {X : Xt} {E : En} (g : GG X E 5 b_Mo_better R_Mo 10) {k54 : Int32 → Int64 → Int64 → Int64 → Sto → Option (Int64 × Sto)} (hk54 : ∀ (v1 : Int32) (v4 : Int64) (v6 : Int64) (v8 : Int64) (σ : Sto), VV X E b_Mo_better 10 eL 54 [(0, .ref (E.2.1 48)), (1, .int v1), (4, .long v4), (6, .long v6), (8, .long v8)] [] σ (k54 v1 v4 v6 v8 σ)) (v1 : Int32) (v4 : Int64) (v6 : Int64) (v8 : Int64) (σ : Sto) : VV X E b_Mo_better 10 eL 54 [(0, .ref (E.2.1 48)), (1, .int v1), (4, .long v4), (6, .long v6), (8, .long v8)] [] σ (B_Mo_better_54 k54 v1 v4 v6 v8 σ) := by
  unfold B_Mo_better_54
  refine v_lload 4 g d_Mo_better_54 rfl ?_
  refine v_lload 3 g d_Mo_better_56 rfl ?_
  refine v_lcmp_eq 80 g d_Mo_better_58 d_Mo_better_59 (by decide) (fun _ => ?_) (fun _ => ?_)
  · refine v_lload 4 g d_Mo_better_80 rfl ?_
    exact v_ret d_Mo_better_82 rfl
  · refine v_lload 4 g d_Mo_better_62 rfl ?_
    refine v_lstore [(6, .long v8), (0, .ref (E.2.1 48)), (1, .int v1), (4, .long v4), (8, .long v8)] g d_Mo_better_64 (by decide) rfl ?_
    refine v_aload_n 1 g d_Mo_better_66 rfl ?_
    refine v_iload_n 2 g d_Mo_better_67 rfl ?_
    refine v_lload 4 g d_Mo_better_68 rfl ?_
    refine v_lload 3 g d_Mo_better_70 rfl ?_
    refine v_callL (r_V (rest := []) [.int v1, .long v8, .long v4] g (m1 1377 (by decide +kernel) (by decide +kernel)) yv_Mo_bettered rfl (fun r σ1 h => sp_Mo_bettered g.2.2.1  h) rfl rfl (by decide) (Nat.le_of_ble_eq_true rfl) d_Mo_better_72) (fun q4 => ?_)
    refine v_lstore [(8, .long q4.1), (6, .long v8), (0, .ref (E.2.1 48)), (1, .int v1), (4, .long v4)] g d_Mo_better_75 (by decide) rfl ?_
    refine v_goto 54 g d_Mo_better_77 (by decide) ?_
    exact v_sub [2,3,4,1,0] rfl (hk54 v1 v4 v8 q4.1 q4.2)
def L_Mo_better_54 : Nat → Int32 → Int64 → Int64 → Int64 → Sto → Option (Int64 × Sto)
  | 0, _, _, _, _, _ => none
  | fu + 1, v1, v4, v6, v8, σ => B_Mo_better_54 (L_Mo_better_54 fu) v1 v4 v6 v8 σ
theorem vL_Mo_better_54 {X : Xt} {E : En} (g : GG X E 5 b_Mo_better R_Mo 10) (fu : Nat) : ∀ (v1 : Int32) (v4 : Int64) (v6 : Int64) (v8 : Int64) (σ : Sto), VV X E b_Mo_better 10 eL 54 [(0, .ref (E.2.1 48)), (1, .int v1), (4, .long v4), (6, .long v6), (8, .long v8)] [] σ (L_Mo_better_54 fu v1 v4 v6 v8 σ) := by
  induction fu with
  | zero => intros; exact v_none
  | succ fu ih =>
    intro v1 v4 v6 v8 σ
    exact vB_Mo_better_54 g ih v1 v4 v6 v8 σ
def B_Mo_better_0 (a1 : Int32) (a2 : Int64) (a4 : Int64) (σ : Sto) : Option (Int64 × Sto) :=
  ((f_Mo_isOne a1 σ).bind fun q1 => (if (b2i q1.1) = 0 then some ((-2 : Int64), q1.2)
 else ((f_Mo_isSet a4 q1.2).bind fun q2 => (if (b2i q2.1) = 0 then some ((-2 : Int64), q2.2)
  else (if (a2 &&& (a4 ^^^ (-1 : Int64))) = (0 : Int64) then ((f_Mo_areRing a1 a2 q2.2).bind fun q3 => (if (b2i q3.1) = 0 then some ((-3 : Int64), q3.2)
    else L_Mo_better_54 LF a1 a4 (-1 : Int64) a2 q3.2))
   else some ((-3 : Int64), q2.2))))))
set_option maxHeartbeats 4000000 in
set_option maxRecDepth 100000 in
theorem vB_Mo_better_0 {X : Xt} {E : En} (g : GG X E 5 b_Mo_better R_Mo 10) (a1 : Int32) (a2 : Int64) (a4 : Int64) (σ : Sto) : VV X E b_Mo_better 10 eL 0 [(0, .ref (E.2.1 48)), (1, .int a1), (2, .long a2), (4, .long a4)] [] σ (B_Mo_better_0 a1 a2 a4 σ) := by
  unfold B_Mo_better_0
  refine v_iload_n 1 g d_Mo_better_0 rfl ?_
  refine v_callB (r_S (rest := []) [.int a1] g (m1 1203 (by decide +kernel) (by decide +kernel)) ys_Mo_isOne (fun r σ1 h => sp_Mo_isOne g.2.2.1  h) rfl rfl (by decide) (Nat.le_of_ble_eq_true rfl) d_Mo_better_1) (fun q1 => ?_)
  refine v_if_eq 16 g d_Mo_better_4 (by decide) (fun _ => ?_) (fun _ => ?_)
  · refine v_ldc2 (v := (-2 : Int64)) g (m1 1237 (by decide +kernel) (by decide +kernel)) d_Mo_better_16 ?_
    exact v_ret d_Mo_better_19 rfl
  · refine v_aload_n 0 g d_Mo_better_7 rfl ?_
    refine v_lload 3 g d_Mo_better_8 rfl ?_
    refine v_callB (r_V (rest := []) [.long a4] g (m1 1221 (by decide +kernel) (by decide +kernel)) yv_Mo_isSet rfl (fun r σ1 h => sp_Mo_isSet g.2.2.1  h) rfl rfl (by decide) (Nat.le_of_ble_eq_true rfl) d_Mo_better_10) (fun q2 => ?_)
    refine v_if_ne 20 g d_Mo_better_13 (by decide) (fun _ => ?_) (fun _ => ?_)
    · refine v_lload_n 2 g d_Mo_better_20 rfl ?_
      refine v_lload 3 g d_Mo_better_21 rfl ?_
      refine v_ldc2 (v := (-1 : Int64)) g (m1 1216 (by decide +kernel) (by decide +kernel)) d_Mo_better_23 ?_
      refine v_lxor g d_Mo_better_26 ?_
      refine v_land g d_Mo_better_27 ?_
      refine v_lconst (v := (0 : Int64)) g d_Mo_better_28 (by decide +kernel) ?_
      refine v_lcmp_ne 42 g d_Mo_better_29 d_Mo_better_30 (by decide) (fun _ => ?_) (fun _ => ?_)
      · refine v_ldc2 (v := (-3 : Int64)) g (m1 1376 (by decide +kernel) (by decide +kernel)) d_Mo_better_42 ?_
        exact v_ret d_Mo_better_45 rfl
      · refine v_aload_n 0 g d_Mo_better_33 rfl ?_
        refine v_iload_n 1 g d_Mo_better_34 rfl ?_
        refine v_lload_n 2 g d_Mo_better_35 rfl ?_
        refine v_callB (r_V (rest := []) [.int a1, .long a2] g (m1 1254 (by decide +kernel) (by decide +kernel)) yv_Mo_areRing rfl (fun r σ1 h => sp_Mo_areRing g.2.2.1  h) rfl rfl (by decide) (Nat.le_of_ble_eq_true rfl) d_Mo_better_36) (fun q3 => ?_)
        refine v_if_ne 46 g d_Mo_better_39 (by decide) (fun _ => ?_) (fun _ => ?_)
        · refine v_ldc2 (v := (-1 : Int64)) g (m1 1216 (by decide +kernel) (by decide +kernel)) d_Mo_better_46 ?_
          refine v_lstore [(6, .long (-1 : Int64)), (0, .ref (E.2.1 48)), (1, .int a1), (2, .long a2), (4, .long a4)] g d_Mo_better_49 (by decide) rfl ?_
          refine v_lload_n 3 g d_Mo_better_51 rfl ?_
          refine v_lstore [(8, .long a2), (6, .long (-1 : Int64)), (0, .ref (E.2.1 48)), (1, .int a1), (2, .long a2), (4, .long a4)] g d_Mo_better_52 (by decide) rfl ?_
          exact v_sub [2,3,5,1,0] rfl (vL_Mo_better_54 g LF a1 a4 (-1 : Int64) a2 q3.2)
        · refine v_ldc2 (v := (-3 : Int64)) g (m1 1376 (by decide +kernel) (by decide +kernel)) d_Mo_better_42 ?_
          exact v_ret d_Mo_better_45 rfl
    · refine v_ldc2 (v := (-2 : Int64)) g (m1 1237 (by decide +kernel) (by decide +kernel)) d_Mo_better_16 ?_
      exact v_ret d_Mo_better_19 rfl
def f_Mo_better (a1 : Int32) (a2 : Int64) (a4 : Int64) (σ : Sto) : Option (Int64 × Sto) := B_Mo_better_0 a1 a2 a4 σ
theorem sp_Mo_better {l : Launch} {E : En} (hE : Dj E) {a1 : Int32} {a2 : Int64} {a4 : Int64} {σ : Sto} {r : Int64} {σ' : Sto} (h : f_Mo_better a1 a2 a4 σ = some (r, σ')) : Ct l E y_Mo_better (wsM y_Mo_better b_Mo_better 10 (some .long)) 5 [.ref (E.2.1 48), .int a1, .long a2, .long a4] σ (eL r) σ' :=
  ct_of hE (by decide +kernel) (Nat.le_of_ble_eq_true rfl) (fun x => Or.inr (Or.inr (Or.inl ⟨rfl, x, rfl⟩))) (fun X _ g => vB_Mo_better_0 g a1 a2 a4 σ) r σ' h
/-! method FittingRingsModel.proves(IIIIJI)I -/
theorem yv_Mo_proves : YV y_Mo_proves b_Mo_proves 11 (some .int) 6 10 := ⟨m1 1391 (by decide +kernel) (by decide +kernel), m1 51 (by decide +kernel) (by decide +kernel), ini_Mo, m1 1392 (by decide +kernel) (by decide +kernel), ⟨by decide +kernel, by decide +kernel, by decide +kernel⟩, by decide, by decide, T_Mo, 39, rfl⟩
theorem d_Mo_proves_0 : decode b_Mo_proves 0 = .ok (.aload_n 0, 1) := by decide +kernel
theorem d_Mo_proves_1 : decode b_Mo_proves 1 = .ok (.getfield 238, 3) := by decide +kernel
theorem d_Mo_proves_4 : decode b_Mo_proves 4 = .ok (.sipush 200, 3) := by decide +kernel
theorem d_Mo_proves_7 : decode b_Mo_proves 7 = .ok (.if_icmp .ne 6, 3) := by decide +kernel
theorem d_Mo_proves_10 : decode b_Mo_proves 10 = .ok (.bipush (-5), 2) := by decide +kernel
theorem d_Mo_proves_12 : decode b_Mo_proves 12 = .ok (.ireturn, 1) := by decide +kernel
theorem d_Mo_proves_13 : decode b_Mo_proves 13 = .ok (.aload_n 0, 1) := by decide +kernel
theorem d_Mo_proves_14 : decode b_Mo_proves 14 = .ok (.getfield 238, 3) := by decide +kernel
theorem d_Mo_proves_17 : decode b_Mo_proves 17 = .ok (.istore 8, 2) := by decide +kernel
theorem d_Mo_proves_19 : decode b_Mo_proves 19 = .ok (.aload_n 0, 1) := by decide +kernel
theorem d_Mo_proves_20 : decode b_Mo_proves 20 = .ok (.dup, 1) := by decide +kernel
theorem d_Mo_proves_21 : decode b_Mo_proves 21 = .ok (.getfield 238, 3) := by decide +kernel
theorem d_Mo_proves_24 : decode b_Mo_proves 24 = .ok (.iconst 1, 1) := by decide +kernel
theorem d_Mo_proves_25 : decode b_Mo_proves 25 = .ok (.iadd, 1) := by decide +kernel
theorem d_Mo_proves_26 : decode b_Mo_proves 26 = .ok (.putfield 238, 3) := by decide +kernel
theorem d_Mo_proves_29 : decode b_Mo_proves 29 = .ok (.aload_n 0, 1) := by decide +kernel
theorem d_Mo_proves_30 : decode b_Mo_proves 30 = .ok (.getfield 47, 3) := by decide +kernel
theorem d_Mo_proves_33 : decode b_Mo_proves 33 = .ok (.iload 8, 2) := by decide +kernel
theorem d_Mo_proves_35 : decode b_Mo_proves 35 = .ok (.iconst (-1), 1) := by decide +kernel
theorem d_Mo_proves_36 : decode b_Mo_proves 36 = .ok (.iastore, 1) := by decide +kernel
theorem d_Mo_proves_37 : decode b_Mo_proves 37 = .ok (.iload 7, 2) := by decide +kernel
theorem d_Mo_proves_39 : decode b_Mo_proves 39 = .ok (.aload_n 0, 1) := by decide +kernel
theorem d_Mo_proves_40 : decode b_Mo_proves 40 = .ok (.iload_n 1, 1) := by decide +kernel
theorem d_Mo_proves_41 : decode b_Mo_proves 41 = .ok (.iload_n 2, 1) := by decide +kernel
theorem d_Mo_proves_42 : decode b_Mo_proves 42 = .ok (.iload_n 3, 1) := by decide +kernel
theorem d_Mo_proves_43 : decode b_Mo_proves 43 = .ok (.lload 5, 2) := by decide +kernel
theorem d_Mo_proves_45 : decode b_Mo_proves 45 = .ok (.invokevirtual 196, 3) := by decide +kernel
theorem d_Mo_proves_48 : decode b_Mo_proves 48 = .ok (.iadd, 1) := by decide +kernel
theorem d_Mo_proves_49 : decode b_Mo_proves 49 = .ok (.iload 4, 2) := by decide +kernel
theorem d_Mo_proves_51 : decode b_Mo_proves 51 = .ok (.if_icmp .gt 5, 3) := by decide +kernel
theorem d_Mo_proves_54 : decode b_Mo_proves 54 = .ok (.iconst 0, 1) := by decide +kernel
theorem d_Mo_proves_55 : decode b_Mo_proves 55 = .ok (.ireturn, 1) := by decide +kernel
theorem d_Mo_proves_56 : decode b_Mo_proves 56 = .ok (.lload 5, 2) := by decide +kernel
theorem d_Mo_proves_58 : decode b_Mo_proves 58 = .ok (.lconst 0, 1) := by decide +kernel
theorem d_Mo_proves_59 : decode b_Mo_proves 59 = .ok (.lcmp, 1) := by decide +kernel
theorem d_Mo_proves_60 : decode b_Mo_proves 60 = .ok (.ifCond .ne 5, 3) := by decide +kernel
theorem d_Mo_proves_63 : decode b_Mo_proves 63 = .ok (.iconst (-1), 1) := by decide +kernel
theorem d_Mo_proves_64 : decode b_Mo_proves 64 = .ok (.ireturn, 1) := by decide +kernel
theorem d_Mo_proves_65 : decode b_Mo_proves 65 = .ok (.aload_n 0, 1) := by decide +kernel
theorem d_Mo_proves_66 : decode b_Mo_proves 66 = .ok (.iload_n 2, 1) := by decide +kernel
theorem d_Mo_proves_67 : decode b_Mo_proves 67 = .ok (.lload 5, 2) := by decide +kernel
theorem d_Mo_proves_69 : decode b_Mo_proves 69 = .ok (.invokevirtual 165, 3) := by decide +kernel
theorem d_Mo_proves_72 : decode b_Mo_proves 72 = .ok (.aload_n 0, 1) := by decide +kernel
theorem d_Mo_proves_73 : decode b_Mo_proves 73 = .ok (.getfield 29, 3) := by decide +kernel
theorem d_Mo_proves_76 : decode b_Mo_proves 76 = .ok (.aload_n 0, 1) := by decide +kernel
theorem d_Mo_proves_77 : decode b_Mo_proves 77 = .ok (.getfield 156, 3) := by decide +kernel
theorem d_Mo_proves_80 : decode b_Mo_proves 80 = .ok (.iconst 1, 1) := by decide +kernel
theorem d_Mo_proves_81 : decode b_Mo_proves 81 = .ok (.isub, 1) := by decide +kernel
theorem d_Mo_proves_82 : decode b_Mo_proves 82 = .ok (.iaload, 1) := by decide +kernel
theorem d_Mo_proves_83 : decode b_Mo_proves 83 = .ok (.istore 9, 2) := by decide +kernel
theorem d_Mo_proves_85 : decode b_Mo_proves 85 = .ok (.aload_n 0, 1) := by decide +kernel
theorem d_Mo_proves_86 : decode b_Mo_proves 86 = .ok (.getfield 47, 3) := by decide +kernel
theorem d_Mo_proves_89 : decode b_Mo_proves 89 = .ok (.iload 8, 2) := by decide +kernel
theorem d_Mo_proves_91 : decode b_Mo_proves 91 = .ok (.iload 9, 2) := by decide +kernel
theorem d_Mo_proves_93 : decode b_Mo_proves 93 = .ok (.iastore, 1) := by decide +kernel
theorem d_Mo_proves_94 : decode b_Mo_proves 94 = .ok (.aload_n 0, 1) := by decide +kernel
theorem d_Mo_proves_95 : decode b_Mo_proves 95 = .ok (.iload_n 1, 1) := by decide +kernel
theorem d_Mo_proves_96 : decode b_Mo_proves 96 = .ok (.iload_n 2, 1) := by decide +kernel
theorem d_Mo_proves_97 : decode b_Mo_proves 97 = .ok (.iload_n 3, 1) := by decide +kernel
theorem d_Mo_proves_98 : decode b_Mo_proves 98 = .ok (.iload 4, 2) := by decide +kernel
theorem d_Mo_proves_100 : decode b_Mo_proves 100 = .ok (.aload_n 0, 1) := by decide +kernel
theorem d_Mo_proves_101 : decode b_Mo_proves 101 = .ok (.iload_n 2, 1) := by decide +kernel
theorem d_Mo_proves_102 : decode b_Mo_proves 102 = .ok (.iload 9, 2) := by decide +kernel
theorem d_Mo_proves_104 : decode b_Mo_proves 104 = .ok (.lload 5, 2) := by decide +kernel
theorem d_Mo_proves_106 : decode b_Mo_proves 106 = .ok (.invokevirtual 135, 3) := by decide +kernel
theorem d_Mo_proves_109 : decode b_Mo_proves 109 = .ok (.iload 7, 2) := by decide +kernel
theorem d_Mo_proves_111 : decode b_Mo_proves 111 = .ok (.aload_n 0, 1) := by decide +kernel
theorem d_Mo_proves_112 : decode b_Mo_proves 112 = .ok (.iload_n 3, 1) := by decide +kernel
theorem d_Mo_proves_113 : decode b_Mo_proves 113 = .ok (.iload 9, 2) := by decide +kernel
theorem d_Mo_proves_115 : decode b_Mo_proves 115 = .ok (.invokevirtual 141, 3) := by decide +kernel
theorem d_Mo_proves_118 : decode b_Mo_proves 118 = .ok (.iadd, 1) := by decide +kernel
theorem d_Mo_proves_119 : decode b_Mo_proves 119 = .ok (.invokevirtual 241, 3) := by decide +kernel
theorem d_Mo_proves_122 : decode b_Mo_proves 122 = .ok (.istore 10, 2) := by decide +kernel
theorem d_Mo_proves_124 : decode b_Mo_proves 124 = .ok (.iload 10, 2) := by decide +kernel
theorem d_Mo_proves_126 : decode b_Mo_proves 126 = .ok (.ifCond .eq 8, 3) := by decide +kernel
theorem d_Mo_proves_129 : decode b_Mo_proves 129 = .ok (.iload 10, 2) := by decide +kernel
theorem d_Mo_proves_131 : decode b_Mo_proves 131 = .ok (.goto 26, 3) := by decide +kernel
theorem d_Mo_proves_134 : decode b_Mo_proves 134 = .ok (.aload_n 0, 1) := by decide +kernel
theorem d_Mo_proves_135 : decode b_Mo_proves 135 = .ok (.iload_n 1, 1) := by decide +kernel
theorem d_Mo_proves_136 : decode b_Mo_proves 136 = .ok (.iload_n 2, 1) := by decide +kernel
theorem d_Mo_proves_137 : decode b_Mo_proves 137 = .ok (.iload_n 3, 1) := by decide +kernel
theorem d_Mo_proves_138 : decode b_Mo_proves 138 = .ok (.iload 4, 2) := by decide +kernel
theorem d_Mo_proves_140 : decode b_Mo_proves 140 = .ok (.lload 5, 2) := by decide +kernel
theorem d_Mo_proves_142 : decode b_Mo_proves 142 = .ok (.iload 9, 2) := by decide +kernel
theorem d_Mo_proves_144 : decode b_Mo_proves 144 = .ok (.invokestatic 110, 3) := by decide +kernel
theorem d_Mo_proves_147 : decode b_Mo_proves 147 = .ok (.ldc2_w 114, 3) := by decide +kernel
theorem d_Mo_proves_150 : decode b_Mo_proves 150 = .ok (.lxor, 1) := by decide +kernel
theorem d_Mo_proves_151 : decode b_Mo_proves 151 = .ok (.land, 1) := by decide +kernel
theorem d_Mo_proves_152 : decode b_Mo_proves 152 = .ok (.iload 7, 2) := by decide +kernel
theorem d_Mo_proves_154 : decode b_Mo_proves 154 = .ok (.invokevirtual 241, 3) := by decide +kernel
theorem d_Mo_proves_157 : decode b_Mo_proves 157 = .ok (.ireturn, 1) := by decide +kernel
def B_Mo_proves_0 (self : Int32 → Int32 → Int32 → Int32 → Int64 → Int32 → Sto → Option (Int32 × Sto)) (a1 : Int32) (a2 : Int32) (a3 : Int32) (a4 : Int32) (a5 : Int64) (a7 : Int32) (σ : Sto) : Option (Int32 × Sto) :=
  (if (gI σ 48 21) = (200 : Int32) then some ((-5 : Int32), σ)
 else (if inb (gI σ 48 21) 200 = true then (lt1 (sI (sI σ 48 21 ((gI σ 48 21) + (1 : Int32))) 61 (Int32.toNatClampNeg (gI σ 48 21)) (-1 : Int32)) fun σ1 => ((f_Mo_boundOf a1 a2 a3 a5 σ1).bind fun q2 => (if a4 < (a7 + q2.1) then (if a5 = (0 : Int64) then some ((-1 : Int32), q2.2)
   else ((f_Mo_lines a2 a5 q2.2).bind fun q3 => (if inb ((gI q3.2 48 10) - (1 : Int32)) 40 = true then (lt1 (gI q3.2 55 (Int32.toNatClampNeg ((gI q3.2 48 10) - (1 : Int32)))) fun x4 => (if inb (gI σ 48 21) 200 = true then ((f_Mo_fits a2 x4 a5 (sI q3.2 61 (Int32.toNatClampNeg (gI σ 48 21)) x4)).bind fun q5 => ((f_Mo_worth a3 x4 q5.2).bind fun q6 => ((self a1 a2 a3 a4 q5.1 (a7 + q6.1) q6.2).bind fun q7 => (if q7.1 = 0 then ((f_Mo_bit x4 q7.2).bind fun q8 => ((self a1 a2 a3 a4 (a5 &&& (q8.1 ^^^ (-1 : Int64))) a7 q8.2).bind fun q9 => some (q9.1, q9.2)))
    else some (q7.1, q7.2))))) else none)) else none)))
  else some ((0 : Int32), q2.2)))) else none))
set_option maxHeartbeats 4000000 in
set_option maxRecDepth 100000 in
theorem vB_Mo_proves_0 {X : Xt} {E : En} {hs : Nat} (hbs : 6 ≤ hs) (g : GG X E (1 + hs) b_Mo_proves R_Mo 11) {self : Int32 → Int32 → Int32 → Int32 → Int64 → Int32 → Sto → Option (Int32 × Sto)} (hself : ∀ (a1 : Int32) (a2 : Int32) (a3 : Int32) (a4 : Int32) (a5 : Int64) (a7 : Int32) (σ : Sto) {r : Int32} {σ' : Sto}, self a1 a2 a3 a4 a5 a7 σ = some (r, σ') → Ct (x_l X) E y_Mo_proves (wsM y_Mo_proves b_Mo_proves 11 (some .int)) hs [.ref (E.2.1 48), .int a1, .int a2, .int a3, .int a4, .long a5, .int a7] σ (eI r) σ') (a1 : Int32) (a2 : Int32) (a3 : Int32) (a4 : Int32) (a5 : Int64) (a7 : Int32) (σ : Sto) : VV X E b_Mo_proves 11 eI 0 [(0, .ref (E.2.1 48)), (1, .int a1), (2, .int a2), (3, .int a3), (4, .int a4), (5, .long a5), (7, .int a7)] [] σ (B_Mo_proves_0 self a1 a2 a3 a4 a5 a7 σ) := by
  unfold B_Mo_proves_0
  refine v_aload_n 0 g d_Mo_proves_0 rfl ?_
  refine v_getI g ff_Mo_238 rfl rfl d_Mo_proves_1 ?_
  refine v_sipush (v := (200 : Int32)) g d_Mo_proves_4 (by decide +kernel) ?_
  refine v_icmp_ne 13 g d_Mo_proves_7 (by decide) (fun _ => ?_) (fun _ => ?_)
  · refine v_aload_n 0 g d_Mo_proves_13 rfl ?_
    refine v_getI g ff_Mo_238 rfl rfl d_Mo_proves_14 ?_
    refine v_istore [(8, .int (gI σ 48 21)), (0, .ref (E.2.1 48)), (1, .int a1), (2, .int a2), (3, .int a3), (4, .int a4), (5, .long a5), (7, .int a7)] g d_Mo_proves_17 (by decide) rfl ?_
    refine v_aload_n 1 g d_Mo_proves_19 rfl ?_
    refine v_dup g d_Mo_proves_20 rfl ?_
    refine v_getI g ff_Mo_238 rfl rfl d_Mo_proves_21 ?_
    refine v_iconst (v := (1 : Int32)) g d_Mo_proves_24 (by decide +kernel) ?_
    refine v_iadd g d_Mo_proves_25 ?_
    refine v_putI g fp_Mo_238 rfl rfl d_Mo_proves_26 ?_
    refine v_aload_n 1 g d_Mo_proves_29 rfl ?_
    refine v_getR 61 g ff_Mo_47 rfl rfl rfl d_Mo_proves_30 ?_
    refine v_iload 0 g d_Mo_proves_33 rfl ?_
    refine v_iconst (v := (-1 : Int32)) g d_Mo_proves_35 (by decide +kernel) ?_
    refine v_iast g rfl rfl d_Mo_proves_36 (fun _ => ?_)
    refine v_nlet (fun σ1 eσ1 => ?_)
    rw [← eσ1]
    refine v_iload 7 g d_Mo_proves_37 rfl ?_
    refine v_aload_n 1 g d_Mo_proves_39 rfl ?_
    refine v_iload_n 2 g d_Mo_proves_40 rfl ?_
    refine v_iload_n 3 g d_Mo_proves_41 rfl ?_
    refine v_iload_n 4 g d_Mo_proves_42 rfl ?_
    refine v_lload 6 g d_Mo_proves_43 rfl ?_
    refine v_callI (r_V (rest := [.int a7]) [.int a1, .int a2, .int a3, .long a5] g (m1 1306 (by decide +kernel) (by decide +kernel)) yv_Mo_boundOf rfl (fun r σ1 h => sp_Mo_boundOf g.2.2.1  h) rfl rfl (by omega) (Nat.le_of_ble_eq_true rfl) d_Mo_proves_45) (fun q2 => ?_)
    refine v_iadd g d_Mo_proves_48 ?_
    refine v_iload 5 g d_Mo_proves_49 rfl ?_
    refine v_icmp_gt 56 g d_Mo_proves_51 (by decide) (fun _ => ?_) (fun _ => ?_)
    · refine v_lload 6 g d_Mo_proves_56 rfl ?_
      refine v_lconst (v := (0 : Int64)) g d_Mo_proves_58 (by decide +kernel) ?_
      refine v_lcmp_ne 65 g d_Mo_proves_59 d_Mo_proves_60 (by decide) (fun _ => ?_) (fun _ => ?_)
      · refine v_aload_n 1 g d_Mo_proves_65 rfl ?_
        refine v_iload_n 3 g d_Mo_proves_66 rfl ?_
        refine v_lload 6 g d_Mo_proves_67 rfl ?_
        refine v_callU (r_V (rest := []) [.int a2, .long a5] g (m1 1266 (by decide +kernel) (by decide +kernel)) yv_Mo_lines rfl (fun r σ1 h => sp_Mo_lines g.2.2.1  h) rfl rfl (by omega) (Nat.le_of_ble_eq_true rfl) d_Mo_proves_69) (fun q3 => ?_)
        refine v_aload_n 1 g d_Mo_proves_72 rfl ?_
        refine v_getR 55 g ff_Mo_29 rfl rfl rfl d_Mo_proves_73 ?_
        refine v_aload_n 1 g d_Mo_proves_76 rfl ?_
        refine v_getI g ff_Mo_156 rfl rfl d_Mo_proves_77 ?_
        refine v_iconst (v := (1 : Int32)) g d_Mo_proves_80 (by decide +kernel) ?_
        refine v_isub g d_Mo_proves_81 ?_
        refine v_iald g rfl rfl d_Mo_proves_82 (fun _ => ?_)
        refine v_nlet (fun x4 ex4 => ?_)
        rw [← ex4]
        refine v_istore [(9, .int x4), (8, .int (gI σ 48 21)), (0, .ref (E.2.1 48)), (1, .int a1), (2, .int a2), (3, .int a3), (4, .int a4), (5, .long a5), (7, .int a7)] g d_Mo_proves_83 (by decide) rfl ?_
        refine v_aload_n 2 g d_Mo_proves_85 rfl ?_
        refine v_getR 61 g ff_Mo_47 rfl rfl rfl d_Mo_proves_86 ?_
        refine v_iload 1 g d_Mo_proves_89 rfl ?_
        refine v_iload 0 g d_Mo_proves_91 rfl ?_
        refine v_iast g rfl rfl d_Mo_proves_93 (fun _ => ?_)
        refine v_aload_n 2 g d_Mo_proves_94 rfl ?_
        refine v_iload_n 3 g d_Mo_proves_95 rfl ?_
        refine v_iload_n 4 g d_Mo_proves_96 rfl ?_
        refine v_iload_n 5 g d_Mo_proves_97 rfl ?_
        refine v_iload 6 g d_Mo_proves_98 rfl ?_
        refine v_aload_n 2 g d_Mo_proves_100 rfl ?_
        refine v_iload_n 4 g d_Mo_proves_101 rfl ?_
        refine v_iload 0 g d_Mo_proves_102 rfl ?_
        refine v_lload 7 g d_Mo_proves_104 rfl ?_
        refine v_callL (r_V (rest := [.int a4, .int a3, .int a2, .int a1, .ref (E.2.1 48)]) [.int a2, .int x4, .long a5] g (m1 1233 (by decide +kernel) (by decide +kernel)) yv_Mo_fits rfl (fun r σ1 h => sp_Mo_fits g.2.2.1  h) rfl rfl (by omega) (Nat.le_of_ble_eq_true rfl) d_Mo_proves_106) (fun q5 => ?_)
        refine v_iload 8 g d_Mo_proves_109 rfl ?_
        refine v_aload_n 2 g d_Mo_proves_111 rfl ?_
        refine v_iload_n 5 g d_Mo_proves_112 rfl ?_
        refine v_iload 0 g d_Mo_proves_113 rfl ?_
        refine v_callI (r_V (rest := [.int a7, .long q5.1, .int a4, .int a3, .int a2, .int a1, .ref (E.2.1 48)]) [.int a3, .int x4] g (m1 1246 (by decide +kernel) (by decide +kernel)) yv_Mo_worth rfl (fun r σ1 h => sp_Mo_worth g.2.2.1  h) rfl rfl (by omega) (Nat.le_of_ble_eq_true rfl) d_Mo_proves_115) (fun q6 => ?_)
        refine v_iadd g d_Mo_proves_118 ?_
        refine v_callI (r_V (rest := []) [.int a1, .int a2, .int a3, .int a4, .long q5.1, .int (a7 + q6.1)] g (m1 1389 (by decide +kernel) (by decide +kernel)) yv_Mo_proves rfl (fun r σ1 h => hself a1 a2 a3 a4 q5.1 (a7 + q6.1) q6.2 h) rfl rfl (by omega) (Nat.le_of_ble_eq_true rfl) d_Mo_proves_119) (fun q7 => ?_)
        refine v_istore [(10, .int q7.1), (9, .int x4), (8, .int (gI σ 48 21)), (0, .ref (E.2.1 48)), (1, .int a1), (2, .int a2), (3, .int a3), (4, .int a4), (5, .long a5), (7, .int a7)] g d_Mo_proves_122 (by decide) rfl ?_
        refine v_iload 0 g d_Mo_proves_124 rfl ?_
        refine v_if_eq 134 g d_Mo_proves_126 (by decide) (fun _ => ?_) (fun _ => ?_)
        · refine v_aload_n 3 g d_Mo_proves_134 rfl ?_
          refine v_iload_n 4 g d_Mo_proves_135 rfl ?_
          refine v_iload_n 5 g d_Mo_proves_136 rfl ?_
          refine v_iload_n 6 g d_Mo_proves_137 rfl ?_
          refine v_iload 7 g d_Mo_proves_138 rfl ?_
          refine v_lload 8 g d_Mo_proves_140 rfl ?_
          refine v_iload 1 g d_Mo_proves_142 rfl ?_
          refine v_callL (r_S (rest := [.long a5, .int a4, .int a3, .int a2, .int a1, .ref (E.2.1 48)]) [.int x4] g (m1 1213 (by decide +kernel) (by decide +kernel)) ys_Mo_bit (fun r σ1 h => sp_Mo_bit g.2.2.1  h) rfl rfl (by omega) (Nat.le_of_ble_eq_true rfl) d_Mo_proves_144) (fun q8 => ?_)
          refine v_ldc2 (v := (-1 : Int64)) g (m1 1216 (by decide +kernel) (by decide +kernel)) d_Mo_proves_147 ?_
          refine v_lxor g d_Mo_proves_150 ?_
          refine v_land g d_Mo_proves_151 ?_
          refine v_iload 9 g d_Mo_proves_152 rfl ?_
          refine v_callI (r_V (rest := []) [.int a1, .int a2, .int a3, .int a4, .long (a5 &&& (q8.1 ^^^ (-1 : Int64))), .int a7] g (m1 1389 (by decide +kernel) (by decide +kernel)) yv_Mo_proves rfl (fun r σ1 h => hself a1 a2 a3 a4 (a5 &&& (q8.1 ^^^ (-1 : Int64))) a7 q8.2 h) rfl rfl (by omega) (Nat.le_of_ble_eq_true rfl) d_Mo_proves_154) (fun q9 => ?_)
          exact v_ret d_Mo_proves_157 rfl
        · refine v_iload 0 g d_Mo_proves_129 rfl ?_
          refine v_goto 157 g d_Mo_proves_131 (by decide) ?_
          exact v_ret d_Mo_proves_157 rfl
      · refine v_iconst (v := (-1 : Int32)) g d_Mo_proves_63 (by decide +kernel) ?_
        exact v_ret d_Mo_proves_64 rfl
    · refine v_iconst (v := (0 : Int32)) g d_Mo_proves_54 (by decide +kernel) ?_
      exact v_ret d_Mo_proves_55 rfl
  · refine v_bipush (v := (-5 : Int32)) g d_Mo_proves_10 (by decide +kernel) ?_
    exact v_ret d_Mo_proves_12 rfl
def f_Mo_proves : Nat → Int32 → Int32 → Int32 → Int32 → Int64 → Int32 → Sto → Option (Int32 × Sto)
  | 0, _, _, _, _, _, _, _ => none
  | fu + 1, a1, a2, a3, a4, a5, a7, σ => B_Mo_proves_0 (f_Mo_proves fu) a1 a2 a3 a4 a5 a7 σ
theorem sp_Mo_proves {l : Launch} {E : En} (hE : Dj E) (fu : Nat) : ∀ {a1 : Int32} {a2 : Int32} {a3 : Int32} {a4 : Int32} {a5 : Int64} {a7 : Int32} {σ : Sto} {r : Int32} {σ' : Sto}, f_Mo_proves fu a1 a2 a3 a4 a5 a7 σ = some (r, σ') → Ct l E y_Mo_proves (wsM y_Mo_proves b_Mo_proves 11 (some .int)) (6 + fu) [.ref (E.2.1 48), .int a1, .int a2, .int a3, .int a4, .long a5, .int a7] σ (eI r) σ' := by
  induction fu with
  | zero => intros; rename_i h; cases h
  | succ fu ih =>
    intro a1 a2 a3 a4 a5 a7 σ r σ' h
    exact ct_of hE (by decide +kernel) (Nat.le_of_ble_eq_true rfl) (fun x => Or.inl ⟨rfl, x, rfl⟩) (fun X hX g => vB_Mo_proves_0 (hs := 6 + fu) (by omega) (by rw [show 1 + (6 + fu) = 6 + (fu + 1) by omega]; exact g) (fun _ _ _ _ _ _ _ _ _ hh => by rw [hX]; exact ih hh) a1 a2 a3 a4 a5 a7 σ) r σ' h
/-! method FittingRingsModel.isProved(IIIIJ)Z -/
theorem yv_Mo_isProved : YV y_Mo_isProved b_Mo_isProved 7 (some .boolean) 5 10 := ⟨m1 1387 (by decide +kernel) (by decide +kernel), m1 50 (by decide +kernel) (by decide +kernel), ini_Mo, m1 1388 (by decide +kernel) (by decide +kernel), ⟨by decide +kernel, by decide +kernel, by decide +kernel⟩, by decide, by decide, T_Mo, 39, rfl⟩
theorem d_Mo_isProved_0 : decode b_Mo_isProved 0 = .ok (.iload_n 1, 1) := by decide +kernel
theorem d_Mo_isProved_1 : decode b_Mo_isProved 1 = .ok (.invokestatic 193, 3) := by decide +kernel
theorem d_Mo_isProved_4 : decode b_Mo_isProved 4 = .ok (.ifCond .eq 35, 3) := by decide +kernel
theorem d_Mo_isProved_7 : decode b_Mo_isProved 7 = .ok (.iload_n 2, 1) := by decide +kernel
theorem d_Mo_isProved_8 : decode b_Mo_isProved 8 = .ok (.invokestatic 116, 3) := by decide +kernel
theorem d_Mo_isProved_11 : decode b_Mo_isProved 11 = .ok (.ifCond .eq 28, 3) := by decide +kernel
theorem d_Mo_isProved_14 : decode b_Mo_isProved 14 = .ok (.iload_n 3, 1) := by decide +kernel
theorem d_Mo_isProved_15 : decode b_Mo_isProved 15 = .ok (.invokestatic 116, 3) := by decide +kernel
theorem d_Mo_isProved_18 : decode b_Mo_isProved 18 = .ok (.ifCond .eq 21, 3) := by decide +kernel
theorem d_Mo_isProved_21 : decode b_Mo_isProved 21 = .ok (.iload 4, 2) := by decide +kernel
theorem d_Mo_isProved_23 : decode b_Mo_isProved 23 = .ok (.ifCond .lt 16, 3) := by decide +kernel
theorem d_Mo_isProved_26 : decode b_Mo_isProved 26 = .ok (.aload_n 0, 1) := by decide +kernel
theorem d_Mo_isProved_27 : decode b_Mo_isProved 27 = .ok (.lload 5, 2) := by decide +kernel
theorem d_Mo_isProved_29 : decode b_Mo_isProved 29 = .ok (.invokevirtual 127, 3) := by decide +kernel
theorem d_Mo_isProved_32 : decode b_Mo_isProved 32 = .ok (.ifCond .eq 7, 3) := by decide +kernel
theorem d_Mo_isProved_35 : decode b_Mo_isProved 35 = .ok (.iconst 1, 1) := by decide +kernel
theorem d_Mo_isProved_36 : decode b_Mo_isProved 36 = .ok (.goto 4, 3) := by decide +kernel
theorem d_Mo_isProved_39 : decode b_Mo_isProved 39 = .ok (.iconst 0, 1) := by decide +kernel
theorem d_Mo_isProved_40 : decode b_Mo_isProved 40 = .ok (.ireturn, 1) := by decide +kernel
def B_Mo_isProved_0 (a1 : Int32) (a2 : Int32) (a3 : Int32) (a4 : Int32) (a5 : Int64) (σ : Sto) : Option (Bool × Sto) :=
  ((f_Mo_isRule a1 σ).bind fun q1 => (if (b2i q1.1) = 0 then some (false, q1.2)
 else ((f_Mo_isOne a2 q1.2).bind fun q2 => (if (b2i q2.1) = 0 then some (false, q2.2)
  else ((f_Mo_isOne a3 q2.2).bind fun q3 => (if (b2i q3.1) = 0 then some (false, q3.2)
   else (if a4 < 0 then some (false, q3.2)
    else ((f_Mo_isSet a5 q3.2).bind fun q4 => (if (b2i q4.1) = 0 then some (false, q4.2)
     else some (true, q4.2))))))))))
set_option maxHeartbeats 4000000 in
set_option maxRecDepth 100000 in
theorem vB_Mo_isProved_0 {X : Xt} {E : En} (g : GG X E 3 b_Mo_isProved R_Mo 7) (a1 : Int32) (a2 : Int32) (a3 : Int32) (a4 : Int32) (a5 : Int64) (σ : Sto) : VV X E b_Mo_isProved 7 eB 0 [(0, .ref (E.2.1 48)), (1, .int a1), (2, .int a2), (3, .int a3), (4, .int a4), (5, .long a5)] [] σ (B_Mo_isProved_0 a1 a2 a3 a4 a5 σ) := by
  unfold B_Mo_isProved_0
  refine v_iload_n 1 g d_Mo_isProved_0 rfl ?_
  refine v_callB (r_S (rest := []) [.int a1] g (m1 1302 (by decide +kernel) (by decide +kernel)) ys_Mo_isRule (fun r σ1 h => sp_Mo_isRule g.2.2.1  h) rfl rfl (by decide) (Nat.le_of_ble_eq_true rfl) d_Mo_isProved_1) (fun q1 => ?_)
  refine v_if_eq 39 g d_Mo_isProved_4 (by decide) (fun _ => ?_) (fun _ => ?_)
  · refine v_iconst (v := (0 : Int32)) g d_Mo_isProved_39 (by decide +kernel) ?_
    exact v_ret d_Mo_isProved_40 rfl
  · refine v_iload_n 2 g d_Mo_isProved_7 rfl ?_
    refine v_callB (r_S (rest := []) [.int a2] g (m1 1203 (by decide +kernel) (by decide +kernel)) ys_Mo_isOne (fun r σ1 h => sp_Mo_isOne g.2.2.1  h) rfl rfl (by decide) (Nat.le_of_ble_eq_true rfl) d_Mo_isProved_8) (fun q2 => ?_)
    refine v_if_eq 39 g d_Mo_isProved_11 (by decide) (fun _ => ?_) (fun _ => ?_)
    · refine v_iconst (v := (0 : Int32)) g d_Mo_isProved_39 (by decide +kernel) ?_
      exact v_ret d_Mo_isProved_40 rfl
    · refine v_iload_n 3 g d_Mo_isProved_14 rfl ?_
      refine v_callB (r_S (rest := []) [.int a3] g (m1 1203 (by decide +kernel) (by decide +kernel)) ys_Mo_isOne (fun r σ1 h => sp_Mo_isOne g.2.2.1  h) rfl rfl (by decide) (Nat.le_of_ble_eq_true rfl) d_Mo_isProved_15) (fun q3 => ?_)
      refine v_if_eq 39 g d_Mo_isProved_18 (by decide) (fun _ => ?_) (fun _ => ?_)
      · refine v_iconst (v := (0 : Int32)) g d_Mo_isProved_39 (by decide +kernel) ?_
        exact v_ret d_Mo_isProved_40 rfl
      · refine v_iload 4 g d_Mo_isProved_21 rfl ?_
        refine v_if_lt 39 g d_Mo_isProved_23 (by decide) (fun _ => ?_) (fun _ => ?_)
        · refine v_iconst (v := (0 : Int32)) g d_Mo_isProved_39 (by decide +kernel) ?_
          exact v_ret d_Mo_isProved_40 rfl
        · refine v_aload_n 0 g d_Mo_isProved_26 rfl ?_
          refine v_lload 5 g d_Mo_isProved_27 rfl ?_
          refine v_callB (r_V (rest := []) [.long a5] g (m1 1221 (by decide +kernel) (by decide +kernel)) yv_Mo_isSet rfl (fun r σ1 h => sp_Mo_isSet g.2.2.1  h) rfl rfl (by decide) (Nat.le_of_ble_eq_true rfl) d_Mo_isProved_29) (fun q4 => ?_)
          refine v_if_eq 39 g d_Mo_isProved_32 (by decide) (fun _ => ?_) (fun _ => ?_)
          · refine v_iconst (v := (0 : Int32)) g d_Mo_isProved_39 (by decide +kernel) ?_
            exact v_ret d_Mo_isProved_40 rfl
          · refine v_iconst (v := (1 : Int32)) g d_Mo_isProved_35 (by decide +kernel) ?_
            refine v_goto 40 g d_Mo_isProved_36 (by decide) ?_
            exact v_ret d_Mo_isProved_40 rfl
def f_Mo_isProved (a1 : Int32) (a2 : Int32) (a3 : Int32) (a4 : Int32) (a5 : Int64) (σ : Sto) : Option (Bool × Sto) := B_Mo_isProved_0 a1 a2 a3 a4 a5 σ
theorem sp_Mo_isProved {l : Launch} {E : En} (hE : Dj E) {a1 : Int32} {a2 : Int32} {a3 : Int32} {a4 : Int32} {a5 : Int64} {σ : Sto} {r : Bool} {σ' : Sto} (h : f_Mo_isProved a1 a2 a3 a4 a5 σ = some (r, σ')) : Ct l E y_Mo_isProved (wsM y_Mo_isProved b_Mo_isProved 7 (some .boolean)) 3 [.ref (E.2.1 48), .int a1, .int a2, .int a3, .int a4, .long a5] σ (eB r) σ' :=
  ct_of hE (by decide +kernel) (Nat.le_of_ble_eq_true rfl) (fun b => Or.inr (Or.inl ⟨rfl, b, rfl⟩)) (fun X _ g => vB_Mo_isProved_0 g a1 a2 a3 a4 a5 σ) r σ' h
/-! method FittingRingsModel.prove(IIIIJ)I -/
theorem yv_Mo_prove : YV y_Mo_prove b_Mo_prove 9 (some .int) 5 10 := ⟨m1 1382 (by decide +kernel) (by decide +kernel), m1 1383 (by decide +kernel) (by decide +kernel), ini_Mo, m1 1384 (by decide +kernel) (by decide +kernel), ⟨by decide +kernel, by decide +kernel, by decide +kernel⟩, by decide, by decide, T_Mo, 39, rfl⟩
theorem d_Mo_prove_0 : decode b_Mo_prove 0 = .ok (.aload_n 0, 1) := by decide +kernel
theorem d_Mo_prove_1 : decode b_Mo_prove 1 = .ok (.iload_n 1, 1) := by decide +kernel
theorem d_Mo_prove_2 : decode b_Mo_prove 2 = .ok (.iload_n 2, 1) := by decide +kernel
theorem d_Mo_prove_3 : decode b_Mo_prove 3 = .ok (.iload_n 3, 1) := by decide +kernel
theorem d_Mo_prove_4 : decode b_Mo_prove 4 = .ok (.iload 4, 2) := by decide +kernel
theorem d_Mo_prove_6 : decode b_Mo_prove 6 = .ok (.lload 5, 2) := by decide +kernel
theorem d_Mo_prove_8 : decode b_Mo_prove 8 = .ok (.invokevirtual 245, 3) := by decide +kernel
theorem d_Mo_prove_11 : decode b_Mo_prove 11 = .ok (.ifCond .ne 6, 3) := by decide +kernel
theorem d_Mo_prove_14 : decode b_Mo_prove 14 = .ok (.bipush (-2), 2) := by decide +kernel
theorem d_Mo_prove_16 : decode b_Mo_prove 16 = .ok (.ireturn, 1) := by decide +kernel
theorem d_Mo_prove_17 : decode b_Mo_prove 17 = .ok (.aload_n 0, 1) := by decide +kernel
theorem d_Mo_prove_18 : decode b_Mo_prove 18 = .ok (.iconst 0, 1) := by decide +kernel
theorem d_Mo_prove_19 : decode b_Mo_prove 19 = .ok (.putfield 238, 3) := by decide +kernel
theorem d_Mo_prove_22 : decode b_Mo_prove 22 = .ok (.aload_n 0, 1) := by decide +kernel
theorem d_Mo_prove_23 : decode b_Mo_prove 23 = .ok (.iload_n 1, 1) := by decide +kernel
theorem d_Mo_prove_24 : decode b_Mo_prove 24 = .ok (.iload_n 2, 1) := by decide +kernel
theorem d_Mo_prove_25 : decode b_Mo_prove 25 = .ok (.iload_n 3, 1) := by decide +kernel
theorem d_Mo_prove_26 : decode b_Mo_prove 26 = .ok (.iload 4, 2) := by decide +kernel
theorem d_Mo_prove_28 : decode b_Mo_prove 28 = .ok (.lload 5, 2) := by decide +kernel
theorem d_Mo_prove_30 : decode b_Mo_prove 30 = .ok (.iconst 0, 1) := by decide +kernel
theorem d_Mo_prove_31 : decode b_Mo_prove 31 = .ok (.invokevirtual 241, 3) := by decide +kernel
theorem d_Mo_prove_34 : decode b_Mo_prove 34 = .ok (.istore 7, 2) := by decide +kernel
theorem d_Mo_prove_36 : decode b_Mo_prove 36 = .ok (.iload 7, 2) := by decide +kernel
theorem d_Mo_prove_38 : decode b_Mo_prove 38 = .ok (.ifCond .eq 6, 3) := by decide +kernel
theorem d_Mo_prove_41 : decode b_Mo_prove 41 = .ok (.iload 7, 2) := by decide +kernel
theorem d_Mo_prove_43 : decode b_Mo_prove 43 = .ok (.ireturn, 1) := by decide +kernel
theorem d_Mo_prove_44 : decode b_Mo_prove 44 = .ok (.aload_n 0, 1) := by decide +kernel
theorem d_Mo_prove_45 : decode b_Mo_prove 45 = .ok (.aload_n 0, 1) := by decide +kernel
theorem d_Mo_prove_46 : decode b_Mo_prove 46 = .ok (.getfield 238, 3) := by decide +kernel
theorem d_Mo_prove_49 : decode b_Mo_prove 49 = .ok (.putfield 249, 3) := by decide +kernel
theorem d_Mo_prove_52 : decode b_Mo_prove 52 = .ok (.iconst 0, 1) := by decide +kernel
theorem d_Mo_prove_53 : decode b_Mo_prove 53 = .ok (.istore 8, 2) := by decide +kernel
theorem d_Mo_prove_55 : decode b_Mo_prove 55 = .ok (.iload 8, 2) := by decide +kernel
theorem d_Mo_prove_57 : decode b_Mo_prove 57 = .ok (.aload_n 0, 1) := by decide +kernel
theorem d_Mo_prove_58 : decode b_Mo_prove 58 = .ok (.getfield 249, 3) := by decide +kernel
theorem d_Mo_prove_61 : decode b_Mo_prove 61 = .ok (.if_icmp .ge 23, 3) := by decide +kernel
theorem d_Mo_prove_64 : decode b_Mo_prove 64 = .ok (.aload_n 0, 1) := by decide +kernel
theorem d_Mo_prove_65 : decode b_Mo_prove 65 = .ok (.getfield 44, 3) := by decide +kernel
theorem d_Mo_prove_68 : decode b_Mo_prove 68 = .ok (.iload 8, 2) := by decide +kernel
theorem d_Mo_prove_70 : decode b_Mo_prove 70 = .ok (.aload_n 0, 1) := by decide +kernel
theorem d_Mo_prove_71 : decode b_Mo_prove 71 = .ok (.getfield 47, 3) := by decide +kernel
theorem d_Mo_prove_74 : decode b_Mo_prove 74 = .ok (.iload 8, 2) := by decide +kernel
theorem d_Mo_prove_76 : decode b_Mo_prove 76 = .ok (.iaload, 1) := by decide +kernel
theorem d_Mo_prove_77 : decode b_Mo_prove 77 = .ok (.iastore, 1) := by decide +kernel
theorem d_Mo_prove_78 : decode b_Mo_prove 78 = .ok (.iinc 8 1, 3) := by decide +kernel
theorem d_Mo_prove_81 : decode b_Mo_prove 81 = .ok (.goto (-26), 3) := by decide +kernel
theorem d_Mo_prove_84 : decode b_Mo_prove 84 = .ok (.aload_n 0, 1) := by decide +kernel
theorem d_Mo_prove_85 : decode b_Mo_prove 85 = .ok (.getfield 249, 3) := by decide +kernel
theorem d_Mo_prove_88 : decode b_Mo_prove 88 = .ok (.ireturn, 1) := by decide +kernel
def B_Mo_prove_55 (k55 : Int32 → Sto → Option (Int32 × Sto)) (v8 : Int32) (σ : Sto) : Option (Int32 × Sto) :=
  (if (gI σ 48 19) ≤ v8 then some ((gI σ 48 19), σ)
 else (if inb v8 200 = true then (if inb v8 200 = true then (lt1 (sI σ 60 (Int32.toNatClampNeg v8) (gI σ 61 (Int32.toNatClampNeg v8))) fun σ3 => k55 (v8 + (1 : Int32)) σ3) else none) else none))
set_option maxHeartbeats 4000000 in
set_option maxRecDepth 100000 in
theorem vB_Mo_prove_55 {X : Xt} {E : En} (g : GG X E 72 b_Mo_prove R_Mo 9) {k55 : Int32 → Sto → Option (Int32 × Sto)} (hk55 : ∀ (v8 : Int32) (σ : Sto), VV X E b_Mo_prove 9 eI 55 [(0, .ref (E.2.1 48)), (8, .int v8)] [] σ (k55 v8 σ)) (v8 : Int32) (σ : Sto) : VV X E b_Mo_prove 9 eI 55 [(0, .ref (E.2.1 48)), (8, .int v8)] [] σ (B_Mo_prove_55 k55 v8 σ) := by
  unfold B_Mo_prove_55
  refine v_iload 1 g d_Mo_prove_55 rfl ?_
  refine v_aload_n 0 g d_Mo_prove_57 rfl ?_
  refine v_getI g ff_Mo_249 rfl rfl d_Mo_prove_58 ?_
  refine v_icmp_ge 84 g d_Mo_prove_61 (by decide) (fun _ => ?_) (fun _ => ?_)
  · refine v_aload_n 0 g d_Mo_prove_84 rfl ?_
    refine v_getI g ff_Mo_249 rfl rfl d_Mo_prove_85 ?_
    exact v_ret d_Mo_prove_88 rfl
  · refine v_aload_n 0 g d_Mo_prove_64 rfl ?_
    refine v_getR 60 g ff_Mo_44 rfl rfl rfl d_Mo_prove_65 ?_
    refine v_iload 1 g d_Mo_prove_68 rfl ?_
    refine v_aload_n 0 g d_Mo_prove_70 rfl ?_
    refine v_getR 61 g ff_Mo_47 rfl rfl rfl d_Mo_prove_71 ?_
    refine v_iload 1 g d_Mo_prove_74 rfl ?_
    refine v_iald g rfl rfl d_Mo_prove_76 (fun _ => ?_)
    refine v_iast g rfl rfl d_Mo_prove_77 (fun _ => ?_)
    refine v_nlet (fun σ3 eσ3 => ?_)
    rw [← eσ3]
    refine v_iinc 1 [(8, .int (v8 + (1 : Int32))), (0, .ref (E.2.1 48))] g d_Mo_prove_78 rfl (v := (1 : Int32)) (by decide +kernel) (by decide) rfl ?_
    refine v_goto 55 g d_Mo_prove_81 (by decide) ?_
    exact v_sub [1,0] rfl (hk55 (v8 + (1 : Int32)) σ3)
def L_Mo_prove_55 : Nat → Int32 → Sto → Option (Int32 × Sto)
  | 0, _, _ => none
  | fu + 1, v8, σ => B_Mo_prove_55 (L_Mo_prove_55 fu) v8 σ
theorem vL_Mo_prove_55 {X : Xt} {E : En} (g : GG X E 72 b_Mo_prove R_Mo 9) (fu : Nat) : ∀ (v8 : Int32) (σ : Sto), VV X E b_Mo_prove 9 eI 55 [(0, .ref (E.2.1 48)), (8, .int v8)] [] σ (L_Mo_prove_55 fu v8 σ) := by
  induction fu with
  | zero => intros; exact v_none
  | succ fu ih =>
    intro v8 σ
    exact vB_Mo_prove_55 g ih v8 σ
def B_Mo_prove_0 (a1 : Int32) (a2 : Int32) (a3 : Int32) (a4 : Int32) (a5 : Int64) (σ : Sto) : Option (Int32 × Sto) :=
  ((f_Mo_isProved a1 a2 a3 a4 a5 σ).bind fun q1 => (if (b2i q1.1) = 0 then some ((-2 : Int32), q1.2)
 else ((f_Mo_proves 64 a1 a2 a3 a4 a5 (0 : Int32) (sI q1.2 48 21 (0 : Int32))).bind fun q2 => (if q2.1 = 0 then L_Mo_prove_55 LF (0 : Int32) (sI q2.2 48 19 (gI q2.2 48 21))
  else some (q2.1, q2.2)))))
set_option maxHeartbeats 4000000 in
set_option maxRecDepth 100000 in
theorem vB_Mo_prove_0 {X : Xt} {E : En} (g : GG X E 72 b_Mo_prove R_Mo 9) (a1 : Int32) (a2 : Int32) (a3 : Int32) (a4 : Int32) (a5 : Int64) (σ : Sto) : VV X E b_Mo_prove 9 eI 0 [(0, .ref (E.2.1 48)), (1, .int a1), (2, .int a2), (3, .int a3), (4, .int a4), (5, .long a5)] [] σ (B_Mo_prove_0 a1 a2 a3 a4 a5 σ) := by
  unfold B_Mo_prove_0
  refine v_aload_n 0 g d_Mo_prove_0 rfl ?_
  refine v_iload_n 1 g d_Mo_prove_1 rfl ?_
  refine v_iload_n 2 g d_Mo_prove_2 rfl ?_
  refine v_iload_n 3 g d_Mo_prove_3 rfl ?_
  refine v_iload 4 g d_Mo_prove_4 rfl ?_
  refine v_lload 5 g d_Mo_prove_6 rfl ?_
  refine v_callB (r_V (rest := []) [.int a1, .int a2, .int a3, .int a4, .long a5] g (m1 1385 (by decide +kernel) (by decide +kernel)) yv_Mo_isProved rfl (fun r σ1 h => sp_Mo_isProved g.2.2.1  h) rfl rfl (by decide) (Nat.le_of_ble_eq_true rfl) d_Mo_prove_8) (fun q1 => ?_)
  refine v_if_ne 17 g d_Mo_prove_11 (by decide) (fun _ => ?_) (fun _ => ?_)
  · refine v_aload_n 0 g d_Mo_prove_17 rfl ?_
    refine v_iconst (v := (0 : Int32)) g d_Mo_prove_18 (by decide +kernel) ?_
    refine v_putI g fp_Mo_238 rfl rfl d_Mo_prove_19 ?_
    refine v_aload_n 0 g d_Mo_prove_22 rfl ?_
    refine v_iload_n 1 g d_Mo_prove_23 rfl ?_
    refine v_iload_n 2 g d_Mo_prove_24 rfl ?_
    refine v_iload_n 3 g d_Mo_prove_25 rfl ?_
    refine v_iload 4 g d_Mo_prove_26 rfl ?_
    refine v_lload 5 g d_Mo_prove_28 rfl ?_
    refine v_iconst (v := (0 : Int32)) g d_Mo_prove_30 (by decide +kernel) ?_
    refine v_callI (r_V (rest := []) [.int a1, .int a2, .int a3, .int a4, .long a5, .int (0 : Int32)] g (m1 1389 (by decide +kernel) (by decide +kernel)) yv_Mo_proves rfl (fun r σ1 h => sp_Mo_proves g.2.2.1 64  h) rfl rfl (by decide) (Nat.le_of_ble_eq_true rfl) d_Mo_prove_31) (fun q2 => ?_)
    refine v_istore [(7, .int q2.1), (0, .ref (E.2.1 48)), (1, .int a1), (2, .int a2), (3, .int a3), (4, .int a4), (5, .long a5)] g d_Mo_prove_34 (by decide) rfl ?_
    refine v_iload 0 g d_Mo_prove_36 rfl ?_
    refine v_if_eq 44 g d_Mo_prove_38 (by decide) (fun _ => ?_) (fun _ => ?_)
    · refine v_aload_n 1 g d_Mo_prove_44 rfl ?_
      refine v_aload_n 1 g d_Mo_prove_45 rfl ?_
      refine v_getI g ff_Mo_238 rfl rfl d_Mo_prove_46 ?_
      refine v_putI g fp_Mo_249 rfl rfl d_Mo_prove_49 ?_
      refine v_iconst (v := (0 : Int32)) g d_Mo_prove_52 (by decide +kernel) ?_
      refine v_istore [(8, .int (0 : Int32)), (7, .int q2.1), (0, .ref (E.2.1 48)), (1, .int a1), (2, .int a2), (3, .int a3), (4, .int a4), (5, .long a5)] g d_Mo_prove_53 (by decide) rfl ?_
      exact v_sub [2,0] rfl (vL_Mo_prove_55 g LF (0 : Int32) (sI q2.2 48 19 (gI q2.2 48 21)))
    · refine v_iload 0 g d_Mo_prove_41 rfl ?_
      exact v_ret d_Mo_prove_43 rfl
  · refine v_bipush (v := (-2 : Int32)) g d_Mo_prove_14 (by decide +kernel) ?_
    exact v_ret d_Mo_prove_16 rfl
def f_Mo_prove (a1 : Int32) (a2 : Int32) (a3 : Int32) (a4 : Int32) (a5 : Int64) (σ : Sto) : Option (Int32 × Sto) := B_Mo_prove_0 a1 a2 a3 a4 a5 σ
theorem sp_Mo_prove {l : Launch} {E : En} (hE : Dj E) {a1 : Int32} {a2 : Int32} {a3 : Int32} {a4 : Int32} {a5 : Int64} {σ : Sto} {r : Int32} {σ' : Sto} (h : f_Mo_prove a1 a2 a3 a4 a5 σ = some (r, σ')) : Ct l E y_Mo_prove (wsM y_Mo_prove b_Mo_prove 9 (some .int)) 72 [.ref (E.2.1 48), .int a1, .int a2, .int a3, .int a4, .long a5] σ (eI r) σ' :=
  ct_of hE (by decide +kernel) (Nat.le_of_ble_eq_true rfl) (fun x => Or.inl ⟨rfl, x, rfl⟩) (fun X _ g => vB_Mo_prove_0 g a1 a2 a3 a4 a5 σ) r σ' h
/-! method FittingRingsModel.proof(I)I -/
theorem yv_Mo_proof : YV y_Mo_proof b_Mo_proof 2 (some .int) 1 10 := ⟨m1 1394 (by decide +kernel) (by decide +kernel), m1 1395 (by decide +kernel) (by decide +kernel), ini_Mo, m1 1396 (by decide +kernel) (by decide +kernel), ⟨by decide +kernel, by decide +kernel, by decide +kernel⟩, by decide, by decide, T_Mo, 39, rfl⟩
theorem d_Mo_proof_0 : decode b_Mo_proof 0 = .ok (.iload_n 1, 1) := by decide +kernel
theorem d_Mo_proof_1 : decode b_Mo_proof 1 = .ok (.i2l, 1) := by decide +kernel
theorem d_Mo_proof_2 : decode b_Mo_proof 2 = .ok (.lconst 0, 1) := by decide +kernel
theorem d_Mo_proof_3 : decode b_Mo_proof 3 = .ok (.aload_n 0, 1) := by decide +kernel
theorem d_Mo_proof_4 : decode b_Mo_proof 4 = .ok (.getfield 249, 3) := by decide +kernel
theorem d_Mo_proof_7 : decode b_Mo_proof 7 = .ok (.iconst 1, 1) := by decide +kernel
theorem d_Mo_proof_8 : decode b_Mo_proof 8 = .ok (.isub, 1) := by decide +kernel
theorem d_Mo_proof_9 : decode b_Mo_proof 9 = .ok (.i2l, 1) := by decide +kernel
theorem d_Mo_proof_10 : decode b_Mo_proof 10 = .ok (.invokestatic 84, 3) := by decide +kernel
theorem d_Mo_proof_13 : decode b_Mo_proof 13 = .ok (.ifCond .eq 12, 3) := by decide +kernel
theorem d_Mo_proof_16 : decode b_Mo_proof 16 = .ok (.aload_n 0, 1) := by decide +kernel
theorem d_Mo_proof_17 : decode b_Mo_proof 17 = .ok (.getfield 44, 3) := by decide +kernel
theorem d_Mo_proof_20 : decode b_Mo_proof 20 = .ok (.iload_n 1, 1) := by decide +kernel
theorem d_Mo_proof_21 : decode b_Mo_proof 21 = .ok (.iaload, 1) := by decide +kernel
theorem d_Mo_proof_22 : decode b_Mo_proof 22 = .ok (.goto 5, 3) := by decide +kernel
theorem d_Mo_proof_25 : decode b_Mo_proof 25 = .ok (.bipush (-12), 2) := by decide +kernel
theorem d_Mo_proof_27 : decode b_Mo_proof 27 = .ok (.ireturn, 1) := by decide +kernel
def B_Mo_proof_0 (a1 : Int32) (σ : Sto) : Option (Int32 × Sto) :=
  ((f_Mo_in (Int32.toInt64 a1) (0 : Int64) (Int32.toInt64 ((gI σ 48 19) - (1 : Int32))) σ).bind fun q1 => (if (b2i q1.1) = 0 then some ((-12 : Int32), q1.2)
 else (if inb a1 200 = true then some ((gI q1.2 60 (Int32.toNatClampNeg a1)), q1.2) else none)))
set_option maxHeartbeats 4000000 in
set_option maxRecDepth 100000 in
theorem vB_Mo_proof_0 {X : Xt} {E : En} (g : GG X E 2 b_Mo_proof R_Mo 2) (a1 : Int32) (σ : Sto) : VV X E b_Mo_proof 2 eI 0 [(0, .ref (E.2.1 48)), (1, .int a1)] [] σ (B_Mo_proof_0 a1 σ) := by
  unfold B_Mo_proof_0
  refine v_iload_n 1 g d_Mo_proof_0 rfl ?_
  refine v_i2l g d_Mo_proof_1 ?_
  refine v_lconst (v := (0 : Int64)) g d_Mo_proof_2 (by decide +kernel) ?_
  refine v_aload_n 0 g d_Mo_proof_3 rfl ?_
  refine v_getI g ff_Mo_249 rfl rfl d_Mo_proof_4 ?_
  refine v_iconst (v := (1 : Int32)) g d_Mo_proof_7 (by decide +kernel) ?_
  refine v_isub g d_Mo_proof_8 ?_
  refine v_i2l g d_Mo_proof_9 ?_
  refine v_callB (r_S (rest := []) [.long (Int32.toInt64 a1), .long (0 : Int64), .long (Int32.toInt64 ((gI σ 48 19) - (1 : Int32)))] g (m1 1167 (by decide +kernel) (by decide +kernel)) ys_Mo_in (fun r σ1 h => sp_Mo_in g.2.2.1  h) rfl rfl (by decide) (Nat.le_of_ble_eq_true rfl) d_Mo_proof_10) (fun q1 => ?_)
  refine v_if_eq 25 g d_Mo_proof_13 (by decide) (fun _ => ?_) (fun _ => ?_)
  · refine v_bipush (v := (-12 : Int32)) g d_Mo_proof_25 (by decide +kernel) ?_
    exact v_ret d_Mo_proof_27 rfl
  · refine v_aload_n 0 g d_Mo_proof_16 rfl ?_
    refine v_getR 60 g ff_Mo_44 rfl rfl rfl d_Mo_proof_17 ?_
    refine v_iload_n 1 g d_Mo_proof_20 rfl ?_
    refine v_iald g rfl rfl d_Mo_proof_21 (fun _ => ?_)
    refine v_goto 27 g d_Mo_proof_22 (by decide) ?_
    exact v_ret d_Mo_proof_27 rfl
def f_Mo_proof (a1 : Int32) (σ : Sto) : Option (Int32 × Sto) := B_Mo_proof_0 a1 σ
theorem sp_Mo_proof {l : Launch} {E : En} (hE : Dj E) {a1 : Int32} {σ : Sto} {r : Int32} {σ' : Sto} (h : f_Mo_proof a1 σ = some (r, σ')) : Ct l E y_Mo_proof (wsM y_Mo_proof b_Mo_proof 2 (some .int)) 2 [.ref (E.2.1 48), .int a1] σ (eI r) σ' :=
  ct_of hE (by decide +kernel) (Nat.le_of_ble_eq_true rfl) (fun x => Or.inl ⟨rfl, x, rfl⟩) (fun X _ g => vB_Mo_proof_0 g a1 σ) r σ' h
/-! method FittingRingsModel.checks(IIIIIJI)Z -/
theorem yv_Mo_checks : YV y_Mo_checks b_Mo_checks 11 (some .boolean) 7 10 := ⟨m1 1406 (by decide +kernel) (by decide +kernel), m1 52 (by decide +kernel) (by decide +kernel), ini_Mo, m1 1407 (by decide +kernel) (by decide +kernel), ⟨by decide +kernel, by decide +kernel, by decide +kernel⟩, by decide, by decide, T_Mo, 39, rfl⟩
theorem d_Mo_checks_0 : decode b_Mo_checks 0 = .ok (.aload_n 0, 1) := by decide +kernel
theorem d_Mo_checks_1 : decode b_Mo_checks 1 = .ok (.getfield 252, 3) := by decide +kernel
theorem d_Mo_checks_4 : decode b_Mo_checks 4 = .ok (.aload_n 0, 1) := by decide +kernel
theorem d_Mo_checks_5 : decode b_Mo_checks 5 = .ok (.getfield 74, 3) := by decide +kernel
theorem d_Mo_checks_8 : decode b_Mo_checks 8 = .ok (.iload_n 1, 1) := by decide +kernel
theorem d_Mo_checks_9 : decode b_Mo_checks 9 = .ok (.iaload, 1) := by decide +kernel
theorem d_Mo_checks_10 : decode b_Mo_checks 10 = .ok (.if_icmp .ne 5, 3) := by decide +kernel
theorem d_Mo_checks_13 : decode b_Mo_checks 13 = .ok (.iconst 0, 1) := by decide +kernel
theorem d_Mo_checks_14 : decode b_Mo_checks 14 = .ok (.ireturn, 1) := by decide +kernel
theorem d_Mo_checks_15 : decode b_Mo_checks 15 = .ok (.aload_n 0, 1) := by decide +kernel
theorem d_Mo_checks_16 : decode b_Mo_checks 16 = .ok (.getfield 77, 3) := by decide +kernel
theorem d_Mo_checks_19 : decode b_Mo_checks 19 = .ok (.bipush 60, 2) := by decide +kernel
theorem d_Mo_checks_21 : decode b_Mo_checks 21 = .ok (.iload_n 1, 1) := by decide +kernel
theorem d_Mo_checks_22 : decode b_Mo_checks 22 = .ok (.imul, 1) := by decide +kernel
theorem d_Mo_checks_23 : decode b_Mo_checks 23 = .ok (.aload_n 0, 1) := by decide +kernel
theorem d_Mo_checks_24 : decode b_Mo_checks 24 = .ok (.getfield 252, 3) := by decide +kernel
theorem d_Mo_checks_27 : decode b_Mo_checks 27 = .ok (.iadd, 1) := by decide +kernel
theorem d_Mo_checks_28 : decode b_Mo_checks 28 = .ok (.iaload, 1) := by decide +kernel
theorem d_Mo_checks_29 : decode b_Mo_checks 29 = .ok (.istore 9, 2) := by decide +kernel
theorem d_Mo_checks_31 : decode b_Mo_checks 31 = .ok (.iload 9, 2) := by decide +kernel
theorem d_Mo_checks_33 : decode b_Mo_checks 33 = .ok (.iconst (-1), 1) := by decide +kernel
theorem d_Mo_checks_34 : decode b_Mo_checks 34 = .ok (.if_icmp .ne 50, 3) := by decide +kernel
theorem d_Mo_checks_37 : decode b_Mo_checks 37 = .ok (.iload 8, 2) := by decide +kernel
theorem d_Mo_checks_39 : decode b_Mo_checks 39 = .ok (.aload_n 0, 1) := by decide +kernel
theorem d_Mo_checks_40 : decode b_Mo_checks 40 = .ok (.iload_n 2, 1) := by decide +kernel
theorem d_Mo_checks_41 : decode b_Mo_checks 41 = .ok (.iload_n 3, 1) := by decide +kernel
theorem d_Mo_checks_42 : decode b_Mo_checks 42 = .ok (.iload 4, 2) := by decide +kernel
theorem d_Mo_checks_44 : decode b_Mo_checks 44 = .ok (.lload 6, 2) := by decide +kernel
theorem d_Mo_checks_46 : decode b_Mo_checks 46 = .ok (.invokevirtual 196, 3) := by decide +kernel
theorem d_Mo_checks_49 : decode b_Mo_checks 49 = .ok (.iadd, 1) := by decide +kernel
theorem d_Mo_checks_50 : decode b_Mo_checks 50 = .ok (.iload 5, 2) := by decide +kernel
theorem d_Mo_checks_52 : decode b_Mo_checks 52 = .ok (.if_icmp .gt 7, 3) := by decide +kernel
theorem d_Mo_checks_55 : decode b_Mo_checks 55 = .ok (.iconst 1, 1) := by decide +kernel
theorem d_Mo_checks_56 : decode b_Mo_checks 56 = .ok (.goto 4, 3) := by decide +kernel
theorem d_Mo_checks_59 : decode b_Mo_checks 59 = .ok (.iconst 0, 1) := by decide +kernel
theorem d_Mo_checks_60 : decode b_Mo_checks 60 = .ok (.istore 10, 2) := by decide +kernel
theorem d_Mo_checks_62 : decode b_Mo_checks 62 = .ok (.aload_n 0, 1) := by decide +kernel
theorem d_Mo_checks_63 : decode b_Mo_checks 63 = .ok (.dup, 1) := by decide +kernel
theorem d_Mo_checks_64 : decode b_Mo_checks 64 = .ok (.getfield 252, 3) := by decide +kernel
theorem d_Mo_checks_67 : decode b_Mo_checks 67 = .ok (.iload 10, 2) := by decide +kernel
theorem d_Mo_checks_69 : decode b_Mo_checks 69 = .ok (.ifCond .eq 7, 3) := by decide +kernel
theorem d_Mo_checks_72 : decode b_Mo_checks 72 = .ok (.iconst 1, 1) := by decide +kernel
theorem d_Mo_checks_73 : decode b_Mo_checks 73 = .ok (.goto 4, 3) := by decide +kernel
theorem d_Mo_checks_76 : decode b_Mo_checks 76 = .ok (.iconst 0, 1) := by decide +kernel
theorem d_Mo_checks_77 : decode b_Mo_checks 77 = .ok (.iadd, 1) := by decide +kernel
theorem d_Mo_checks_78 : decode b_Mo_checks 78 = .ok (.putfield 252, 3) := by decide +kernel
theorem d_Mo_checks_81 : decode b_Mo_checks 81 = .ok (.iload 10, 2) := by decide +kernel
theorem d_Mo_checks_83 : decode b_Mo_checks 83 = .ok (.ireturn, 1) := by decide +kernel
theorem d_Mo_checks_84 : decode b_Mo_checks 84 = .ok (.aload_n 0, 1) := by decide +kernel
theorem d_Mo_checks_85 : decode b_Mo_checks 85 = .ok (.iload 9, 2) := by decide +kernel
theorem d_Mo_checks_87 : decode b_Mo_checks 87 = .ok (.invokevirtual 100, 3) := by decide +kernel
theorem d_Mo_checks_90 : decode b_Mo_checks 90 = .ok (.ifCond .eq 13, 3) := by decide +kernel
theorem d_Mo_checks_93 : decode b_Mo_checks 93 = .ok (.lload 6, 2) := by decide +kernel
theorem d_Mo_checks_95 : decode b_Mo_checks 95 = .ok (.iload 9, 2) := by decide +kernel
theorem d_Mo_checks_97 : decode b_Mo_checks 97 = .ok (.invokestatic 119, 3) := by decide +kernel
theorem d_Mo_checks_100 : decode b_Mo_checks 100 = .ok (.ifCond .ne 5, 3) := by decide +kernel
theorem d_Mo_checks_103 : decode b_Mo_checks 103 = .ok (.iconst 0, 1) := by decide +kernel
theorem d_Mo_checks_104 : decode b_Mo_checks 104 = .ok (.ireturn, 1) := by decide +kernel
theorem d_Mo_checks_105 : decode b_Mo_checks 105 = .ok (.aload_n 0, 1) := by decide +kernel
theorem d_Mo_checks_106 : decode b_Mo_checks 106 = .ok (.dup, 1) := by decide +kernel
theorem d_Mo_checks_107 : decode b_Mo_checks 107 = .ok (.getfield 252, 3) := by decide +kernel
theorem d_Mo_checks_110 : decode b_Mo_checks 110 = .ok (.iconst 1, 1) := by decide +kernel
theorem d_Mo_checks_111 : decode b_Mo_checks 111 = .ok (.iadd, 1) := by decide +kernel
theorem d_Mo_checks_112 : decode b_Mo_checks 112 = .ok (.putfield 252, 3) := by decide +kernel
theorem d_Mo_checks_115 : decode b_Mo_checks 115 = .ok (.aload_n 0, 1) := by decide +kernel
theorem d_Mo_checks_116 : decode b_Mo_checks 116 = .ok (.iload_n 1, 1) := by decide +kernel
theorem d_Mo_checks_117 : decode b_Mo_checks 117 = .ok (.iload_n 2, 1) := by decide +kernel
theorem d_Mo_checks_118 : decode b_Mo_checks 118 = .ok (.iload_n 3, 1) := by decide +kernel
theorem d_Mo_checks_119 : decode b_Mo_checks 119 = .ok (.iload 4, 2) := by decide +kernel
theorem d_Mo_checks_121 : decode b_Mo_checks 121 = .ok (.iload 5, 2) := by decide +kernel
theorem d_Mo_checks_123 : decode b_Mo_checks 123 = .ok (.aload_n 0, 1) := by decide +kernel
theorem d_Mo_checks_124 : decode b_Mo_checks 124 = .ok (.iload_n 3, 1) := by decide +kernel
theorem d_Mo_checks_125 : decode b_Mo_checks 125 = .ok (.iload 9, 2) := by decide +kernel
theorem d_Mo_checks_127 : decode b_Mo_checks 127 = .ok (.lload 6, 2) := by decide +kernel
theorem d_Mo_checks_129 : decode b_Mo_checks 129 = .ok (.invokevirtual 135, 3) := by decide +kernel
theorem d_Mo_checks_132 : decode b_Mo_checks 132 = .ok (.iload 8, 2) := by decide +kernel
theorem d_Mo_checks_134 : decode b_Mo_checks 134 = .ok (.aload_n 0, 1) := by decide +kernel
theorem d_Mo_checks_135 : decode b_Mo_checks 135 = .ok (.iload 4, 2) := by decide +kernel
theorem d_Mo_checks_137 : decode b_Mo_checks 137 = .ok (.iload 9, 2) := by decide +kernel
theorem d_Mo_checks_139 : decode b_Mo_checks 139 = .ok (.invokevirtual 141, 3) := by decide +kernel
theorem d_Mo_checks_142 : decode b_Mo_checks 142 = .ok (.iadd, 1) := by decide +kernel
theorem d_Mo_checks_143 : decode b_Mo_checks 143 = .ok (.invokevirtual 255, 3) := by decide +kernel
theorem d_Mo_checks_146 : decode b_Mo_checks 146 = .ok (.ifCond .eq 35, 3) := by decide +kernel
theorem d_Mo_checks_149 : decode b_Mo_checks 149 = .ok (.aload_n 0, 1) := by decide +kernel
theorem d_Mo_checks_150 : decode b_Mo_checks 150 = .ok (.iload_n 1, 1) := by decide +kernel
theorem d_Mo_checks_151 : decode b_Mo_checks 151 = .ok (.iload_n 2, 1) := by decide +kernel
theorem d_Mo_checks_152 : decode b_Mo_checks 152 = .ok (.iload_n 3, 1) := by decide +kernel
theorem d_Mo_checks_153 : decode b_Mo_checks 153 = .ok (.iload 4, 2) := by decide +kernel
theorem d_Mo_checks_155 : decode b_Mo_checks 155 = .ok (.iload 5, 2) := by decide +kernel
theorem d_Mo_checks_157 : decode b_Mo_checks 157 = .ok (.lload 6, 2) := by decide +kernel
theorem d_Mo_checks_159 : decode b_Mo_checks 159 = .ok (.iload 9, 2) := by decide +kernel
theorem d_Mo_checks_161 : decode b_Mo_checks 161 = .ok (.invokestatic 110, 3) := by decide +kernel
theorem d_Mo_checks_164 : decode b_Mo_checks 164 = .ok (.ldc2_w 114, 3) := by decide +kernel
theorem d_Mo_checks_167 : decode b_Mo_checks 167 = .ok (.lxor, 1) := by decide +kernel
theorem d_Mo_checks_168 : decode b_Mo_checks 168 = .ok (.land, 1) := by decide +kernel
theorem d_Mo_checks_169 : decode b_Mo_checks 169 = .ok (.iload 8, 2) := by decide +kernel
theorem d_Mo_checks_171 : decode b_Mo_checks 171 = .ok (.invokevirtual 255, 3) := by decide +kernel
theorem d_Mo_checks_174 : decode b_Mo_checks 174 = .ok (.ifCond .eq 7, 3) := by decide +kernel
theorem d_Mo_checks_177 : decode b_Mo_checks 177 = .ok (.iconst 1, 1) := by decide +kernel
theorem d_Mo_checks_178 : decode b_Mo_checks 178 = .ok (.goto 4, 3) := by decide +kernel
theorem d_Mo_checks_181 : decode b_Mo_checks 181 = .ok (.iconst 0, 1) := by decide +kernel
theorem d_Mo_checks_182 : decode b_Mo_checks 182 = .ok (.ireturn, 1) := by decide +kernel
def B_Mo_checks_0 (self : Int32 → Int32 → Int32 → Int32 → Int32 → Int64 → Int32 → Sto → Option (Bool × Sto)) (a1 : Int32) (a2 : Int32) (a3 : Int32) (a4 : Int32) (a5 : Int32) (a6 : Int64) (a8 : Int32) (σ : Sto) : Option (Bool × Sto) :=
  (if inb a1 4 = true then (if (gI σ 48 22) = (gI σ 70 (Int32.toNatClampNeg a1)) then some (false, σ)
 else (if inb (((60 : Int32) * a1) + (gI σ 48 22)) 240 = true then (lt1 (gI σ 71 (Int32.toNatClampNeg (((60 : Int32) * a1) + (gI σ 48 22)))) fun x1 => (if x1 = (-1 : Int32) then ((f_Mo_boundOf a2 a3 a4 a6 σ).bind fun q9 => (if a5 < (a8 + q9.1) then (if (0 : Int32) = 0 then some (false, (sI q9.2 48 22 ((gI q9.2 48 22) + (0 : Int32))))
    else some (false, (sI q9.2 48 22 ((gI q9.2 48 22) + (1 : Int32)))))
   else (if (1 : Int32) = 0 then some (true, (sI q9.2 48 22 ((gI q9.2 48 22) + (0 : Int32))))
    else some (true, (sI q9.2 48 22 ((gI q9.2 48 22) + (1 : Int32)))))))
  else ((f_Mo_isPoint x1 σ).bind fun q2 => (if (b2i q2.1) = 0 then some (false, q2.2)
   else ((f_Mo_has a6 x1 q2.2).bind fun q3 => (if (b2i q3.1) = 0 then some (false, q3.2)
    else ((f_Mo_fits a3 x1 a6 (sI q3.2 48 22 ((gI q3.2 48 22) + (1 : Int32)))).bind fun q4 => ((f_Mo_worth a4 x1 q4.2).bind fun q5 => ((self a1 a2 a3 a4 a5 q4.1 (a8 + q5.1) q5.2).bind fun q6 => (if (b2i q6.1) = 0 then some (false, q6.2)
     else ((f_Mo_bit x1 q6.2).bind fun q7 => ((self a1 a2 a3 a4 a5 (a6 &&& (q7.1 ^^^ (-1 : Int64))) a8 q7.2).bind fun q8 => (if (b2i q8.1) = 0 then some (false, q8.2)
      else some (true, q8.2)))))))))))))) else none)) else none)
set_option maxHeartbeats 4000000 in
set_option maxRecDepth 100000 in
theorem vB_Mo_checks_0 {X : Xt} {E : En} {hs : Nat} (hbs : 6 ≤ hs) (g : GG X E (1 + hs) b_Mo_checks R_Mo 11) {self : Int32 → Int32 → Int32 → Int32 → Int32 → Int64 → Int32 → Sto → Option (Bool × Sto)} (hself : ∀ (a1 : Int32) (a2 : Int32) (a3 : Int32) (a4 : Int32) (a5 : Int32) (a6 : Int64) (a8 : Int32) (σ : Sto) {r : Bool} {σ' : Sto}, self a1 a2 a3 a4 a5 a6 a8 σ = some (r, σ') → Ct (x_l X) E y_Mo_checks (wsM y_Mo_checks b_Mo_checks 11 (some .boolean)) hs [.ref (E.2.1 48), .int a1, .int a2, .int a3, .int a4, .int a5, .long a6, .int a8] σ (eB r) σ') (a1 : Int32) (a2 : Int32) (a3 : Int32) (a4 : Int32) (a5 : Int32) (a6 : Int64) (a8 : Int32) (σ : Sto) : VV X E b_Mo_checks 11 eB 0 [(0, .ref (E.2.1 48)), (1, .int a1), (2, .int a2), (3, .int a3), (4, .int a4), (5, .int a5), (6, .long a6), (8, .int a8)] [] σ (B_Mo_checks_0 self a1 a2 a3 a4 a5 a6 a8 σ) := by
  unfold B_Mo_checks_0
  refine v_aload_n 0 g d_Mo_checks_0 rfl ?_
  refine v_getI g ff_Mo_252 rfl rfl d_Mo_checks_1 ?_
  refine v_aload_n 0 g d_Mo_checks_4 rfl ?_
  refine v_getR 70 g ff_Mo_74 rfl rfl rfl d_Mo_checks_5 ?_
  refine v_iload_n 1 g d_Mo_checks_8 rfl ?_
  refine v_iald g rfl rfl d_Mo_checks_9 (fun _ => ?_)
  refine v_icmp_ne 15 g d_Mo_checks_10 (by decide) (fun _ => ?_) (fun _ => ?_)
  · refine v_aload_n 0 g d_Mo_checks_15 rfl ?_
    refine v_getR 71 g ff_Mo_77 rfl rfl rfl d_Mo_checks_16 ?_
    refine v_bipush (v := (60 : Int32)) g d_Mo_checks_19 (by decide +kernel) ?_
    refine v_iload_n 1 g d_Mo_checks_21 rfl ?_
    refine v_imul g d_Mo_checks_22 ?_
    refine v_aload_n 0 g d_Mo_checks_23 rfl ?_
    refine v_getI g ff_Mo_252 rfl rfl d_Mo_checks_24 ?_
    refine v_iadd g d_Mo_checks_27 ?_
    refine v_iald g rfl rfl d_Mo_checks_28 (fun _ => ?_)
    refine v_nlet (fun x1 ex1 => ?_)
    rw [← ex1]
    refine v_istore [(9, .int x1), (0, .ref (E.2.1 48)), (1, .int a1), (2, .int a2), (3, .int a3), (4, .int a4), (5, .int a5), (6, .long a6), (8, .int a8)] g d_Mo_checks_29 (by decide) rfl ?_
    refine v_iload 0 g d_Mo_checks_31 rfl ?_
    refine v_iconst (v := (-1 : Int32)) g d_Mo_checks_33 (by decide +kernel) ?_
    refine v_icmp_ne 84 g d_Mo_checks_34 (by decide) (fun _ => ?_) (fun _ => ?_)
    · refine v_aload_n 1 g d_Mo_checks_84 rfl ?_
      refine v_iload 0 g d_Mo_checks_85 rfl ?_
      refine v_callB (r_V (rest := []) [.int x1] g (m1 1179 (by decide +kernel) (by decide +kernel)) yv_Mo_isPoint rfl (fun r σ1 h => sp_Mo_isPoint g.2.2.1  h) rfl rfl (by omega) (Nat.le_of_ble_eq_true rfl) d_Mo_checks_87) (fun q2 => ?_)
      refine v_if_eq 103 g d_Mo_checks_90 (by decide) (fun _ => ?_) (fun _ => ?_)
      · refine v_iconst (v := (0 : Int32)) g d_Mo_checks_103 (by decide +kernel) ?_
        exact v_ret d_Mo_checks_104 rfl
      · refine v_lload 7 g d_Mo_checks_93 rfl ?_
        refine v_iload 0 g d_Mo_checks_95 rfl ?_
        refine v_callB (r_S (rest := []) [.long a6, .int x1] g (m1 1206 (by decide +kernel) (by decide +kernel)) ys_Mo_has (fun r σ1 h => sp_Mo_has g.2.2.1  h) rfl rfl (by omega) (Nat.le_of_ble_eq_true rfl) d_Mo_checks_97) (fun q3 => ?_)
        refine v_if_ne 105 g d_Mo_checks_100 (by decide) (fun _ => ?_) (fun _ => ?_)
        · refine v_aload_n 1 g d_Mo_checks_105 rfl ?_
          refine v_dup g d_Mo_checks_106 rfl ?_
          refine v_getI g ff_Mo_252 rfl rfl d_Mo_checks_107 ?_
          refine v_iconst (v := (1 : Int32)) g d_Mo_checks_110 (by decide +kernel) ?_
          refine v_iadd g d_Mo_checks_111 ?_
          refine v_putI g fp_Mo_252 rfl rfl d_Mo_checks_112 ?_
          refine v_aload_n 1 g d_Mo_checks_115 rfl ?_
          refine v_iload_n 2 g d_Mo_checks_116 rfl ?_
          refine v_iload_n 3 g d_Mo_checks_117 rfl ?_
          refine v_iload_n 4 g d_Mo_checks_118 rfl ?_
          refine v_iload 5 g d_Mo_checks_119 rfl ?_
          refine v_iload 6 g d_Mo_checks_121 rfl ?_
          refine v_aload_n 1 g d_Mo_checks_123 rfl ?_
          refine v_iload_n 4 g d_Mo_checks_124 rfl ?_
          refine v_iload 0 g d_Mo_checks_125 rfl ?_
          refine v_lload 7 g d_Mo_checks_127 rfl ?_
          refine v_callL (r_V (rest := [.int a5, .int a4, .int a3, .int a2, .int a1, .ref (E.2.1 48)]) [.int a3, .int x1, .long a6] g (m1 1233 (by decide +kernel) (by decide +kernel)) yv_Mo_fits rfl (fun r σ1 h => sp_Mo_fits g.2.2.1  h) rfl rfl (by omega) (Nat.le_of_ble_eq_true rfl) d_Mo_checks_129) (fun q4 => ?_)
          refine v_iload 8 g d_Mo_checks_132 rfl ?_
          refine v_aload_n 1 g d_Mo_checks_134 rfl ?_
          refine v_iload 5 g d_Mo_checks_135 rfl ?_
          refine v_iload 0 g d_Mo_checks_137 rfl ?_
          refine v_callI (r_VW (rest := [.int a8, .long q4.1, .int a5, .int a4, .int a3, .int a2, .int a1, .ref (E.2.1 48)]) [.int a4, .int x1] g (m1 1246 (by decide +kernel) (by decide +kernel)) yv_Mo_worth rfl (fun r σ1 h => sp_Mo_worth g.2.2.1  h) rfl rfl (by omega) (by decide) (Nat.le_of_ble_eq_true rfl) d_Mo_checks_139) (fun q5 => ?_)
          refine v_iadd g d_Mo_checks_142 ?_
          refine v_callB (r_V (rest := []) [.int a1, .int a2, .int a3, .int a4, .int a5, .long q4.1, .int (a8 + q5.1)] g (m1 1404 (by decide +kernel) (by decide +kernel)) yv_Mo_checks rfl (fun r σ1 h => hself a1 a2 a3 a4 a5 q4.1 (a8 + q5.1) q5.2 h) rfl rfl (by omega) (Nat.le_of_ble_eq_true rfl) d_Mo_checks_143) (fun q6 => ?_)
          refine v_if_eq 181 g d_Mo_checks_146 (by decide) (fun _ => ?_) (fun _ => ?_)
          · refine v_iconst (v := (0 : Int32)) g d_Mo_checks_181 (by decide +kernel) ?_
            exact v_ret d_Mo_checks_182 rfl
          · refine v_aload_n 1 g d_Mo_checks_149 rfl ?_
            refine v_iload_n 2 g d_Mo_checks_150 rfl ?_
            refine v_iload_n 3 g d_Mo_checks_151 rfl ?_
            refine v_iload_n 4 g d_Mo_checks_152 rfl ?_
            refine v_iload 5 g d_Mo_checks_153 rfl ?_
            refine v_iload 6 g d_Mo_checks_155 rfl ?_
            refine v_lload 7 g d_Mo_checks_157 rfl ?_
            refine v_iload 0 g d_Mo_checks_159 rfl ?_
            refine v_callL (r_S (rest := [.long a6, .int a5, .int a4, .int a3, .int a2, .int a1, .ref (E.2.1 48)]) [.int x1] g (m1 1213 (by decide +kernel) (by decide +kernel)) ys_Mo_bit (fun r σ1 h => sp_Mo_bit g.2.2.1  h) rfl rfl (by omega) (Nat.le_of_ble_eq_true rfl) d_Mo_checks_161) (fun q7 => ?_)
            refine v_ldc2 (v := (-1 : Int64)) g (m1 1216 (by decide +kernel) (by decide +kernel)) d_Mo_checks_164 ?_
            refine v_lxor g d_Mo_checks_167 ?_
            refine v_land g d_Mo_checks_168 ?_
            refine v_iload 8 g d_Mo_checks_169 rfl ?_
            refine v_callB (r_V (rest := []) [.int a1, .int a2, .int a3, .int a4, .int a5, .long (a6 &&& (q7.1 ^^^ (-1 : Int64))), .int a8] g (m1 1404 (by decide +kernel) (by decide +kernel)) yv_Mo_checks rfl (fun r σ1 h => hself a1 a2 a3 a4 a5 (a6 &&& (q7.1 ^^^ (-1 : Int64))) a8 q7.2 h) rfl rfl (by omega) (Nat.le_of_ble_eq_true rfl) d_Mo_checks_171) (fun q8 => ?_)
            refine v_if_eq 181 g d_Mo_checks_174 (by decide) (fun _ => ?_) (fun _ => ?_)
            · refine v_iconst (v := (0 : Int32)) g d_Mo_checks_181 (by decide +kernel) ?_
              exact v_ret d_Mo_checks_182 rfl
            · refine v_iconst (v := (1 : Int32)) g d_Mo_checks_177 (by decide +kernel) ?_
              refine v_goto 182 g d_Mo_checks_178 (by decide) ?_
              exact v_ret d_Mo_checks_182 rfl
        · refine v_iconst (v := (0 : Int32)) g d_Mo_checks_103 (by decide +kernel) ?_
          exact v_ret d_Mo_checks_104 rfl
    · refine v_iload 8 g d_Mo_checks_37 rfl ?_
      refine v_aload_n 1 g d_Mo_checks_39 rfl ?_
      refine v_iload_n 3 g d_Mo_checks_40 rfl ?_
      refine v_iload_n 4 g d_Mo_checks_41 rfl ?_
      refine v_iload 5 g d_Mo_checks_42 rfl ?_
      refine v_lload 7 g d_Mo_checks_44 rfl ?_
      refine v_callI (r_V (rest := [.int a8]) [.int a2, .int a3, .int a4, .long a6] g (m1 1306 (by decide +kernel) (by decide +kernel)) yv_Mo_boundOf rfl (fun r σ1 h => sp_Mo_boundOf g.2.2.1  h) rfl rfl (by omega) (Nat.le_of_ble_eq_true rfl) d_Mo_checks_46) (fun q9 => ?_)
      refine v_iadd g d_Mo_checks_49 ?_
      refine v_iload 6 g d_Mo_checks_50 rfl ?_
      refine v_icmp_gt 59 g d_Mo_checks_52 (by decide) (fun _ => ?_) (fun _ => ?_)
      · refine v_iconst (v := (0 : Int32)) g d_Mo_checks_59 (by decide +kernel) ?_
        refine v_istore [(10, .int (0 : Int32)), (9, .int x1), (0, .ref (E.2.1 48)), (1, .int a1), (2, .int a2), (3, .int a3), (4, .int a4), (5, .int a5), (6, .long a6), (8, .int a8)] g d_Mo_checks_60 (by decide) rfl ?_
        refine v_aload_n 2 g d_Mo_checks_62 rfl ?_
        refine v_dup g d_Mo_checks_63 rfl ?_
        refine v_getI g ff_Mo_252 rfl rfl d_Mo_checks_64 ?_
        refine v_iload 0 g d_Mo_checks_67 rfl ?_
        refine v_if_eq 76 g d_Mo_checks_69 (by decide) (fun _ => ?_) (fun _ => ?_)
        · refine v_iconst (v := (0 : Int32)) g d_Mo_checks_76 (by decide +kernel) ?_
          refine v_iadd g d_Mo_checks_77 ?_
          refine v_putI g fp_Mo_252 rfl rfl d_Mo_checks_78 ?_
          refine v_iload 0 g d_Mo_checks_81 rfl ?_
          exact v_ret d_Mo_checks_83 rfl
        · refine v_iconst (v := (1 : Int32)) g d_Mo_checks_72 (by decide +kernel) ?_
          refine v_goto 77 g d_Mo_checks_73 (by decide) ?_
          refine v_iadd g d_Mo_checks_77 ?_
          refine v_putI g fp_Mo_252 rfl rfl d_Mo_checks_78 ?_
          refine v_iload 0 g d_Mo_checks_81 rfl ?_
          exact v_ret d_Mo_checks_83 rfl
      · refine v_iconst (v := (1 : Int32)) g d_Mo_checks_55 (by decide +kernel) ?_
        refine v_goto 60 g d_Mo_checks_56 (by decide) ?_
        refine v_istore [(10, .int (1 : Int32)), (9, .int x1), (0, .ref (E.2.1 48)), (1, .int a1), (2, .int a2), (3, .int a3), (4, .int a4), (5, .int a5), (6, .long a6), (8, .int a8)] g d_Mo_checks_60 (by decide) rfl ?_
        refine v_aload_n 2 g d_Mo_checks_62 rfl ?_
        refine v_dup g d_Mo_checks_63 rfl ?_
        refine v_getI g ff_Mo_252 rfl rfl d_Mo_checks_64 ?_
        refine v_iload 0 g d_Mo_checks_67 rfl ?_
        refine v_if_eq 76 g d_Mo_checks_69 (by decide) (fun _ => ?_) (fun _ => ?_)
        · refine v_iconst (v := (0 : Int32)) g d_Mo_checks_76 (by decide +kernel) ?_
          refine v_iadd g d_Mo_checks_77 ?_
          refine v_putI g fp_Mo_252 rfl rfl d_Mo_checks_78 ?_
          refine v_iload 0 g d_Mo_checks_81 rfl ?_
          exact v_ret d_Mo_checks_83 rfl
        · refine v_iconst (v := (1 : Int32)) g d_Mo_checks_72 (by decide +kernel) ?_
          refine v_goto 77 g d_Mo_checks_73 (by decide) ?_
          refine v_iadd g d_Mo_checks_77 ?_
          refine v_putI g fp_Mo_252 rfl rfl d_Mo_checks_78 ?_
          refine v_iload 0 g d_Mo_checks_81 rfl ?_
          exact v_ret d_Mo_checks_83 rfl
  · refine v_iconst (v := (0 : Int32)) g d_Mo_checks_13 (by decide +kernel) ?_
    exact v_ret d_Mo_checks_14 rfl
def f_Mo_checks : Nat → Int32 → Int32 → Int32 → Int32 → Int32 → Int64 → Int32 → Sto → Option (Bool × Sto)
  | 0, _, _, _, _, _, _, _, _ => none
  | fu + 1, a1, a2, a3, a4, a5, a6, a8, σ => B_Mo_checks_0 (f_Mo_checks fu) a1 a2 a3 a4 a5 a6 a8 σ
theorem sp_Mo_checks {l : Launch} {E : En} (hE : Dj E) (fu : Nat) : ∀ {a1 : Int32} {a2 : Int32} {a3 : Int32} {a4 : Int32} {a5 : Int32} {a6 : Int64} {a8 : Int32} {σ : Sto} {r : Bool} {σ' : Sto}, f_Mo_checks fu a1 a2 a3 a4 a5 a6 a8 σ = some (r, σ') → Ct l E y_Mo_checks (wsM y_Mo_checks b_Mo_checks 11 (some .boolean)) (6 + fu) [.ref (E.2.1 48), .int a1, .int a2, .int a3, .int a4, .int a5, .long a6, .int a8] σ (eB r) σ' := by
  induction fu with
  | zero => intros; rename_i h; cases h
  | succ fu ih =>
    intro a1 a2 a3 a4 a5 a6 a8 σ r σ' h
    exact ct_of hE (by decide +kernel) (Nat.le_of_ble_eq_true rfl) (fun b => Or.inr (Or.inl ⟨rfl, b, rfl⟩)) (fun X hX g => vB_Mo_checks_0 (hs := 6 + fu) (by omega) (by rw [show 1 + (6 + fu) = 6 + (fu + 1) by omega]; exact g) (fun _ _ _ _ _ _ _ _ _ _ hh => by rw [hX]; exact ih hh) a1 a2 a3 a4 a5 a6 a8 σ) r σ' h
