theorem ff_Mo_202 : FF R_Mo 202 10 15 := ⟨R_Mo, T_Mo, 39, rfl, in_Mo, by decide, rfl, by decide, m1 1059 (by decide +kernel) (by decide +kernel)⟩
theorem ff_Mo_35 : FF R_Mo 35 10 14 := ⟨R_Mo, T_Mo, 39, rfl, in_Mo, by decide, rfl, by decide, m1 1058 (by decide +kernel) (by decide +kernel)⟩
theorem fp_Mo_202 : FP R_Mo 202 10 15 (.int) := ⟨R_Mo, T_Mo, 39, rfl, in_Mo, by decide, rfl, by decide, m1 1059 (by decide +kernel) (by decide +kernel), ⟨ty_Mo, tyok_Mo⟩, nm_Mo, rfl, by decide +kernel⟩
/-! method FittingRingsModel.classes(IJI)J -/
theorem yv_Mo_classes : YV y_Mo_classes b_Mo_classes 5 (some .long) 3 10 := ⟨m1 1274 (by decide +kernel) (by decide +kernel), m1 1275 (by decide +kernel) (by decide +kernel), ini_Mo, m1 1276 (by decide +kernel) (by decide +kernel), ⟨by decide +kernel, by decide +kernel, by decide +kernel⟩, by decide, by decide, T_Mo, 39, rfl⟩
theorem d_Mo_classes_0 : decode b_Mo_classes 0 = .ok (.iload_n 1, 1) := by decide +kernel
theorem d_Mo_classes_1 : decode b_Mo_classes 1 = .ok (.invokestatic 116, 3) := by decide +kernel
theorem d_Mo_classes_4 : decode b_Mo_classes 4 = .ok (.ifCond .eq 11, 3) := by decide +kernel
theorem d_Mo_classes_7 : decode b_Mo_classes 7 = .ok (.aload_n 0, 1) := by decide +kernel
theorem d_Mo_classes_8 : decode b_Mo_classes 8 = .ok (.lload_n 2, 1) := by decide +kernel
theorem d_Mo_classes_9 : decode b_Mo_classes 9 = .ok (.invokevirtual 127, 3) := by decide +kernel
theorem d_Mo_classes_12 : decode b_Mo_classes 12 = .ok (.ifCond .ne 7, 3) := by decide +kernel
theorem d_Mo_classes_15 : decode b_Mo_classes 15 = .ok (.ldc2_w 139, 3) := by decide +kernel
theorem d_Mo_classes_18 : decode b_Mo_classes 18 = .ok (.lreturn, 1) := by decide +kernel
theorem d_Mo_classes_19 : decode b_Mo_classes 19 = .ok (.aload_n 0, 1) := by decide +kernel
theorem d_Mo_classes_20 : decode b_Mo_classes 20 = .ok (.iload_n 1, 1) := by decide +kernel
theorem d_Mo_classes_21 : decode b_Mo_classes 21 = .ok (.lload_n 2, 1) := by decide +kernel
theorem d_Mo_classes_22 : decode b_Mo_classes 22 = .ok (.invokevirtual 172, 3) := by decide +kernel
theorem d_Mo_classes_25 : decode b_Mo_classes 25 = .ok (.iload 4, 2) := by decide +kernel
theorem d_Mo_classes_27 : decode b_Mo_classes 27 = .ok (.iconst (-1), 1) := by decide +kernel
theorem d_Mo_classes_28 : decode b_Mo_classes 28 = .ok (.if_icmp .ne 11, 3) := by decide +kernel
theorem d_Mo_classes_31 : decode b_Mo_classes 31 = .ok (.aload_n 0, 1) := by decide +kernel
theorem d_Mo_classes_32 : decode b_Mo_classes 32 = .ok (.getfield 169, 3) := by decide +kernel
theorem d_Mo_classes_35 : decode b_Mo_classes 35 = .ok (.i2l, 1) := by decide +kernel
theorem d_Mo_classes_36 : decode b_Mo_classes 36 = .ok (.goto 33, 3) := by decide +kernel
theorem d_Mo_classes_39 : decode b_Mo_classes 39 = .ok (.iload 4, 2) := by decide +kernel
theorem d_Mo_classes_41 : decode b_Mo_classes 41 = .ok (.i2l, 1) := by decide +kernel
theorem d_Mo_classes_42 : decode b_Mo_classes 42 = .ok (.lconst 0, 1) := by decide +kernel
theorem d_Mo_classes_43 : decode b_Mo_classes 43 = .ok (.aload_n 0, 1) := by decide +kernel
theorem d_Mo_classes_44 : decode b_Mo_classes 44 = .ok (.getfield 169, 3) := by decide +kernel
theorem d_Mo_classes_47 : decode b_Mo_classes 47 = .ok (.iconst 1, 1) := by decide +kernel
theorem d_Mo_classes_48 : decode b_Mo_classes 48 = .ok (.isub, 1) := by decide +kernel
theorem d_Mo_classes_49 : decode b_Mo_classes 49 = .ok (.i2l, 1) := by decide +kernel
theorem d_Mo_classes_50 : decode b_Mo_classes 50 = .ok (.invokestatic 84, 3) := by decide +kernel
theorem d_Mo_classes_53 : decode b_Mo_classes 53 = .ok (.ifCond .eq 13, 3) := by decide +kernel
theorem d_Mo_classes_56 : decode b_Mo_classes 56 = .ok (.aload_n 0, 1) := by decide +kernel
theorem d_Mo_classes_57 : decode b_Mo_classes 57 = .ok (.getfield 32, 3) := by decide +kernel
theorem d_Mo_classes_60 : decode b_Mo_classes 60 = .ok (.iload 4, 2) := by decide +kernel
theorem d_Mo_classes_62 : decode b_Mo_classes 62 = .ok (.laload, 1) := by decide +kernel
theorem d_Mo_classes_63 : decode b_Mo_classes 63 = .ok (.goto 6, 3) := by decide +kernel
theorem d_Mo_classes_66 : decode b_Mo_classes 66 = .ok (.ldc2_w 175, 3) := by decide +kernel
theorem d_Mo_classes_69 : decode b_Mo_classes 69 = .ok (.lreturn, 1) := by decide +kernel
def B_Mo_classes_0 (a1 : Int32) (a2 : Int64) (a4 : Int32) (σ : Sto) : Option (Int64 × Sto) :=
  ((f_Mo_isOne a1 σ).bind fun q1 => (if (b2i q1.1) = 0 then some ((-2 : Int64), q1.2)
 else ((f_Mo_isSet a2 q1.2).bind fun q2 => (if (b2i q2.1) = 0 then some ((-2 : Int64), q2.2)
  else ((f_Mo_parts a1 a2 q2.2).bind fun q3 => (if a4 = (-1 : Int32) then some ((Int32.toInt64 (gI q3.2 48 13)), q3.2)
   else ((f_Mo_in (Int32.toInt64 a4) (0 : Int64) (Int32.toInt64 ((gI q3.2 48 13) - (1 : Int32))) q3.2).bind fun q4 => (if (b2i q4.1) = 0 then some ((-12 : Int64), q4.2)
    else (if inb a4 40 = true then some ((gL q4.2 56 (Int32.toNatClampNeg a4)), q4.2) else none)))))))))
set_option maxHeartbeats 4000000 in
set_option maxRecDepth 100000 in
theorem vB_Mo_classes_0 {X : Xt} {E : En} (g : GG X E 5 b_Mo_classes R_Mo 5) (a1 : Int32) (a2 : Int64) (a4 : Int32) (σ : Sto) : VV X E b_Mo_classes 5 eL 0 [(0, .ref (E.2.1 48)), (1, .int a1), (2, .long a2), (4, .int a4)] [] σ (B_Mo_classes_0 a1 a2 a4 σ) := by
  unfold B_Mo_classes_0
  refine v_iload_n 1 g d_Mo_classes_0 rfl ?_
  refine v_callB (r_S (rest := []) [.int a1] g (m1 1203 (by decide +kernel) (by decide +kernel)) ys_Mo_isOne (fun r σ1 h => sp_Mo_isOne g.2.2.1  h) rfl rfl (by decide) (Nat.le_of_ble_eq_true rfl) d_Mo_classes_1) (fun q1 => ?_)
  refine v_if_eq 15 g d_Mo_classes_4 (by decide) (fun _ => ?_) (fun _ => ?_)
  · refine v_ldc2 (v := (-2 : Int64)) g (m1 1237 (by decide +kernel) (by decide +kernel)) d_Mo_classes_15 ?_
    exact v_ret d_Mo_classes_18 rfl
  · refine v_aload_n 0 g d_Mo_classes_7 rfl ?_
    refine v_lload_n 2 g d_Mo_classes_8 rfl ?_
    refine v_callB (r_V (rest := []) [.long a2] g (m1 1221 (by decide +kernel) (by decide +kernel)) yv_Mo_isSet rfl (fun r σ1 h => sp_Mo_isSet g.2.2.1  h) rfl rfl (by decide) (Nat.le_of_ble_eq_true rfl) d_Mo_classes_9) (fun q2 => ?_)
    refine v_if_ne 19 g d_Mo_classes_12 (by decide) (fun _ => ?_) (fun _ => ?_)
    · refine v_aload_n 0 g d_Mo_classes_19 rfl ?_
      refine v_iload_n 1 g d_Mo_classes_20 rfl ?_
      refine v_lload_n 2 g d_Mo_classes_21 rfl ?_
      refine v_callU (r_V (rest := []) [.int a1, .long a2] g (m1 1277 (by decide +kernel) (by decide +kernel)) yv_Mo_parts rfl (fun r σ1 h => sp_Mo_parts g.2.2.1  h) rfl rfl (by decide) (Nat.le_of_ble_eq_true rfl) d_Mo_classes_22) (fun q3 => ?_)
      refine v_iload 3 g d_Mo_classes_25 rfl ?_
      refine v_iconst (v := (-1 : Int32)) g d_Mo_classes_27 (by decide +kernel) ?_
      refine v_icmp_ne 39 g d_Mo_classes_28 (by decide) (fun _ => ?_) (fun _ => ?_)
      · refine v_iload 3 g d_Mo_classes_39 rfl ?_
        refine v_i2l g d_Mo_classes_41 ?_
        refine v_lconst (v := (0 : Int64)) g d_Mo_classes_42 (by decide +kernel) ?_
        refine v_aload_n 0 g d_Mo_classes_43 rfl ?_
        refine v_getI g ff_Mo_169 rfl rfl d_Mo_classes_44 ?_
        refine v_iconst (v := (1 : Int32)) g d_Mo_classes_47 (by decide +kernel) ?_
        refine v_isub g d_Mo_classes_48 ?_
        refine v_i2l g d_Mo_classes_49 ?_
        refine v_callB (r_S (rest := []) [.long (Int32.toInt64 a4), .long (0 : Int64), .long (Int32.toInt64 ((gI q3.2 48 13) - (1 : Int32)))] g (m1 1167 (by decide +kernel) (by decide +kernel)) ys_Mo_in (fun r σ1 h => sp_Mo_in g.2.2.1  h) rfl rfl (by decide) (Nat.le_of_ble_eq_true rfl) d_Mo_classes_50) (fun q4 => ?_)
        refine v_if_eq 66 g d_Mo_classes_53 (by decide) (fun _ => ?_) (fun _ => ?_)
        · refine v_ldc2 (v := (-12 : Int64)) g (m1 1281 (by decide +kernel) (by decide +kernel)) d_Mo_classes_66 ?_
          exact v_ret d_Mo_classes_69 rfl
        · refine v_aload_n 0 g d_Mo_classes_56 rfl ?_
          refine v_getR 56 g ff_Mo_32 rfl rfl rfl d_Mo_classes_57 ?_
          refine v_iload 3 g d_Mo_classes_60 rfl ?_
          refine v_lald g rfl rfl d_Mo_classes_62 (fun _ => ?_)
          refine v_goto 69 g d_Mo_classes_63 (by decide) ?_
          exact v_ret d_Mo_classes_69 rfl
      · refine v_aload_n 0 g d_Mo_classes_31 rfl ?_
        refine v_getI g ff_Mo_169 rfl rfl d_Mo_classes_32 ?_
        refine v_i2l g d_Mo_classes_35 ?_
        refine v_goto 69 g d_Mo_classes_36 (by decide) ?_
        exact v_ret d_Mo_classes_69 rfl
    · refine v_ldc2 (v := (-2 : Int64)) g (m1 1237 (by decide +kernel) (by decide +kernel)) d_Mo_classes_15 ?_
      exact v_ret d_Mo_classes_18 rfl
def f_Mo_classes (a1 : Int32) (a2 : Int64) (a4 : Int32) (σ : Sto) : Option (Int64 × Sto) := B_Mo_classes_0 a1 a2 a4 σ
theorem sp_Mo_classes {l : Launch} {E : En} (hE : Dj E) {a1 : Int32} {a2 : Int64} {a4 : Int32} {σ : Sto} {r : Int64} {σ' : Sto} (h : f_Mo_classes a1 a2 a4 σ = some (r, σ')) : Ct l E y_Mo_classes (wsM y_Mo_classes b_Mo_classes 5 (some .long)) 5 [.ref (E.2.1 48), .int a1, .long a2, .int a4] σ (eL r) σ' :=
  ct_of hE (by decide +kernel) (Nat.le_of_ble_eq_true rfl) (fun x => Or.inr (Or.inr (Or.inl ⟨rfl, x, rfl⟩))) (fun X _ g => vB_Mo_classes_0 g a1 a2 a4 σ) r σ' h
/-! method FittingRingsModel.takenOf(IJ)J -/
theorem yv_Mo_takenOf : YV y_Mo_takenOf b_Mo_takenOf 7 (some .long) 2 10 := ⟨m1 1288 (by decide +kernel) (by decide +kernel), m1 38 (by decide +kernel) (by decide +kernel), ini_Mo, m1 1289 (by decide +kernel) (by decide +kernel), ⟨by decide +kernel, by decide +kernel, by decide +kernel⟩, by decide, by decide, T_Mo, 39, rfl⟩
theorem d_Mo_takenOf_0 : decode b_Mo_takenOf 0 = .ok (.aload_n 0, 1) := by decide +kernel
theorem d_Mo_takenOf_1 : decode b_Mo_takenOf 1 = .ok (.iload_n 1, 1) := by decide +kernel
theorem d_Mo_takenOf_2 : decode b_Mo_takenOf 2 = .ok (.lload_n 2, 1) := by decide +kernel
theorem d_Mo_takenOf_3 : decode b_Mo_takenOf 3 = .ok (.invokevirtual 165, 3) := by decide +kernel
theorem d_Mo_takenOf_6 : decode b_Mo_takenOf 6 = .ok (.lconst 0, 1) := by decide +kernel
theorem d_Mo_takenOf_7 : decode b_Mo_takenOf 7 = .ok (.lstore 4, 2) := by decide +kernel
theorem d_Mo_takenOf_9 : decode b_Mo_takenOf 9 = .ok (.aload_n 0, 1) := by decide +kernel
theorem d_Mo_takenOf_10 : decode b_Mo_takenOf 10 = .ok (.getfield 156, 3) := by decide +kernel
theorem d_Mo_takenOf_13 : decode b_Mo_takenOf 13 = .ok (.iconst 1, 1) := by decide +kernel
theorem d_Mo_takenOf_14 : decode b_Mo_takenOf 14 = .ok (.isub, 1) := by decide +kernel
theorem d_Mo_takenOf_15 : decode b_Mo_takenOf 15 = .ok (.istore 6, 2) := by decide +kernel
theorem d_Mo_takenOf_17 : decode b_Mo_takenOf 17 = .ok (.iload 6, 2) := by decide +kernel
theorem d_Mo_takenOf_19 : decode b_Mo_takenOf 19 = .ok (.ifCond .lt 45, 3) := by decide +kernel
theorem d_Mo_takenOf_22 : decode b_Mo_takenOf 22 = .ok (.lload 4, 2) := by decide +kernel
theorem d_Mo_takenOf_24 : decode b_Mo_takenOf 24 = .ok (.aload_n 0, 1) := by decide +kernel
theorem d_Mo_takenOf_25 : decode b_Mo_takenOf 25 = .ok (.iload_n 1, 1) := by decide +kernel
theorem d_Mo_takenOf_26 : decode b_Mo_takenOf 26 = .ok (.aload_n 0, 1) := by decide +kernel
theorem d_Mo_takenOf_27 : decode b_Mo_takenOf 27 = .ok (.getfield 29, 3) := by decide +kernel
theorem d_Mo_takenOf_30 : decode b_Mo_takenOf 30 = .ok (.iload 6, 2) := by decide +kernel
theorem d_Mo_takenOf_32 : decode b_Mo_takenOf 32 = .ok (.iaload, 1) := by decide +kernel
theorem d_Mo_takenOf_33 : decode b_Mo_takenOf 33 = .ok (.lload 4, 2) := by decide +kernel
theorem d_Mo_takenOf_35 : decode b_Mo_takenOf 35 = .ok (.invokevirtual 148, 3) := by decide +kernel
theorem d_Mo_takenOf_38 : decode b_Mo_takenOf 38 = .ok (.ifCond .eq 16, 3) := by decide +kernel
theorem d_Mo_takenOf_41 : decode b_Mo_takenOf 41 = .ok (.aload_n 0, 1) := by decide +kernel
theorem d_Mo_takenOf_42 : decode b_Mo_takenOf 42 = .ok (.getfield 29, 3) := by decide +kernel
theorem d_Mo_takenOf_45 : decode b_Mo_takenOf 45 = .ok (.iload 6, 2) := by decide +kernel
theorem d_Mo_takenOf_47 : decode b_Mo_takenOf 47 = .ok (.iaload, 1) := by decide +kernel
theorem d_Mo_takenOf_48 : decode b_Mo_takenOf 48 = .ok (.invokestatic 110, 3) := by decide +kernel
theorem d_Mo_takenOf_51 : decode b_Mo_takenOf 51 = .ok (.goto 4, 3) := by decide +kernel
theorem d_Mo_takenOf_54 : decode b_Mo_takenOf 54 = .ok (.lconst 0, 1) := by decide +kernel
theorem d_Mo_takenOf_55 : decode b_Mo_takenOf 55 = .ok (.lor, 1) := by decide +kernel
theorem d_Mo_takenOf_56 : decode b_Mo_takenOf 56 = .ok (.lstore 4, 2) := by decide +kernel
theorem d_Mo_takenOf_58 : decode b_Mo_takenOf 58 = .ok (.iinc 6 (-1), 3) := by decide +kernel
theorem d_Mo_takenOf_61 : decode b_Mo_takenOf 61 = .ok (.goto (-44), 3) := by decide +kernel
theorem d_Mo_takenOf_64 : decode b_Mo_takenOf 64 = .ok (.lload 4, 2) := by decide +kernel
theorem d_Mo_takenOf_66 : decode b_Mo_takenOf 66 = .ok (.lreturn, 1) := by decide +kernel
def B_Mo_takenOf_17 (k17 : Int32 → Int64 → Int32 → Sto → Option (Int64 × Sto)) (v1 : Int32) (v4 : Int64) (v6 : Int32) (σ : Sto) : Option (Int64 × Sto) :=
  (if v6 < 0 then some (v4, σ)
 else (if inb v6 40 = true then ((f_Mo_fitsAll v1 (gI σ 55 (Int32.toNatClampNeg v6)) v4 σ).bind fun q3 => (if (b2i q3.1) = 0 then k17 v1 (v4 ||| (0 : Int64)) (v6 + (-1 : Int32)) q3.2
  else (if inb v6 40 = true then ((f_Mo_bit (gI q3.2 55 (Int32.toNatClampNeg v6)) q3.2).bind fun q4 => k17 v1 (v4 ||| q4.1) (v6 + (-1 : Int32)) q4.2) else none))) else none))
set_option maxHeartbeats 4000000 in
set_option maxRecDepth 100000 in
theorem vB_Mo_takenOf_17 {X : Xt} {E : En} (g : GG X E 4 b_Mo_takenOf R_Mo 7) {k17 : Int32 → Int64 → Int32 → Sto → Option (Int64 × Sto)} (hk17 : ∀ (v1 : Int32) (v4 : Int64) (v6 : Int32) (σ : Sto), VV X E b_Mo_takenOf 7 eL 17 [(0, .ref (E.2.1 48)), (1, .int v1), (4, .long v4), (6, .int v6)] [] σ (k17 v1 v4 v6 σ)) (v1 : Int32) (v4 : Int64) (v6 : Int32) (σ : Sto) : VV X E b_Mo_takenOf 7 eL 17 [(0, .ref (E.2.1 48)), (1, .int v1), (4, .long v4), (6, .int v6)] [] σ (B_Mo_takenOf_17 k17 v1 v4 v6 σ) := by
  unfold B_Mo_takenOf_17
  refine v_iload 3 g d_Mo_takenOf_17 rfl ?_
  refine v_if_lt 64 g d_Mo_takenOf_19 (by decide) (fun _ => ?_) (fun _ => ?_)
  · refine v_lload 2 g d_Mo_takenOf_64 rfl ?_
    exact v_ret d_Mo_takenOf_66 rfl
  · refine v_lload 2 g d_Mo_takenOf_22 rfl ?_
    refine v_aload_n 0 g d_Mo_takenOf_24 rfl ?_
    refine v_iload_n 1 g d_Mo_takenOf_25 rfl ?_
    refine v_aload_n 0 g d_Mo_takenOf_26 rfl ?_
    refine v_getR 55 g ff_Mo_29 rfl rfl rfl d_Mo_takenOf_27 ?_
    refine v_iload 3 g d_Mo_takenOf_30 rfl ?_
    refine v_iald g rfl rfl d_Mo_takenOf_32 (fun _ => ?_)
    refine v_lload 2 g d_Mo_takenOf_33 rfl ?_
    refine v_callB (r_V (rest := [.long v4]) [.int v1, .int (gI σ 55 (Int32.toNatClampNeg v6)), .long v4] g (m1 1258 (by decide +kernel) (by decide +kernel)) yv_Mo_fitsAll rfl (fun r σ1 h => sp_Mo_fitsAll g.2.2.1  h) rfl rfl (by decide) (Nat.le_of_ble_eq_true rfl) d_Mo_takenOf_35) (fun q3 => ?_)
    refine v_if_eq 54 g d_Mo_takenOf_38 (by decide) (fun _ => ?_) (fun _ => ?_)
    · refine v_lconst (v := (0 : Int64)) g d_Mo_takenOf_54 (by decide +kernel) ?_
      refine v_lor g d_Mo_takenOf_55 ?_
      refine v_lstore [(4, .long (v4 ||| (0 : Int64))), (0, .ref (E.2.1 48)), (1, .int v1), (6, .int v6)] g d_Mo_takenOf_56 (by decide) rfl ?_
      refine v_iinc 3 [(6, .int (v6 + (-1 : Int32))), (4, .long (v4 ||| (0 : Int64))), (0, .ref (E.2.1 48)), (1, .int v1)] g d_Mo_takenOf_58 rfl (v := (-1 : Int32)) (by decide +kernel) (by decide) rfl ?_
      refine v_goto 17 g d_Mo_takenOf_61 (by decide) ?_
      exact v_sub [2,3,1,0] rfl (hk17 v1 (v4 ||| (0 : Int64)) (v6 + (-1 : Int32)) q3.2)
    · refine v_aload_n 0 g d_Mo_takenOf_41 rfl ?_
      refine v_getR 55 g ff_Mo_29 rfl rfl rfl d_Mo_takenOf_42 ?_
      refine v_iload 3 g d_Mo_takenOf_45 rfl ?_
      refine v_iald g rfl rfl d_Mo_takenOf_47 (fun _ => ?_)
      refine v_callL (r_S (rest := [.long v4]) [.int (gI q3.2 55 (Int32.toNatClampNeg v6))] g (m1 1213 (by decide +kernel) (by decide +kernel)) ys_Mo_bit (fun r σ1 h => sp_Mo_bit g.2.2.1  h) rfl rfl (by decide) (Nat.le_of_ble_eq_true rfl) d_Mo_takenOf_48) (fun q4 => ?_)
      refine v_goto 55 g d_Mo_takenOf_51 (by decide) ?_
      refine v_lor g d_Mo_takenOf_55 ?_
      refine v_lstore [(4, .long (v4 ||| q4.1)), (0, .ref (E.2.1 48)), (1, .int v1), (6, .int v6)] g d_Mo_takenOf_56 (by decide) rfl ?_
      refine v_iinc 3 [(6, .int (v6 + (-1 : Int32))), (4, .long (v4 ||| q4.1)), (0, .ref (E.2.1 48)), (1, .int v1)] g d_Mo_takenOf_58 rfl (v := (-1 : Int32)) (by decide +kernel) (by decide) rfl ?_
      refine v_goto 17 g d_Mo_takenOf_61 (by decide) ?_
      exact v_sub [2,3,1,0] rfl (hk17 v1 (v4 ||| q4.1) (v6 + (-1 : Int32)) q4.2)
def L_Mo_takenOf_17 : Nat → Int32 → Int64 → Int32 → Sto → Option (Int64 × Sto)
  | 0, _, _, _, _ => none
  | fu + 1, v1, v4, v6, σ => B_Mo_takenOf_17 (L_Mo_takenOf_17 fu) v1 v4 v6 σ
theorem vL_Mo_takenOf_17 {X : Xt} {E : En} (g : GG X E 4 b_Mo_takenOf R_Mo 7) (fu : Nat) : ∀ (v1 : Int32) (v4 : Int64) (v6 : Int32) (σ : Sto), VV X E b_Mo_takenOf 7 eL 17 [(0, .ref (E.2.1 48)), (1, .int v1), (4, .long v4), (6, .int v6)] [] σ (L_Mo_takenOf_17 fu v1 v4 v6 σ) := by
  induction fu with
  | zero => intros; exact v_none
  | succ fu ih =>
    intro v1 v4 v6 σ
    exact vB_Mo_takenOf_17 g ih v1 v4 v6 σ
def B_Mo_takenOf_0 (a1 : Int32) (a2 : Int64) (σ : Sto) : Option (Int64 × Sto) :=
  ((f_Mo_lines a1 a2 σ).bind fun q1 => (lt1 ((gI q1.2 48 10) - (1 : Int32)) fun x2 => L_Mo_takenOf_17 LF a1 (0 : Int64) x2 q1.2))
set_option maxHeartbeats 4000000 in
set_option maxRecDepth 100000 in
theorem vB_Mo_takenOf_0 {X : Xt} {E : En} (g : GG X E 4 b_Mo_takenOf R_Mo 7) (a1 : Int32) (a2 : Int64) (σ : Sto) : VV X E b_Mo_takenOf 7 eL 0 [(0, .ref (E.2.1 48)), (1, .int a1), (2, .long a2)] [] σ (B_Mo_takenOf_0 a1 a2 σ) := by
  unfold B_Mo_takenOf_0
  refine v_aload_n 0 g d_Mo_takenOf_0 rfl ?_
  refine v_iload_n 1 g d_Mo_takenOf_1 rfl ?_
  refine v_lload_n 2 g d_Mo_takenOf_2 rfl ?_
  refine v_callU (r_V (rest := []) [.int a1, .long a2] g (m1 1266 (by decide +kernel) (by decide +kernel)) yv_Mo_lines rfl (fun r σ1 h => sp_Mo_lines g.2.2.1  h) rfl rfl (by decide) (Nat.le_of_ble_eq_true rfl) d_Mo_takenOf_3) (fun q1 => ?_)
  refine v_lconst (v := (0 : Int64)) g d_Mo_takenOf_6 (by decide +kernel) ?_
  refine v_lstore [(4, .long (0 : Int64)), (0, .ref (E.2.1 48)), (1, .int a1), (2, .long a2)] g d_Mo_takenOf_7 (by decide) rfl ?_
  refine v_aload_n 1 g d_Mo_takenOf_9 rfl ?_
  refine v_getI g ff_Mo_156 rfl rfl d_Mo_takenOf_10 ?_
  refine v_iconst (v := (1 : Int32)) g d_Mo_takenOf_13 (by decide +kernel) ?_
  refine v_isub g d_Mo_takenOf_14 ?_
  refine v_nlet (fun x2 ex2 => ?_)
  rw [← ex2]
  refine v_istore [(6, .int x2), (4, .long (0 : Int64)), (0, .ref (E.2.1 48)), (1, .int a1), (2, .long a2)] g d_Mo_takenOf_15 (by decide) rfl ?_
  exact v_sub [2,3,1,0] rfl (vL_Mo_takenOf_17 g LF a1 (0 : Int64) x2 q1.2)
def f_Mo_takenOf (a1 : Int32) (a2 : Int64) (σ : Sto) : Option (Int64 × Sto) := B_Mo_takenOf_0 a1 a2 σ
theorem sp_Mo_takenOf {l : Launch} {E : En} (hE : Dj E) {a1 : Int32} {a2 : Int64} {σ : Sto} {r : Int64} {σ' : Sto} (h : f_Mo_takenOf a1 a2 σ = some (r, σ')) : Ct l E y_Mo_takenOf (wsM y_Mo_takenOf b_Mo_takenOf 7 (some .long)) 4 [.ref (E.2.1 48), .int a1, .long a2] σ (eL r) σ' :=
  ct_of hE (by decide +kernel) (Nat.le_of_ble_eq_true rfl) (fun x => Or.inr (Or.inr (Or.inl ⟨rfl, x, rfl⟩))) (fun X _ g => vB_Mo_takenOf_0 g a1 a2 σ) r σ' h
/-! method FittingRingsModel.taken(IJ)J -/
theorem yv_Mo_taken : YV y_Mo_taken b_Mo_taken 4 (some .long) 2 10 := ⟨m1 1283 (by decide +kernel) (by decide +kernel), m1 1284 (by decide +kernel) (by decide +kernel), ini_Mo, m1 1285 (by decide +kernel) (by decide +kernel), ⟨by decide +kernel, by decide +kernel, by decide +kernel⟩, by decide, by decide, T_Mo, 39, rfl⟩
theorem d_Mo_taken_0 : decode b_Mo_taken 0 = .ok (.iload_n 1, 1) := by decide +kernel
theorem d_Mo_taken_1 : decode b_Mo_taken 1 = .ok (.invokestatic 116, 3) := by decide +kernel
theorem d_Mo_taken_4 : decode b_Mo_taken 4 = .ok (.ifCond .eq 20, 3) := by decide +kernel
theorem d_Mo_taken_7 : decode b_Mo_taken 7 = .ok (.aload_n 0, 1) := by decide +kernel
theorem d_Mo_taken_8 : decode b_Mo_taken 8 = .ok (.lload_n 2, 1) := by decide +kernel
theorem d_Mo_taken_9 : decode b_Mo_taken 9 = .ok (.invokevirtual 127, 3) := by decide +kernel
theorem d_Mo_taken_12 : decode b_Mo_taken 12 = .ok (.ifCond .eq 12, 3) := by decide +kernel
theorem d_Mo_taken_15 : decode b_Mo_taken 15 = .ok (.aload_n 0, 1) := by decide +kernel
theorem d_Mo_taken_16 : decode b_Mo_taken 16 = .ok (.iload_n 1, 1) := by decide +kernel
theorem d_Mo_taken_17 : decode b_Mo_taken 17 = .ok (.lload_n 2, 1) := by decide +kernel
theorem d_Mo_taken_18 : decode b_Mo_taken 18 = .ok (.invokevirtual 177, 3) := by decide +kernel
theorem d_Mo_taken_21 : decode b_Mo_taken 21 = .ok (.goto 6, 3) := by decide +kernel
theorem d_Mo_taken_24 : decode b_Mo_taken 24 = .ok (.ldc2_w 139, 3) := by decide +kernel
theorem d_Mo_taken_27 : decode b_Mo_taken 27 = .ok (.lreturn, 1) := by decide +kernel
def B_Mo_taken_0 (a1 : Int32) (a2 : Int64) (σ : Sto) : Option (Int64 × Sto) :=
  ((f_Mo_isOne a1 σ).bind fun q1 => (if (b2i q1.1) = 0 then some ((-2 : Int64), q1.2)
 else ((f_Mo_isSet a2 q1.2).bind fun q2 => (if (b2i q2.1) = 0 then some ((-2 : Int64), q2.2)
  else ((f_Mo_takenOf a1 a2 q2.2).bind fun q3 => some (q3.1, q3.2))))))
set_option maxHeartbeats 4000000 in
set_option maxRecDepth 100000 in
theorem vB_Mo_taken_0 {X : Xt} {E : En} (g : GG X E 5 b_Mo_taken R_Mo 4) (a1 : Int32) (a2 : Int64) (σ : Sto) : VV X E b_Mo_taken 4 eL 0 [(0, .ref (E.2.1 48)), (1, .int a1), (2, .long a2)] [] σ (B_Mo_taken_0 a1 a2 σ) := by
  unfold B_Mo_taken_0
  refine v_iload_n 1 g d_Mo_taken_0 rfl ?_
  refine v_callB (r_S (rest := []) [.int a1] g (m1 1203 (by decide +kernel) (by decide +kernel)) ys_Mo_isOne (fun r σ1 h => sp_Mo_isOne g.2.2.1  h) rfl rfl (by decide) (Nat.le_of_ble_eq_true rfl) d_Mo_taken_1) (fun q1 => ?_)
  refine v_if_eq 24 g d_Mo_taken_4 (by decide) (fun _ => ?_) (fun _ => ?_)
  · refine v_ldc2 (v := (-2 : Int64)) g (m1 1237 (by decide +kernel) (by decide +kernel)) d_Mo_taken_24 ?_
    exact v_ret d_Mo_taken_27 rfl
  · refine v_aload_n 0 g d_Mo_taken_7 rfl ?_
    refine v_lload_n 2 g d_Mo_taken_8 rfl ?_
    refine v_callB (r_V (rest := []) [.long a2] g (m1 1221 (by decide +kernel) (by decide +kernel)) yv_Mo_isSet rfl (fun r σ1 h => sp_Mo_isSet g.2.2.1  h) rfl rfl (by decide) (Nat.le_of_ble_eq_true rfl) d_Mo_taken_9) (fun q2 => ?_)
    refine v_if_eq 24 g d_Mo_taken_12 (by decide) (fun _ => ?_) (fun _ => ?_)
    · refine v_ldc2 (v := (-2 : Int64)) g (m1 1237 (by decide +kernel) (by decide +kernel)) d_Mo_taken_24 ?_
      exact v_ret d_Mo_taken_27 rfl
    · refine v_aload_n 0 g d_Mo_taken_15 rfl ?_
      refine v_iload_n 1 g d_Mo_taken_16 rfl ?_
      refine v_lload_n 2 g d_Mo_taken_17 rfl ?_
      refine v_callL (r_V (rest := []) [.int a1, .long a2] g (m1 1286 (by decide +kernel) (by decide +kernel)) yv_Mo_takenOf rfl (fun r σ1 h => sp_Mo_takenOf g.2.2.1  h) rfl rfl (by decide) (Nat.le_of_ble_eq_true rfl) d_Mo_taken_18) (fun q3 => ?_)
      refine v_goto 27 g d_Mo_taken_21 (by decide) ?_
      exact v_ret d_Mo_taken_27 rfl
def f_Mo_taken (a1 : Int32) (a2 : Int64) (σ : Sto) : Option (Int64 × Sto) := B_Mo_taken_0 a1 a2 σ
theorem sp_Mo_taken {l : Launch} {E : En} (hE : Dj E) {a1 : Int32} {a2 : Int64} {σ : Sto} {r : Int64} {σ' : Sto} (h : f_Mo_taken a1 a2 σ = some (r, σ')) : Ct l E y_Mo_taken (wsM y_Mo_taken b_Mo_taken 4 (some .long)) 5 [.ref (E.2.1 48), .int a1, .long a2] σ (eL r) σ' :=
  ct_of hE (by decide +kernel) (Nat.le_of_ble_eq_true rfl) (fun x => Or.inr (Or.inr (Or.inl ⟨rfl, x, rfl⟩))) (fun X _ g => vB_Mo_taken_0 g a1 a2 σ) r σ' h
/-! method FittingRingsModel.leftOf(IIJ)J -/
theorem yv_Mo_leftOf : YV y_Mo_leftOf b_Mo_leftOf 14 (some .long) 3 10 := ⟨m1 1296 (by decide +kernel) (by decide +kernel), m1 39 (by decide +kernel) (by decide +kernel), ini_Mo, m1 1297 (by decide +kernel) (by decide +kernel), ⟨by decide +kernel, by decide +kernel, by decide +kernel⟩, by decide, by decide, T_Mo, 39, rfl⟩
theorem d_Mo_leftOf_0 : decode b_Mo_leftOf 0 = .ok (.aload_n 0, 1) := by decide +kernel
theorem d_Mo_leftOf_1 : decode b_Mo_leftOf 1 = .ok (.iload_n 2, 1) := by decide +kernel
theorem d_Mo_leftOf_2 : decode b_Mo_leftOf 2 = .ok (.aload_n 0, 1) := by decide +kernel
theorem d_Mo_leftOf_3 : decode b_Mo_leftOf 3 = .ok (.iload_n 1, 1) := by decide +kernel
theorem d_Mo_leftOf_4 : decode b_Mo_leftOf 4 = .ok (.lload_n 3, 1) := by decide +kernel
theorem d_Mo_leftOf_5 : decode b_Mo_leftOf 5 = .ok (.invokevirtual 177, 3) := by decide +kernel
theorem d_Mo_leftOf_8 : decode b_Mo_leftOf 8 = .ok (.invokevirtual 144, 3) := by decide +kernel
theorem d_Mo_leftOf_11 : decode b_Mo_leftOf 11 = .ok (.istore 5, 2) := by decide +kernel
theorem d_Mo_leftOf_13 : decode b_Mo_leftOf 13 = .ok (.lload_n 3, 1) := by decide +kernel
theorem d_Mo_leftOf_14 : decode b_Mo_leftOf 14 = .ok (.lstore 6, 2) := by decide +kernel
theorem d_Mo_leftOf_16 : decode b_Mo_leftOf 16 = .ok (.iconst 1, 1) := by decide +kernel
theorem d_Mo_leftOf_17 : decode b_Mo_leftOf 17 = .ok (.istore 8, 2) := by decide +kernel
theorem d_Mo_leftOf_19 : decode b_Mo_leftOf 19 = .ok (.iload 8, 2) := by decide +kernel
theorem d_Mo_leftOf_21 : decode b_Mo_leftOf 21 = .ok (.ifCond .eq 151, 3) := by decide +kernel
theorem d_Mo_leftOf_24 : decode b_Mo_leftOf 24 = .ok (.lconst 0, 1) := by decide +kernel
theorem d_Mo_leftOf_25 : decode b_Mo_leftOf 25 = .ok (.lstore 9, 2) := by decide +kernel
theorem d_Mo_leftOf_27 : decode b_Mo_leftOf 27 = .ok (.iconst 0, 1) := by decide +kernel
theorem d_Mo_leftOf_28 : decode b_Mo_leftOf 28 = .ok (.istore 11, 2) := by decide +kernel
theorem d_Mo_leftOf_30 : decode b_Mo_leftOf 30 = .ok (.iload 11, 2) := by decide +kernel
theorem d_Mo_leftOf_32 : decode b_Mo_leftOf 32 = .ok (.aload_n 0, 1) := by decide +kernel
theorem d_Mo_leftOf_33 : decode b_Mo_leftOf 33 = .ok (.getfield 80, 3) := by decide +kernel
theorem d_Mo_leftOf_36 : decode b_Mo_leftOf 36 = .ok (.if_icmp .ge 108, 3) := by decide +kernel
theorem d_Mo_leftOf_39 : decode b_Mo_leftOf 39 = .ok (.lload 6, 2) := by decide +kernel
theorem d_Mo_leftOf_41 : decode b_Mo_leftOf 41 = .ok (.iload 11, 2) := by decide +kernel
theorem d_Mo_leftOf_43 : decode b_Mo_leftOf 43 = .ok (.invokestatic 119, 3) := by decide +kernel
theorem d_Mo_leftOf_46 : decode b_Mo_leftOf 46 = .ok (.ifCond .eq 20, 3) := by decide +kernel
theorem d_Mo_leftOf_49 : decode b_Mo_leftOf 49 = .ok (.aload_n 0, 1) := by decide +kernel
theorem d_Mo_leftOf_50 : decode b_Mo_leftOf 50 = .ok (.iload_n 2, 1) := by decide +kernel
theorem d_Mo_leftOf_51 : decode b_Mo_leftOf 51 = .ok (.aload_n 0, 1) := by decide +kernel
theorem d_Mo_leftOf_52 : decode b_Mo_leftOf 52 = .ok (.iload_n 1, 1) := by decide +kernel
theorem d_Mo_leftOf_53 : decode b_Mo_leftOf 53 = .ok (.iload 11, 2) := by decide +kernel
theorem d_Mo_leftOf_55 : decode b_Mo_leftOf 55 = .ok (.lload 6, 2) := by decide +kernel
theorem d_Mo_leftOf_57 : decode b_Mo_leftOf 57 = .ok (.invokevirtual 135, 3) := by decide +kernel
theorem d_Mo_leftOf_60 : decode b_Mo_leftOf 60 = .ok (.invokevirtual 144, 3) := by decide +kernel
theorem d_Mo_leftOf_63 : decode b_Mo_leftOf 63 = .ok (.goto 4, 3) := by decide +kernel
theorem d_Mo_leftOf_66 : decode b_Mo_leftOf 66 = .ok (.iconst 0, 1) := by decide +kernel
theorem d_Mo_leftOf_67 : decode b_Mo_leftOf 67 = .ok (.istore 12, 2) := by decide +kernel
theorem d_Mo_leftOf_69 : decode b_Mo_leftOf 69 = .ok (.iload_n 2, 1) := by decide +kernel
theorem d_Mo_leftOf_70 : decode b_Mo_leftOf 70 = .ok (.ifCond .ne 18, 3) := by decide +kernel
theorem d_Mo_leftOf_73 : decode b_Mo_leftOf 73 = .ok (.iload 12, 2) := by decide +kernel
theorem d_Mo_leftOf_75 : decode b_Mo_leftOf 75 = .ok (.iload 5, 2) := by decide +kernel
theorem d_Mo_leftOf_77 : decode b_Mo_leftOf 77 = .ok (.if_icmp .ge 7, 3) := by decide +kernel
theorem d_Mo_leftOf_80 : decode b_Mo_leftOf 80 = .ok (.iconst 1, 1) := by decide +kernel
theorem d_Mo_leftOf_81 : decode b_Mo_leftOf 81 = .ok (.goto 26, 3) := by decide +kernel
theorem d_Mo_leftOf_84 : decode b_Mo_leftOf 84 = .ok (.iconst 0, 1) := by decide +kernel
theorem d_Mo_leftOf_85 : decode b_Mo_leftOf 85 = .ok (.goto 22, 3) := by decide +kernel
theorem d_Mo_leftOf_88 : decode b_Mo_leftOf 88 = .ok (.iload 12, 2) := by decide +kernel
theorem d_Mo_leftOf_90 : decode b_Mo_leftOf 90 = .ok (.aload_n 0, 1) := by decide +kernel
theorem d_Mo_leftOf_91 : decode b_Mo_leftOf 91 = .ok (.iload 11, 2) := by decide +kernel
theorem d_Mo_leftOf_93 : decode b_Mo_leftOf 93 = .ok (.invokevirtual 106, 3) := by decide +kernel
theorem d_Mo_leftOf_96 : decode b_Mo_leftOf 96 = .ok (.iadd, 1) := by decide +kernel
theorem d_Mo_leftOf_97 : decode b_Mo_leftOf 97 = .ok (.iload 5, 2) := by decide +kernel
theorem d_Mo_leftOf_99 : decode b_Mo_leftOf 99 = .ok (.if_icmp .gt 7, 3) := by decide +kernel
theorem d_Mo_leftOf_102 : decode b_Mo_leftOf 102 = .ok (.iconst 1, 1) := by decide +kernel
theorem d_Mo_leftOf_103 : decode b_Mo_leftOf 103 = .ok (.goto 4, 3) := by decide +kernel
theorem d_Mo_leftOf_106 : decode b_Mo_leftOf 106 = .ok (.iconst 0, 1) := by decide +kernel
theorem d_Mo_leftOf_107 : decode b_Mo_leftOf 107 = .ok (.istore 13, 2) := by decide +kernel
theorem d_Mo_leftOf_109 : decode b_Mo_leftOf 109 = .ok (.lload 9, 2) := by decide +kernel
theorem d_Mo_leftOf_111 : decode b_Mo_leftOf 111 = .ok (.lload 6, 2) := by decide +kernel
theorem d_Mo_leftOf_113 : decode b_Mo_leftOf 113 = .ok (.iload 11, 2) := by decide +kernel
theorem d_Mo_leftOf_115 : decode b_Mo_leftOf 115 = .ok (.invokestatic 119, 3) := by decide +kernel
theorem d_Mo_leftOf_118 : decode b_Mo_leftOf 118 = .ok (.ifCond .eq 16, 3) := by decide +kernel
theorem d_Mo_leftOf_121 : decode b_Mo_leftOf 121 = .ok (.iload 13, 2) := by decide +kernel
theorem d_Mo_leftOf_123 : decode b_Mo_leftOf 123 = .ok (.ifCond .eq 11, 3) := by decide +kernel
theorem d_Mo_leftOf_126 : decode b_Mo_leftOf 126 = .ok (.iload 11, 2) := by decide +kernel
theorem d_Mo_leftOf_128 : decode b_Mo_leftOf 128 = .ok (.invokestatic 110, 3) := by decide +kernel
theorem d_Mo_leftOf_131 : decode b_Mo_leftOf 131 = .ok (.goto 4, 3) := by decide +kernel
theorem d_Mo_leftOf_134 : decode b_Mo_leftOf 134 = .ok (.lconst 0, 1) := by decide +kernel
theorem d_Mo_leftOf_135 : decode b_Mo_leftOf 135 = .ok (.lor, 1) := by decide +kernel
theorem d_Mo_leftOf_136 : decode b_Mo_leftOf 136 = .ok (.lstore 9, 2) := by decide +kernel
theorem d_Mo_leftOf_138 : decode b_Mo_leftOf 138 = .ok (.iinc 11 1, 3) := by decide +kernel
theorem d_Mo_leftOf_141 : decode b_Mo_leftOf 141 = .ok (.goto (-111), 3) := by decide +kernel
theorem d_Mo_leftOf_144 : decode b_Mo_leftOf 144 = .ok (.lload 6, 2) := by decide +kernel
theorem d_Mo_leftOf_146 : decode b_Mo_leftOf 146 = .ok (.lload 9, 2) := by decide +kernel
theorem d_Mo_leftOf_148 : decode b_Mo_leftOf 148 = .ok (.ldc2_w 114, 3) := by decide +kernel
theorem d_Mo_leftOf_151 : decode b_Mo_leftOf 151 = .ok (.lxor, 1) := by decide +kernel
theorem d_Mo_leftOf_152 : decode b_Mo_leftOf 152 = .ok (.land, 1) := by decide +kernel
theorem d_Mo_leftOf_153 : decode b_Mo_leftOf 153 = .ok (.lstore 6, 2) := by decide +kernel
theorem d_Mo_leftOf_155 : decode b_Mo_leftOf 155 = .ok (.lload 9, 2) := by decide +kernel
theorem d_Mo_leftOf_157 : decode b_Mo_leftOf 157 = .ok (.lconst 0, 1) := by decide +kernel
theorem d_Mo_leftOf_158 : decode b_Mo_leftOf 158 = .ok (.lcmp, 1) := by decide +kernel
theorem d_Mo_leftOf_159 : decode b_Mo_leftOf 159 = .ok (.ifCond .eq 7, 3) := by decide +kernel
theorem d_Mo_leftOf_162 : decode b_Mo_leftOf 162 = .ok (.iconst 1, 1) := by decide +kernel
theorem d_Mo_leftOf_163 : decode b_Mo_leftOf 163 = .ok (.goto 4, 3) := by decide +kernel
theorem d_Mo_leftOf_166 : decode b_Mo_leftOf 166 = .ok (.iconst 0, 1) := by decide +kernel
theorem d_Mo_leftOf_167 : decode b_Mo_leftOf 167 = .ok (.istore 8, 2) := by decide +kernel
theorem d_Mo_leftOf_169 : decode b_Mo_leftOf 169 = .ok (.goto (-150), 3) := by decide +kernel
theorem d_Mo_leftOf_172 : decode b_Mo_leftOf 172 = .ok (.lload 6, 2) := by decide +kernel
theorem d_Mo_leftOf_174 : decode b_Mo_leftOf 174 = .ok (.lreturn, 1) := by decide +kernel
def B_Mo_leftOf_107 (k30 : Int32 → Int32 → Int32 → Int64 → Int64 → Int32 → Sto → Option (Int64 × Sto)) (v1 : Int32) (v2 : Int32) (v5 : Int32) (v6 : Int64) (v9 : Int64) (v11 : Int32) (s0 : Int32) (σ : Sto) : Option (Int64 × Sto) :=
  ((f_Mo_has v6 v11 σ).bind fun q9 => (if (b2i q9.1) = 0 then k30 v1 v2 v5 v6 (v9 ||| (0 : Int64)) (v11 + (1 : Int32)) q9.2
 else (if s0 = 0 then k30 v1 v2 v5 v6 (v9 ||| (0 : Int64)) (v11 + (1 : Int32)) q9.2
  else ((f_Mo_bit v11 q9.2).bind fun q10 => k30 v1 v2 v5 v6 (v9 ||| q10.1) (v11 + (1 : Int32)) q10.2))))
set_option maxHeartbeats 4000000 in
set_option maxRecDepth 100000 in
theorem vB_Mo_leftOf_107 {X : Xt} {E : En} (g : GG X E 5 b_Mo_leftOf R_Mo 14) {k30 : Int32 → Int32 → Int32 → Int64 → Int64 → Int32 → Sto → Option (Int64 × Sto)} (hk30 : ∀ (v1 : Int32) (v2 : Int32) (v5 : Int32) (v6 : Int64) (v9 : Int64) (v11 : Int32) (σ : Sto), VV X E b_Mo_leftOf 14 eL 30 [(0, .ref (E.2.1 48)), (1, .int v1), (2, .int v2), (5, .int v5), (6, .long v6), (9, .long v9), (11, .int v11)] [] σ (k30 v1 v2 v5 v6 v9 v11 σ)) (v1 : Int32) (v2 : Int32) (v5 : Int32) (v6 : Int64) (v9 : Int64) (v11 : Int32) (s0 : Int32) (σ : Sto) : VV X E b_Mo_leftOf 14 eL 107 [(0, .ref (E.2.1 48)), (1, .int v1), (2, .int v2), (5, .int v5), (6, .long v6), (9, .long v9), (11, .int v11)] [.int s0] σ (B_Mo_leftOf_107 k30 v1 v2 v5 v6 v9 v11 s0 σ) := by
  unfold B_Mo_leftOf_107
  refine v_istore [(13, .int s0), (0, .ref (E.2.1 48)), (1, .int v1), (2, .int v2), (5, .int v5), (6, .long v6), (9, .long v9), (11, .int v11)] g d_Mo_leftOf_107 (by decide) rfl ?_
  refine v_lload 6 g d_Mo_leftOf_109 rfl ?_
  refine v_lload 5 g d_Mo_leftOf_111 rfl ?_
  refine v_iload 7 g d_Mo_leftOf_113 rfl ?_
  refine v_callB (r_S (rest := [.long v9]) [.long v6, .int v11] g (m1 1206 (by decide +kernel) (by decide +kernel)) ys_Mo_has (fun r σ1 h => sp_Mo_has g.2.2.1  h) rfl rfl (by decide) (Nat.le_of_ble_eq_true rfl) d_Mo_leftOf_115) (fun q9 => ?_)
  refine v_if_eq 134 g d_Mo_leftOf_118 (by decide) (fun _ => ?_) (fun _ => ?_)
  · refine v_lconst (v := (0 : Int64)) g d_Mo_leftOf_134 (by decide +kernel) ?_
    refine v_lor g d_Mo_leftOf_135 ?_
    refine v_lstore [(9, .long (v9 ||| (0 : Int64))), (13, .int s0), (0, .ref (E.2.1 48)), (1, .int v1), (2, .int v2), (5, .int v5), (6, .long v6), (11, .int v11)] g d_Mo_leftOf_136 (by decide) rfl ?_
    refine v_iinc 7 [(11, .int (v11 + (1 : Int32))), (9, .long (v9 ||| (0 : Int64))), (13, .int s0), (0, .ref (E.2.1 48)), (1, .int v1), (2, .int v2), (5, .int v5), (6, .long v6)] g d_Mo_leftOf_138 rfl (v := (1 : Int32)) (by decide +kernel) (by decide) rfl ?_
    refine v_goto 30 g d_Mo_leftOf_141 (by decide) ?_
    exact v_sub [3,4,5,6,7,1,0] rfl (hk30 v1 v2 v5 v6 (v9 ||| (0 : Int64)) (v11 + (1 : Int32)) q9.2)
  · refine v_iload 0 g d_Mo_leftOf_121 rfl ?_
    refine v_if_eq 134 g d_Mo_leftOf_123 (by decide) (fun _ => ?_) (fun _ => ?_)
    · refine v_lconst (v := (0 : Int64)) g d_Mo_leftOf_134 (by decide +kernel) ?_
      refine v_lor g d_Mo_leftOf_135 ?_
      refine v_lstore [(9, .long (v9 ||| (0 : Int64))), (13, .int s0), (0, .ref (E.2.1 48)), (1, .int v1), (2, .int v2), (5, .int v5), (6, .long v6), (11, .int v11)] g d_Mo_leftOf_136 (by decide) rfl ?_
      refine v_iinc 7 [(11, .int (v11 + (1 : Int32))), (9, .long (v9 ||| (0 : Int64))), (13, .int s0), (0, .ref (E.2.1 48)), (1, .int v1), (2, .int v2), (5, .int v5), (6, .long v6)] g d_Mo_leftOf_138 rfl (v := (1 : Int32)) (by decide +kernel) (by decide) rfl ?_
      refine v_goto 30 g d_Mo_leftOf_141 (by decide) ?_
      exact v_sub [3,4,5,6,7,1,0] rfl (hk30 v1 v2 v5 v6 (v9 ||| (0 : Int64)) (v11 + (1 : Int32)) q9.2)
    · refine v_iload 7 g d_Mo_leftOf_126 rfl ?_
      refine v_callL (r_S (rest := [.long v9]) [.int v11] g (m1 1213 (by decide +kernel) (by decide +kernel)) ys_Mo_bit (fun r σ1 h => sp_Mo_bit g.2.2.1  h) rfl rfl (by decide) (Nat.le_of_ble_eq_true rfl) d_Mo_leftOf_128) (fun q10 => ?_)
      refine v_goto 135 g d_Mo_leftOf_131 (by decide) ?_
      refine v_lor g d_Mo_leftOf_135 ?_
      refine v_lstore [(9, .long (v9 ||| q10.1)), (13, .int s0), (0, .ref (E.2.1 48)), (1, .int v1), (2, .int v2), (5, .int v5), (6, .long v6), (11, .int v11)] g d_Mo_leftOf_136 (by decide) rfl ?_
      refine v_iinc 7 [(11, .int (v11 + (1 : Int32))), (9, .long (v9 ||| q10.1)), (13, .int s0), (0, .ref (E.2.1 48)), (1, .int v1), (2, .int v2), (5, .int v5), (6, .long v6)] g d_Mo_leftOf_138 rfl (v := (1 : Int32)) (by decide +kernel) (by decide) rfl ?_
      refine v_goto 30 g d_Mo_leftOf_141 (by decide) ?_
      exact v_sub [3,4,5,6,7,1,0] rfl (hk30 v1 v2 v5 v6 (v9 ||| q10.1) (v11 + (1 : Int32)) q10.2)
def B_Mo_leftOf_30 (k19 : Int32 → Int32 → Int32 → Int64 → Int32 → Sto → Option (Int64 × Sto)) (k30 : Int32 → Int32 → Int32 → Int64 → Int64 → Int32 → Sto → Option (Int64 × Sto)) (v1 : Int32) (v2 : Int32) (v5 : Int32) (v6 : Int64) (v9 : Int64) (v11 : Int32) (σ : Sto) : Option (Int64 × Sto) :=
  (if (gI σ 48 0) ≤ v11 then (lt1 (v6 &&& (v9 ^^^ (-1 : Int64))) fun x3 => (if v9 = (0 : Int64) then k19 v1 v2 v5 x3 (0 : Int32) σ
  else k19 v1 v2 v5 x3 (1 : Int32) σ))
 else ((f_Mo_has v6 v11 σ).bind fun q4 => (if (b2i q4.1) = 0 then (if v2 = 0 then (if v5 ≤ (0 : Int32) then B_Mo_leftOf_107 k30 v1 v2 v5 v6 v9 v11 (0 : Int32) q4.2
    else B_Mo_leftOf_107 k30 v1 v2 v5 v6 v9 v11 (1 : Int32) q4.2)
   else ((f_Mo_weight v11 q4.2).bind fun q5 => (if v5 < ((0 : Int32) + q5.1) then B_Mo_leftOf_107 k30 v1 v2 v5 v6 v9 v11 (0 : Int32) q5.2
    else B_Mo_leftOf_107 k30 v1 v2 v5 v6 v9 v11 (1 : Int32) q5.2)))
  else ((f_Mo_fits v1 v11 v6 q4.2).bind fun q6 => ((f_Mo_measureOf v2 q6.1 q6.2).bind fun q7 => (if v2 = 0 then (if v5 ≤ q7.1 then B_Mo_leftOf_107 k30 v1 v2 v5 v6 v9 v11 (0 : Int32) q7.2
    else B_Mo_leftOf_107 k30 v1 v2 v5 v6 v9 v11 (1 : Int32) q7.2)
   else ((f_Mo_weight v11 q7.2).bind fun q8 => (if v5 < (q7.1 + q8.1) then B_Mo_leftOf_107 k30 v1 v2 v5 v6 v9 v11 (0 : Int32) q8.2
    else B_Mo_leftOf_107 k30 v1 v2 v5 v6 v9 v11 (1 : Int32) q8.2))))))))
set_option maxHeartbeats 4000000 in
set_option maxRecDepth 100000 in
theorem vB_Mo_leftOf_30 {X : Xt} {E : En} (g : GG X E 5 b_Mo_leftOf R_Mo 14) {k19 : Int32 → Int32 → Int32 → Int64 → Int32 → Sto → Option (Int64 × Sto)} {k30 : Int32 → Int32 → Int32 → Int64 → Int64 → Int32 → Sto → Option (Int64 × Sto)} (hk19 : ∀ (v1 : Int32) (v2 : Int32) (v5 : Int32) (v6 : Int64) (v8 : Int32) (σ : Sto), VV X E b_Mo_leftOf 14 eL 19 [(0, .ref (E.2.1 48)), (1, .int v1), (2, .int v2), (5, .int v5), (6, .long v6), (8, .int v8)] [] σ (k19 v1 v2 v5 v6 v8 σ)) (hk30 : ∀ (v1 : Int32) (v2 : Int32) (v5 : Int32) (v6 : Int64) (v9 : Int64) (v11 : Int32) (σ : Sto), VV X E b_Mo_leftOf 14 eL 30 [(0, .ref (E.2.1 48)), (1, .int v1), (2, .int v2), (5, .int v5), (6, .long v6), (9, .long v9), (11, .int v11)] [] σ (k30 v1 v2 v5 v6 v9 v11 σ)) (v1 : Int32) (v2 : Int32) (v5 : Int32) (v6 : Int64) (v9 : Int64) (v11 : Int32) (σ : Sto) : VV X E b_Mo_leftOf 14 eL 30 [(0, .ref (E.2.1 48)), (1, .int v1), (2, .int v2), (5, .int v5), (6, .long v6), (9, .long v9), (11, .int v11)] [] σ (B_Mo_leftOf_30 k19 k30 v1 v2 v5 v6 v9 v11 σ) := by
  unfold B_Mo_leftOf_30
  refine v_iload 6 g d_Mo_leftOf_30 rfl ?_
  refine v_aload_n 0 g d_Mo_leftOf_32 rfl ?_
  refine v_getI g ff_Mo_80 rfl rfl d_Mo_leftOf_33 ?_
  refine v_icmp_ge 144 g d_Mo_leftOf_36 (by decide) (fun _ => ?_) (fun _ => ?_)
  · refine v_lload 4 g d_Mo_leftOf_144 rfl ?_
    refine v_lload 5 g d_Mo_leftOf_146 rfl ?_
    refine v_ldc2 (v := (-1 : Int64)) g (m1 1216 (by decide +kernel) (by decide +kernel)) d_Mo_leftOf_148 ?_
    refine v_lxor g d_Mo_leftOf_151 ?_
    refine v_land g d_Mo_leftOf_152 ?_
    refine v_nlet (fun x3 ex3 => ?_)
    rw [← ex3]
    refine v_lstore [(6, .long x3), (0, .ref (E.2.1 48)), (1, .int v1), (2, .int v2), (5, .int v5), (9, .long v9), (11, .int v11)] g d_Mo_leftOf_153 (by decide) rfl ?_
    refine v_lload 5 g d_Mo_leftOf_155 rfl ?_
    refine v_lconst (v := (0 : Int64)) g d_Mo_leftOf_157 (by decide +kernel) ?_
    refine v_lcmp_eq 166 g d_Mo_leftOf_158 d_Mo_leftOf_159 (by decide) (fun _ => ?_) (fun _ => ?_)
    · refine v_iconst (v := (0 : Int32)) g d_Mo_leftOf_166 (by decide +kernel) ?_
      refine v_istore [(8, .int (0 : Int32)), (6, .long x3), (0, .ref (E.2.1 48)), (1, .int v1), (2, .int v2), (5, .int v5), (9, .long v9), (11, .int v11)] g d_Mo_leftOf_167 (by decide) rfl ?_
      refine v_goto 19 g d_Mo_leftOf_169 (by decide) ?_
      exact v_sub [2,3,4,5,1,0] rfl (hk19 v1 v2 v5 x3 (0 : Int32) σ)
    · refine v_iconst (v := (1 : Int32)) g d_Mo_leftOf_162 (by decide +kernel) ?_
      refine v_goto 167 g d_Mo_leftOf_163 (by decide) ?_
      refine v_istore [(8, .int (1 : Int32)), (6, .long x3), (0, .ref (E.2.1 48)), (1, .int v1), (2, .int v2), (5, .int v5), (9, .long v9), (11, .int v11)] g d_Mo_leftOf_167 (by decide) rfl ?_
      refine v_goto 19 g d_Mo_leftOf_169 (by decide) ?_
      exact v_sub [2,3,4,5,1,0] rfl (hk19 v1 v2 v5 x3 (1 : Int32) σ)
  · refine v_lload 4 g d_Mo_leftOf_39 rfl ?_
    refine v_iload 6 g d_Mo_leftOf_41 rfl ?_
    refine v_callB (r_S (rest := []) [.long v6, .int v11] g (m1 1206 (by decide +kernel) (by decide +kernel)) ys_Mo_has (fun r σ1 h => sp_Mo_has g.2.2.1  h) rfl rfl (by decide) (Nat.le_of_ble_eq_true rfl) d_Mo_leftOf_43) (fun q4 => ?_)
    refine v_if_eq 66 g d_Mo_leftOf_46 (by decide) (fun _ => ?_) (fun _ => ?_)
    · refine v_iconst (v := (0 : Int32)) g d_Mo_leftOf_66 (by decide +kernel) ?_
      refine v_istore [(12, .int (0 : Int32)), (0, .ref (E.2.1 48)), (1, .int v1), (2, .int v2), (5, .int v5), (6, .long v6), (9, .long v9), (11, .int v11)] g d_Mo_leftOf_67 (by decide) rfl ?_
      refine v_iload_n 3 g d_Mo_leftOf_69 rfl ?_
      refine v_if_ne 88 g d_Mo_leftOf_70 (by decide) (fun _ => ?_) (fun _ => ?_)
      · refine v_iload 0 g d_Mo_leftOf_88 rfl ?_
        refine v_aload_n 1 g d_Mo_leftOf_90 rfl ?_
        refine v_iload 7 g d_Mo_leftOf_91 rfl ?_
        refine v_callI (r_V (rest := [.int (0 : Int32)]) [.int v11] g (m1 1184 (by decide +kernel) (by decide +kernel)) yv_Mo_weight rfl (fun r σ1 h => sp_Mo_weight g.2.2.1  h) rfl rfl (by decide) (Nat.le_of_ble_eq_true rfl) d_Mo_leftOf_93) (fun q5 => ?_)
        refine v_iadd g d_Mo_leftOf_96 ?_
        refine v_iload 4 g d_Mo_leftOf_97 rfl ?_
        refine v_icmp_gt 106 g d_Mo_leftOf_99 (by decide) (fun _ => ?_) (fun _ => ?_)
        · refine v_iconst (v := (0 : Int32)) g d_Mo_leftOf_106 (by decide +kernel) ?_
          exact v_sub [1,2,3,4,5,6,7] rfl (vB_Mo_leftOf_107 g hk30 v1 v2 v5 v6 v9 v11 (0 : Int32) q5.2)
        · refine v_iconst (v := (1 : Int32)) g d_Mo_leftOf_102 (by decide +kernel) ?_
          refine v_goto 107 g d_Mo_leftOf_103 (by decide) ?_
          exact v_sub [1,2,3,4,5,6,7] rfl (vB_Mo_leftOf_107 g hk30 v1 v2 v5 v6 v9 v11 (1 : Int32) q5.2)
      · refine v_iload 0 g d_Mo_leftOf_73 rfl ?_
        refine v_iload 4 g d_Mo_leftOf_75 rfl ?_
        refine v_icmp_ge 84 g d_Mo_leftOf_77 (by decide) (fun _ => ?_) (fun _ => ?_)
        · refine v_iconst (v := (0 : Int32)) g d_Mo_leftOf_84 (by decide +kernel) ?_
          refine v_goto 107 g d_Mo_leftOf_85 (by decide) ?_
          exact v_sub [1,2,3,4,5,6,7] rfl (vB_Mo_leftOf_107 g hk30 v1 v2 v5 v6 v9 v11 (0 : Int32) q4.2)
        · refine v_iconst (v := (1 : Int32)) g d_Mo_leftOf_80 (by decide +kernel) ?_
          refine v_goto 107 g d_Mo_leftOf_81 (by decide) ?_
          exact v_sub [1,2,3,4,5,6,7] rfl (vB_Mo_leftOf_107 g hk30 v1 v2 v5 v6 v9 v11 (1 : Int32) q4.2)
    · refine v_aload_n 0 g d_Mo_leftOf_49 rfl ?_
      refine v_iload_n 2 g d_Mo_leftOf_50 rfl ?_
      refine v_aload_n 0 g d_Mo_leftOf_51 rfl ?_
      refine v_iload_n 1 g d_Mo_leftOf_52 rfl ?_
      refine v_iload 6 g d_Mo_leftOf_53 rfl ?_
      refine v_lload 4 g d_Mo_leftOf_55 rfl ?_
      refine v_callL (r_V (rest := [.int v2, .ref (E.2.1 48)]) [.int v1, .int v11, .long v6] g (m1 1233 (by decide +kernel) (by decide +kernel)) yv_Mo_fits rfl (fun r σ1 h => sp_Mo_fits g.2.2.1  h) rfl rfl (by decide) (Nat.le_of_ble_eq_true rfl) d_Mo_leftOf_57) (fun q6 => ?_)
      refine v_callI (r_V (rest := []) [.int v2, .long q6.1] g (m1 1242 (by decide +kernel) (by decide +kernel)) yv_Mo_measureOf rfl (fun r σ1 h => sp_Mo_measureOf g.2.2.1  h) rfl rfl (by decide) (Nat.le_of_ble_eq_true rfl) d_Mo_leftOf_60) (fun q7 => ?_)
      refine v_goto 67 g d_Mo_leftOf_63 (by decide) ?_
      refine v_istore [(12, .int q7.1), (0, .ref (E.2.1 48)), (1, .int v1), (2, .int v2), (5, .int v5), (6, .long v6), (9, .long v9), (11, .int v11)] g d_Mo_leftOf_67 (by decide) rfl ?_
      refine v_iload_n 3 g d_Mo_leftOf_69 rfl ?_
      refine v_if_ne 88 g d_Mo_leftOf_70 (by decide) (fun _ => ?_) (fun _ => ?_)
      · refine v_iload 0 g d_Mo_leftOf_88 rfl ?_
        refine v_aload_n 1 g d_Mo_leftOf_90 rfl ?_
        refine v_iload 7 g d_Mo_leftOf_91 rfl ?_
        refine v_callI (r_V (rest := [.int q7.1]) [.int v11] g (m1 1184 (by decide +kernel) (by decide +kernel)) yv_Mo_weight rfl (fun r σ1 h => sp_Mo_weight g.2.2.1  h) rfl rfl (by decide) (Nat.le_of_ble_eq_true rfl) d_Mo_leftOf_93) (fun q8 => ?_)
        refine v_iadd g d_Mo_leftOf_96 ?_
        refine v_iload 4 g d_Mo_leftOf_97 rfl ?_
        refine v_icmp_gt 106 g d_Mo_leftOf_99 (by decide) (fun _ => ?_) (fun _ => ?_)
        · refine v_iconst (v := (0 : Int32)) g d_Mo_leftOf_106 (by decide +kernel) ?_
          exact v_sub [1,2,3,4,5,6,7] rfl (vB_Mo_leftOf_107 g hk30 v1 v2 v5 v6 v9 v11 (0 : Int32) q8.2)
        · refine v_iconst (v := (1 : Int32)) g d_Mo_leftOf_102 (by decide +kernel) ?_
          refine v_goto 107 g d_Mo_leftOf_103 (by decide) ?_
          exact v_sub [1,2,3,4,5,6,7] rfl (vB_Mo_leftOf_107 g hk30 v1 v2 v5 v6 v9 v11 (1 : Int32) q8.2)
      · refine v_iload 0 g d_Mo_leftOf_73 rfl ?_
        refine v_iload 4 g d_Mo_leftOf_75 rfl ?_
        refine v_icmp_ge 84 g d_Mo_leftOf_77 (by decide) (fun _ => ?_) (fun _ => ?_)
        · refine v_iconst (v := (0 : Int32)) g d_Mo_leftOf_84 (by decide +kernel) ?_
          refine v_goto 107 g d_Mo_leftOf_85 (by decide) ?_
          exact v_sub [1,2,3,4,5,6,7] rfl (vB_Mo_leftOf_107 g hk30 v1 v2 v5 v6 v9 v11 (0 : Int32) q7.2)
        · refine v_iconst (v := (1 : Int32)) g d_Mo_leftOf_80 (by decide +kernel) ?_
          refine v_goto 107 g d_Mo_leftOf_81 (by decide) ?_
          exact v_sub [1,2,3,4,5,6,7] rfl (vB_Mo_leftOf_107 g hk30 v1 v2 v5 v6 v9 v11 (1 : Int32) q7.2)
def L_Mo_leftOf_30 (k19 : Int32 → Int32 → Int32 → Int64 → Int32 → Sto → Option (Int64 × Sto)) : Nat → Int32 → Int32 → Int32 → Int64 → Int64 → Int32 → Sto → Option (Int64 × Sto)
  | 0, _, _, _, _, _, _, _ => none
  | fu + 1, v1, v2, v5, v6, v9, v11, σ => B_Mo_leftOf_30 k19 (L_Mo_leftOf_30 k19 fu) v1 v2 v5 v6 v9 v11 σ
theorem vL_Mo_leftOf_30 {X : Xt} {E : En} (g : GG X E 5 b_Mo_leftOf R_Mo 14) {k19 : Int32 → Int32 → Int32 → Int64 → Int32 → Sto → Option (Int64 × Sto)} (hk19 : ∀ (v1 : Int32) (v2 : Int32) (v5 : Int32) (v6 : Int64) (v8 : Int32) (σ : Sto), VV X E b_Mo_leftOf 14 eL 19 [(0, .ref (E.2.1 48)), (1, .int v1), (2, .int v2), (5, .int v5), (6, .long v6), (8, .int v8)] [] σ (k19 v1 v2 v5 v6 v8 σ)) (fu : Nat) : ∀ (v1 : Int32) (v2 : Int32) (v5 : Int32) (v6 : Int64) (v9 : Int64) (v11 : Int32) (σ : Sto), VV X E b_Mo_leftOf 14 eL 30 [(0, .ref (E.2.1 48)), (1, .int v1), (2, .int v2), (5, .int v5), (6, .long v6), (9, .long v9), (11, .int v11)] [] σ (L_Mo_leftOf_30 k19 fu v1 v2 v5 v6 v9 v11 σ) := by
  induction fu with
  | zero => intros; exact v_none
  | succ fu ih =>
    intro v1 v2 v5 v6 v9 v11 σ
    exact vB_Mo_leftOf_30 g hk19 ih v1 v2 v5 v6 v9 v11 σ
def B_Mo_leftOf_19 (k19 : Int32 → Int32 → Int32 → Int64 → Int32 → Sto → Option (Int64 × Sto)) (v1 : Int32) (v2 : Int32) (v5 : Int32) (v6 : Int64) (v8 : Int32) (σ : Sto) : Option (Int64 × Sto) :=
  (if v8 = 0 then some (v6, σ)
 else L_Mo_leftOf_30 k19 LF v1 v2 v5 v6 (0 : Int64) (0 : Int32) σ)
set_option maxHeartbeats 4000000 in
set_option maxRecDepth 100000 in
theorem vB_Mo_leftOf_19 {X : Xt} {E : En} (g : GG X E 5 b_Mo_leftOf R_Mo 14) {k19 : Int32 → Int32 → Int32 → Int64 → Int32 → Sto → Option (Int64 × Sto)} (hk19 : ∀ (v1 : Int32) (v2 : Int32) (v5 : Int32) (v6 : Int64) (v8 : Int32) (σ : Sto), VV X E b_Mo_leftOf 14 eL 19 [(0, .ref (E.2.1 48)), (1, .int v1), (2, .int v2), (5, .int v5), (6, .long v6), (8, .int v8)] [] σ (k19 v1 v2 v5 v6 v8 σ)) (v1 : Int32) (v2 : Int32) (v5 : Int32) (v6 : Int64) (v8 : Int32) (σ : Sto) : VV X E b_Mo_leftOf 14 eL 19 [(0, .ref (E.2.1 48)), (1, .int v1), (2, .int v2), (5, .int v5), (6, .long v6), (8, .int v8)] [] σ (B_Mo_leftOf_19 k19 v1 v2 v5 v6 v8 σ) := by
  unfold B_Mo_leftOf_19
  refine v_iload 5 g d_Mo_leftOf_19 rfl ?_
  refine v_if_eq 172 g d_Mo_leftOf_21 (by decide) (fun _ => ?_) (fun _ => ?_)
  · refine v_lload 4 g d_Mo_leftOf_172 rfl ?_
    exact v_ret d_Mo_leftOf_174 rfl
  · refine v_lconst (v := (0 : Int64)) g d_Mo_leftOf_24 (by decide +kernel) ?_
    refine v_lstore [(9, .long (0 : Int64)), (0, .ref (E.2.1 48)), (1, .int v1), (2, .int v2), (5, .int v5), (6, .long v6), (8, .int v8)] g d_Mo_leftOf_25 (by decide) rfl ?_
    refine v_iconst (v := (0 : Int32)) g d_Mo_leftOf_27 (by decide +kernel) ?_
    refine v_istore [(11, .int (0 : Int32)), (9, .long (0 : Int64)), (0, .ref (E.2.1 48)), (1, .int v1), (2, .int v2), (5, .int v5), (6, .long v6), (8, .int v8)] g d_Mo_leftOf_28 (by decide) rfl ?_
    exact v_sub [2,3,4,5,6,1,0] rfl (vL_Mo_leftOf_30 g hk19 LF v1 v2 v5 v6 (0 : Int64) (0 : Int32) σ)
def L_Mo_leftOf_19 : Nat → Int32 → Int32 → Int32 → Int64 → Int32 → Sto → Option (Int64 × Sto)
  | 0, _, _, _, _, _, _ => none
  | fu + 1, v1, v2, v5, v6, v8, σ => B_Mo_leftOf_19 (L_Mo_leftOf_19 fu) v1 v2 v5 v6 v8 σ
theorem vL_Mo_leftOf_19 {X : Xt} {E : En} (g : GG X E 5 b_Mo_leftOf R_Mo 14) (fu : Nat) : ∀ (v1 : Int32) (v2 : Int32) (v5 : Int32) (v6 : Int64) (v8 : Int32) (σ : Sto), VV X E b_Mo_leftOf 14 eL 19 [(0, .ref (E.2.1 48)), (1, .int v1), (2, .int v2), (5, .int v5), (6, .long v6), (8, .int v8)] [] σ (L_Mo_leftOf_19 fu v1 v2 v5 v6 v8 σ) := by
  induction fu with
  | zero => intros; exact v_none
  | succ fu ih =>
    intro v1 v2 v5 v6 v8 σ
    exact vB_Mo_leftOf_19 g ih v1 v2 v5 v6 v8 σ
def B_Mo_leftOf_0 (a1 : Int32) (a2 : Int32) (a3 : Int64) (σ : Sto) : Option (Int64 × Sto) :=
  ((f_Mo_takenOf a1 a3 σ).bind fun q1 => ((f_Mo_measureOf a2 q1.1 q1.2).bind fun q2 => L_Mo_leftOf_19 LF a1 a2 q2.1 a3 (1 : Int32) q2.2))
set_option maxHeartbeats 4000000 in
set_option maxRecDepth 100000 in
theorem vB_Mo_leftOf_0 {X : Xt} {E : En} (g : GG X E 5 b_Mo_leftOf R_Mo 14) (a1 : Int32) (a2 : Int32) (a3 : Int64) (σ : Sto) : VV X E b_Mo_leftOf 14 eL 0 [(0, .ref (E.2.1 48)), (1, .int a1), (2, .int a2), (3, .long a3)] [] σ (B_Mo_leftOf_0 a1 a2 a3 σ) := by
  unfold B_Mo_leftOf_0
  refine v_aload_n 0 g d_Mo_leftOf_0 rfl ?_
  refine v_iload_n 2 g d_Mo_leftOf_1 rfl ?_
  refine v_aload_n 0 g d_Mo_leftOf_2 rfl ?_
  refine v_iload_n 1 g d_Mo_leftOf_3 rfl ?_
  refine v_lload_n 3 g d_Mo_leftOf_4 rfl ?_
  refine v_callL (r_V (rest := [.int a2, .ref (E.2.1 48)]) [.int a1, .long a3] g (m1 1286 (by decide +kernel) (by decide +kernel)) yv_Mo_takenOf rfl (fun r σ1 h => sp_Mo_takenOf g.2.2.1  h) rfl rfl (by decide) (Nat.le_of_ble_eq_true rfl) d_Mo_leftOf_5) (fun q1 => ?_)
  refine v_callI (r_V (rest := []) [.int a2, .long q1.1] g (m1 1242 (by decide +kernel) (by decide +kernel)) yv_Mo_measureOf rfl (fun r σ1 h => sp_Mo_measureOf g.2.2.1  h) rfl rfl (by decide) (Nat.le_of_ble_eq_true rfl) d_Mo_leftOf_8) (fun q2 => ?_)
  refine v_istore [(5, .int q2.1), (0, .ref (E.2.1 48)), (1, .int a1), (2, .int a2), (3, .long a3)] g d_Mo_leftOf_11 (by decide) rfl ?_
  refine v_lload_n 4 g d_Mo_leftOf_13 rfl ?_
  refine v_lstore [(6, .long a3), (5, .int q2.1), (0, .ref (E.2.1 48)), (1, .int a1), (2, .int a2), (3, .long a3)] g d_Mo_leftOf_14 (by decide) rfl ?_
  refine v_iconst (v := (1 : Int32)) g d_Mo_leftOf_16 (by decide +kernel) ?_
  refine v_istore [(8, .int (1 : Int32)), (6, .long a3), (5, .int q2.1), (0, .ref (E.2.1 48)), (1, .int a1), (2, .int a2), (3, .long a3)] g d_Mo_leftOf_17 (by decide) rfl ?_
  exact v_sub [3,4,5,2,1,0] rfl (vL_Mo_leftOf_19 g LF a1 a2 q2.1 a3 (1 : Int32) q2.2)
def f_Mo_leftOf (a1 : Int32) (a2 : Int32) (a3 : Int64) (σ : Sto) : Option (Int64 × Sto) := B_Mo_leftOf_0 a1 a2 a3 σ
theorem sp_Mo_leftOf {l : Launch} {E : En} (hE : Dj E) {a1 : Int32} {a2 : Int32} {a3 : Int64} {σ : Sto} {r : Int64} {σ' : Sto} (h : f_Mo_leftOf a1 a2 a3 σ = some (r, σ')) : Ct l E y_Mo_leftOf (wsM y_Mo_leftOf b_Mo_leftOf 14 (some .long)) 5 [.ref (E.2.1 48), .int a1, .int a2, .long a3] σ (eL r) σ' :=
  ct_of hE (by decide +kernel) (Nat.le_of_ble_eq_true rfl) (fun x => Or.inr (Or.inr (Or.inl ⟨rfl, x, rfl⟩))) (fun X _ g => vB_Mo_leftOf_0 g a1 a2 a3 σ) r σ' h
/-! method FittingRingsModel.left(IIJ)J -/
theorem yv_Mo_left : YV y_Mo_left b_Mo_left 5 (some .long) 3 10 := ⟨m1 1291 (by decide +kernel) (by decide +kernel), m1 1292 (by decide +kernel) (by decide +kernel), ini_Mo, m1 1293 (by decide +kernel) (by decide +kernel), ⟨by decide +kernel, by decide +kernel, by decide +kernel⟩, by decide, by decide, T_Mo, 39, rfl⟩
theorem d_Mo_left_0 : decode b_Mo_left 0 = .ok (.iload_n 1, 1) := by decide +kernel
theorem d_Mo_left_1 : decode b_Mo_left 1 = .ok (.invokestatic 116, 3) := by decide +kernel
theorem d_Mo_left_4 : decode b_Mo_left 4 = .ok (.ifCond .eq 28, 3) := by decide +kernel
theorem d_Mo_left_7 : decode b_Mo_left 7 = .ok (.iload_n 2, 1) := by decide +kernel
theorem d_Mo_left_8 : decode b_Mo_left 8 = .ok (.invokestatic 116, 3) := by decide +kernel
theorem d_Mo_left_11 : decode b_Mo_left 11 = .ok (.ifCond .eq 21, 3) := by decide +kernel
theorem d_Mo_left_14 : decode b_Mo_left 14 = .ok (.aload_n 0, 1) := by decide +kernel
theorem d_Mo_left_15 : decode b_Mo_left 15 = .ok (.lload_n 3, 1) := by decide +kernel
theorem d_Mo_left_16 : decode b_Mo_left 16 = .ok (.invokevirtual 127, 3) := by decide +kernel
theorem d_Mo_left_19 : decode b_Mo_left 19 = .ok (.ifCond .eq 13, 3) := by decide +kernel
theorem d_Mo_left_22 : decode b_Mo_left 22 = .ok (.aload_n 0, 1) := by decide +kernel
theorem d_Mo_left_23 : decode b_Mo_left 23 = .ok (.iload_n 1, 1) := by decide +kernel
theorem d_Mo_left_24 : decode b_Mo_left 24 = .ok (.iload_n 2, 1) := by decide +kernel
theorem d_Mo_left_25 : decode b_Mo_left 25 = .ok (.lload_n 3, 1) := by decide +kernel
theorem d_Mo_left_26 : decode b_Mo_left 26 = .ok (.invokevirtual 181, 3) := by decide +kernel
theorem d_Mo_left_29 : decode b_Mo_left 29 = .ok (.goto 6, 3) := by decide +kernel
theorem d_Mo_left_32 : decode b_Mo_left 32 = .ok (.ldc2_w 139, 3) := by decide +kernel
theorem d_Mo_left_35 : decode b_Mo_left 35 = .ok (.lreturn, 1) := by decide +kernel
def B_Mo_left_0 (a1 : Int32) (a2 : Int32) (a3 : Int64) (σ : Sto) : Option (Int64 × Sto) :=
  ((f_Mo_isOne a1 σ).bind fun q1 => (if (b2i q1.1) = 0 then some ((-2 : Int64), q1.2)
 else ((f_Mo_isOne a2 q1.2).bind fun q2 => (if (b2i q2.1) = 0 then some ((-2 : Int64), q2.2)
  else ((f_Mo_isSet a3 q2.2).bind fun q3 => (if (b2i q3.1) = 0 then some ((-2 : Int64), q3.2)
   else ((f_Mo_leftOf a1 a2 a3 q3.2).bind fun q4 => some (q4.1, q4.2))))))))
set_option maxHeartbeats 4000000 in
set_option maxRecDepth 100000 in
theorem vB_Mo_left_0 {X : Xt} {E : En} (g : GG X E 6 b_Mo_left R_Mo 5) (a1 : Int32) (a2 : Int32) (a3 : Int64) (σ : Sto) : VV X E b_Mo_left 5 eL 0 [(0, .ref (E.2.1 48)), (1, .int a1), (2, .int a2), (3, .long a3)] [] σ (B_Mo_left_0 a1 a2 a3 σ) := by
  unfold B_Mo_left_0
  refine v_iload_n 1 g d_Mo_left_0 rfl ?_
  refine v_callB (r_S (rest := []) [.int a1] g (m1 1203 (by decide +kernel) (by decide +kernel)) ys_Mo_isOne (fun r σ1 h => sp_Mo_isOne g.2.2.1  h) rfl rfl (by decide) (Nat.le_of_ble_eq_true rfl) d_Mo_left_1) (fun q1 => ?_)
  refine v_if_eq 32 g d_Mo_left_4 (by decide) (fun _ => ?_) (fun _ => ?_)
  · refine v_ldc2 (v := (-2 : Int64)) g (m1 1237 (by decide +kernel) (by decide +kernel)) d_Mo_left_32 ?_
    exact v_ret d_Mo_left_35 rfl
  · refine v_iload_n 2 g d_Mo_left_7 rfl ?_
    refine v_callB (r_S (rest := []) [.int a2] g (m1 1203 (by decide +kernel) (by decide +kernel)) ys_Mo_isOne (fun r σ1 h => sp_Mo_isOne g.2.2.1  h) rfl rfl (by decide) (Nat.le_of_ble_eq_true rfl) d_Mo_left_8) (fun q2 => ?_)
    refine v_if_eq 32 g d_Mo_left_11 (by decide) (fun _ => ?_) (fun _ => ?_)
    · refine v_ldc2 (v := (-2 : Int64)) g (m1 1237 (by decide +kernel) (by decide +kernel)) d_Mo_left_32 ?_
      exact v_ret d_Mo_left_35 rfl
    · refine v_aload_n 0 g d_Mo_left_14 rfl ?_
      refine v_lload_n 3 g d_Mo_left_15 rfl ?_
      refine v_callB (r_V (rest := []) [.long a3] g (m1 1221 (by decide +kernel) (by decide +kernel)) yv_Mo_isSet rfl (fun r σ1 h => sp_Mo_isSet g.2.2.1  h) rfl rfl (by decide) (Nat.le_of_ble_eq_true rfl) d_Mo_left_16) (fun q3 => ?_)
      refine v_if_eq 32 g d_Mo_left_19 (by decide) (fun _ => ?_) (fun _ => ?_)
      · refine v_ldc2 (v := (-2 : Int64)) g (m1 1237 (by decide +kernel) (by decide +kernel)) d_Mo_left_32 ?_
        exact v_ret d_Mo_left_35 rfl
      · refine v_aload_n 0 g d_Mo_left_22 rfl ?_
        refine v_iload_n 1 g d_Mo_left_23 rfl ?_
        refine v_iload_n 2 g d_Mo_left_24 rfl ?_
        refine v_lload_n 3 g d_Mo_left_25 rfl ?_
        refine v_callL (r_V (rest := []) [.int a1, .int a2, .long a3] g (m1 1294 (by decide +kernel) (by decide +kernel)) yv_Mo_leftOf rfl (fun r σ1 h => sp_Mo_leftOf g.2.2.1  h) rfl rfl (by decide) (Nat.le_of_ble_eq_true rfl) d_Mo_left_26) (fun q4 => ?_)
        refine v_goto 35 g d_Mo_left_29 (by decide) ?_
        exact v_ret d_Mo_left_35 rfl
def f_Mo_left (a1 : Int32) (a2 : Int32) (a3 : Int64) (σ : Sto) : Option (Int64 × Sto) := B_Mo_left_0 a1 a2 a3 σ
theorem sp_Mo_left {l : Launch} {E : En} (hE : Dj E) {a1 : Int32} {a2 : Int32} {a3 : Int64} {σ : Sto} {r : Int64} {σ' : Sto} (h : f_Mo_left a1 a2 a3 σ = some (r, σ')) : Ct l E y_Mo_left (wsM y_Mo_left b_Mo_left 5 (some .long)) 6 [.ref (E.2.1 48), .int a1, .int a2, .long a3] σ (eL r) σ' :=
  ct_of hE (by decide +kernel) (Nat.le_of_ble_eq_true rfl) (fun x => Or.inr (Or.inr (Or.inl ⟨rfl, x, rfl⟩))) (fun X _ g => vB_Mo_left_0 g a1 a2 a3 σ) r σ' h
/-! method FittingRingsModel.coloursOf(IIJ)I -/
theorem yv_Mo_coloursOf : YV y_Mo_coloursOf b_Mo_coloursOf 9 (some .int) 3 10 := ⟨m1 1312 (by decide +kernel) (by decide +kernel), m1 41 (by decide +kernel) (by decide +kernel), ini_Mo, m1 1313 (by decide +kernel) (by decide +kernel), ⟨by decide +kernel, by decide +kernel, by decide +kernel⟩, by decide, by decide, T_Mo, 39, rfl⟩
theorem d_Mo_coloursOf_0 : decode b_Mo_coloursOf 0 = .ok (.aload_n 0, 1) := by decide +kernel
theorem d_Mo_coloursOf_1 : decode b_Mo_coloursOf 1 = .ok (.iload_n 1, 1) := by decide +kernel
theorem d_Mo_coloursOf_2 : decode b_Mo_coloursOf 2 = .ok (.lload_n 3, 1) := by decide +kernel
theorem d_Mo_coloursOf_3 : decode b_Mo_coloursOf 3 = .ok (.invokevirtual 172, 3) := by decide +kernel
theorem d_Mo_coloursOf_6 : decode b_Mo_coloursOf 6 = .ok (.iconst 0, 1) := by decide +kernel
theorem d_Mo_coloursOf_7 : decode b_Mo_coloursOf 7 = .ok (.istore 5, 2) := by decide +kernel
theorem d_Mo_coloursOf_9 : decode b_Mo_coloursOf 9 = .ok (.iconst 0, 1) := by decide +kernel
theorem d_Mo_coloursOf_10 : decode b_Mo_coloursOf 10 = .ok (.istore 6, 2) := by decide +kernel
theorem d_Mo_coloursOf_12 : decode b_Mo_coloursOf 12 = .ok (.iload 6, 2) := by decide +kernel
theorem d_Mo_coloursOf_14 : decode b_Mo_coloursOf 14 = .ok (.aload_n 0, 1) := by decide +kernel
theorem d_Mo_coloursOf_15 : decode b_Mo_coloursOf 15 = .ok (.getfield 169, 3) := by decide +kernel
theorem d_Mo_coloursOf_18 : decode b_Mo_coloursOf 18 = .ok (.if_icmp .ge 71, 3) := by decide +kernel
theorem d_Mo_coloursOf_21 : decode b_Mo_coloursOf 21 = .ok (.iconst 0, 1) := by decide +kernel
theorem d_Mo_coloursOf_22 : decode b_Mo_coloursOf 22 = .ok (.istore 7, 2) := by decide +kernel
theorem d_Mo_coloursOf_24 : decode b_Mo_coloursOf 24 = .ok (.iconst 0, 1) := by decide +kernel
theorem d_Mo_coloursOf_25 : decode b_Mo_coloursOf 25 = .ok (.istore 8, 2) := by decide +kernel
theorem d_Mo_coloursOf_27 : decode b_Mo_coloursOf 27 = .ok (.iload 8, 2) := by decide +kernel
theorem d_Mo_coloursOf_29 : decode b_Mo_coloursOf 29 = .ok (.aload_n 0, 1) := by decide +kernel
theorem d_Mo_coloursOf_30 : decode b_Mo_coloursOf 30 = .ok (.getfield 80, 3) := by decide +kernel
theorem d_Mo_coloursOf_33 : decode b_Mo_coloursOf 33 = .ok (.if_icmp .ge 43, 3) := by decide +kernel
theorem d_Mo_coloursOf_36 : decode b_Mo_coloursOf 36 = .ok (.aload_n 0, 1) := by decide +kernel
theorem d_Mo_coloursOf_37 : decode b_Mo_coloursOf 37 = .ok (.getfield 32, 3) := by decide +kernel
theorem d_Mo_coloursOf_40 : decode b_Mo_coloursOf 40 = .ok (.iload 6, 2) := by decide +kernel
theorem d_Mo_coloursOf_42 : decode b_Mo_coloursOf 42 = .ok (.laload, 1) := by decide +kernel
theorem d_Mo_coloursOf_43 : decode b_Mo_coloursOf 43 = .ok (.iload 8, 2) := by decide +kernel
theorem d_Mo_coloursOf_45 : decode b_Mo_coloursOf 45 = .ok (.invokestatic 119, 3) := by decide +kernel
theorem d_Mo_coloursOf_48 : decode b_Mo_coloursOf 48 = .ok (.ifCond .eq 18, 3) := by decide +kernel
theorem d_Mo_coloursOf_51 : decode b_Mo_coloursOf 51 = .ok (.iload 7, 2) := by decide +kernel
theorem d_Mo_coloursOf_53 : decode b_Mo_coloursOf 53 = .ok (.aload_n 0, 1) := by decide +kernel
theorem d_Mo_coloursOf_54 : decode b_Mo_coloursOf 54 = .ok (.iload_n 2, 1) := by decide +kernel
theorem d_Mo_coloursOf_55 : decode b_Mo_coloursOf 55 = .ok (.iload 8, 2) := by decide +kernel
theorem d_Mo_coloursOf_57 : decode b_Mo_coloursOf 57 = .ok (.invokevirtual 141, 3) := by decide +kernel
theorem d_Mo_coloursOf_60 : decode b_Mo_coloursOf 60 = .ok (.invokestatic 162, 3) := by decide +kernel
theorem d_Mo_coloursOf_63 : decode b_Mo_coloursOf 63 = .ok (.goto 5, 3) := by decide +kernel
theorem d_Mo_coloursOf_66 : decode b_Mo_coloursOf 66 = .ok (.iload 7, 2) := by decide +kernel
theorem d_Mo_coloursOf_68 : decode b_Mo_coloursOf 68 = .ok (.istore 7, 2) := by decide +kernel
theorem d_Mo_coloursOf_70 : decode b_Mo_coloursOf 70 = .ok (.iinc 8 1, 3) := by decide +kernel
theorem d_Mo_coloursOf_73 : decode b_Mo_coloursOf 73 = .ok (.goto (-46), 3) := by decide +kernel
theorem d_Mo_coloursOf_76 : decode b_Mo_coloursOf 76 = .ok (.iload 5, 2) := by decide +kernel
theorem d_Mo_coloursOf_78 : decode b_Mo_coloursOf 78 = .ok (.iload 7, 2) := by decide +kernel
theorem d_Mo_coloursOf_80 : decode b_Mo_coloursOf 80 = .ok (.iadd, 1) := by decide +kernel
theorem d_Mo_coloursOf_81 : decode b_Mo_coloursOf 81 = .ok (.istore 5, 2) := by decide +kernel
theorem d_Mo_coloursOf_83 : decode b_Mo_coloursOf 83 = .ok (.iinc 6 1, 3) := by decide +kernel
theorem d_Mo_coloursOf_86 : decode b_Mo_coloursOf 86 = .ok (.goto (-74), 3) := by decide +kernel
theorem d_Mo_coloursOf_89 : decode b_Mo_coloursOf 89 = .ok (.iload 5, 2) := by decide +kernel
theorem d_Mo_coloursOf_91 : decode b_Mo_coloursOf 91 = .ok (.ireturn, 1) := by decide +kernel
def B_Mo_coloursOf_27 (k12 : Int32 → Int32 → Int32 → Sto → Option (Int32 × Sto)) (k27 : Int32 → Int32 → Int32 → Int32 → Int32 → Sto → Option (Int32 × Sto)) (v2 : Int32) (v5 : Int32) (v6 : Int32) (v7 : Int32) (v8 : Int32) (σ : Sto) : Option (Int32 × Sto) :=
  (if (gI σ 48 0) ≤ v8 then k12 v2 (v5 + v7) (v6 + (1 : Int32)) σ
 else (if inb v6 40 = true then ((f_Mo_has (gL σ 56 (Int32.toNatClampNeg v6)) v8 σ).bind fun q2 => (if (b2i q2.1) = 0 then k27 v2 v5 v6 v7 (v8 + (1 : Int32)) q2.2
  else ((f_Mo_worth v2 v8 q2.2).bind fun q3 => ((f_Mo_most v7 q3.1 q3.2).bind fun q4 => k27 v2 v5 v6 q4.1 (v8 + (1 : Int32)) q4.2)))) else none))
set_option maxHeartbeats 4000000 in
set_option maxRecDepth 100000 in
theorem vB_Mo_coloursOf_27 {X : Xt} {E : En} (g : GG X E 5 b_Mo_coloursOf R_Mo 9) {k12 : Int32 → Int32 → Int32 → Sto → Option (Int32 × Sto)} {k27 : Int32 → Int32 → Int32 → Int32 → Int32 → Sto → Option (Int32 × Sto)} (hk12 : ∀ (v2 : Int32) (v5 : Int32) (v6 : Int32) (σ : Sto), VV X E b_Mo_coloursOf 9 eI 12 [(0, .ref (E.2.1 48)), (2, .int v2), (5, .int v5), (6, .int v6)] [] σ (k12 v2 v5 v6 σ)) (hk27 : ∀ (v2 : Int32) (v5 : Int32) (v6 : Int32) (v7 : Int32) (v8 : Int32) (σ : Sto), VV X E b_Mo_coloursOf 9 eI 27 [(0, .ref (E.2.1 48)), (2, .int v2), (5, .int v5), (6, .int v6), (7, .int v7), (8, .int v8)] [] σ (k27 v2 v5 v6 v7 v8 σ)) (v2 : Int32) (v5 : Int32) (v6 : Int32) (v7 : Int32) (v8 : Int32) (σ : Sto) : VV X E b_Mo_coloursOf 9 eI 27 [(0, .ref (E.2.1 48)), (2, .int v2), (5, .int v5), (6, .int v6), (7, .int v7), (8, .int v8)] [] σ (B_Mo_coloursOf_27 k12 k27 v2 v5 v6 v7 v8 σ) := by
  unfold B_Mo_coloursOf_27
  refine v_iload 5 g d_Mo_coloursOf_27 rfl ?_
  refine v_aload_n 0 g d_Mo_coloursOf_29 rfl ?_
  refine v_getI g ff_Mo_80 rfl rfl d_Mo_coloursOf_30 ?_
  refine v_icmp_ge 76 g d_Mo_coloursOf_33 (by decide) (fun _ => ?_) (fun _ => ?_)
  · refine v_iload 2 g d_Mo_coloursOf_76 rfl ?_
    refine v_iload 4 g d_Mo_coloursOf_78 rfl ?_
    refine v_iadd g d_Mo_coloursOf_80 ?_
    refine v_istore [(5, .int (v5 + v7)), (0, .ref (E.2.1 48)), (2, .int v2), (6, .int v6), (7, .int v7), (8, .int v8)] g d_Mo_coloursOf_81 (by decide) rfl ?_
    refine v_iinc 3 [(6, .int (v6 + (1 : Int32))), (5, .int (v5 + v7)), (0, .ref (E.2.1 48)), (2, .int v2), (7, .int v7), (8, .int v8)] g d_Mo_coloursOf_83 rfl (v := (1 : Int32)) (by decide +kernel) (by decide) rfl ?_
    refine v_goto 12 g d_Mo_coloursOf_86 (by decide) ?_
    exact v_sub [2,3,1,0] rfl (hk12 v2 (v5 + v7) (v6 + (1 : Int32)) σ)
  · refine v_aload_n 0 g d_Mo_coloursOf_36 rfl ?_
    refine v_getR 56 g ff_Mo_32 rfl rfl rfl d_Mo_coloursOf_37 ?_
    refine v_iload 3 g d_Mo_coloursOf_40 rfl ?_
    refine v_lald g rfl rfl d_Mo_coloursOf_42 (fun _ => ?_)
    refine v_iload 5 g d_Mo_coloursOf_43 rfl ?_
    refine v_callB (r_S (rest := []) [.long (gL σ 56 (Int32.toNatClampNeg v6)), .int v8] g (m1 1206 (by decide +kernel) (by decide +kernel)) ys_Mo_has (fun r σ1 h => sp_Mo_has g.2.2.1  h) rfl rfl (by decide) (Nat.le_of_ble_eq_true rfl) d_Mo_coloursOf_45) (fun q2 => ?_)
    refine v_if_eq 66 g d_Mo_coloursOf_48 (by decide) (fun _ => ?_) (fun _ => ?_)
    · refine v_iload 4 g d_Mo_coloursOf_66 rfl ?_
      refine v_istore [(7, .int v7), (0, .ref (E.2.1 48)), (2, .int v2), (5, .int v5), (6, .int v6), (8, .int v8)] g d_Mo_coloursOf_68 (by decide) rfl ?_
      refine v_iinc 5 [(8, .int (v8 + (1 : Int32))), (7, .int v7), (0, .ref (E.2.1 48)), (2, .int v2), (5, .int v5), (6, .int v6)] g d_Mo_coloursOf_70 rfl (v := (1 : Int32)) (by decide +kernel) (by decide) rfl ?_
      refine v_goto 27 g d_Mo_coloursOf_73 (by decide) ?_
      exact v_sub [2,3,4,5,1,0] rfl (hk27 v2 v5 v6 v7 (v8 + (1 : Int32)) q2.2)
    · refine v_iload 4 g d_Mo_coloursOf_51 rfl ?_
      refine v_aload_n 0 g d_Mo_coloursOf_53 rfl ?_
      refine v_iload_n 1 g d_Mo_coloursOf_54 rfl ?_
      refine v_iload 5 g d_Mo_coloursOf_55 rfl ?_
      refine v_callI (r_V (rest := [.int v7]) [.int v2, .int v8] g (m1 1246 (by decide +kernel) (by decide +kernel)) yv_Mo_worth rfl (fun r σ1 h => sp_Mo_worth g.2.2.1  h) rfl rfl (by decide) (Nat.le_of_ble_eq_true rfl) d_Mo_coloursOf_57) (fun q3 => ?_)
      refine v_callI (r_S (rest := []) [.int v7, .int q3.1] g (m1 1270 (by decide +kernel) (by decide +kernel)) ys_Mo_most (fun r σ1 h => sp_Mo_most g.2.2.1  h) rfl rfl (by decide) (Nat.le_of_ble_eq_true rfl) d_Mo_coloursOf_60) (fun q4 => ?_)
      refine v_goto 68 g d_Mo_coloursOf_63 (by decide) ?_
      refine v_istore [(7, .int q4.1), (0, .ref (E.2.1 48)), (2, .int v2), (5, .int v5), (6, .int v6), (8, .int v8)] g d_Mo_coloursOf_68 (by decide) rfl ?_
      refine v_iinc 5 [(8, .int (v8 + (1 : Int32))), (7, .int q4.1), (0, .ref (E.2.1 48)), (2, .int v2), (5, .int v5), (6, .int v6)] g d_Mo_coloursOf_70 rfl (v := (1 : Int32)) (by decide +kernel) (by decide) rfl ?_
      refine v_goto 27 g d_Mo_coloursOf_73 (by decide) ?_
      exact v_sub [2,3,4,5,1,0] rfl (hk27 v2 v5 v6 q4.1 (v8 + (1 : Int32)) q4.2)
def L_Mo_coloursOf_27 (k12 : Int32 → Int32 → Int32 → Sto → Option (Int32 × Sto)) : Nat → Int32 → Int32 → Int32 → Int32 → Int32 → Sto → Option (Int32 × Sto)
  | 0, _, _, _, _, _, _ => none
  | fu + 1, v2, v5, v6, v7, v8, σ => B_Mo_coloursOf_27 k12 (L_Mo_coloursOf_27 k12 fu) v2 v5 v6 v7 v8 σ
theorem vL_Mo_coloursOf_27 {X : Xt} {E : En} (g : GG X E 5 b_Mo_coloursOf R_Mo 9) {k12 : Int32 → Int32 → Int32 → Sto → Option (Int32 × Sto)} (hk12 : ∀ (v2 : Int32) (v5 : Int32) (v6 : Int32) (σ : Sto), VV X E b_Mo_coloursOf 9 eI 12 [(0, .ref (E.2.1 48)), (2, .int v2), (5, .int v5), (6, .int v6)] [] σ (k12 v2 v5 v6 σ)) (fu : Nat) : ∀ (v2 : Int32) (v5 : Int32) (v6 : Int32) (v7 : Int32) (v8 : Int32) (σ : Sto), VV X E b_Mo_coloursOf 9 eI 27 [(0, .ref (E.2.1 48)), (2, .int v2), (5, .int v5), (6, .int v6), (7, .int v7), (8, .int v8)] [] σ (L_Mo_coloursOf_27 k12 fu v2 v5 v6 v7 v8 σ) := by
  induction fu with
  | zero => intros; exact v_none
  | succ fu ih =>
    intro v2 v5 v6 v7 v8 σ
    exact vB_Mo_coloursOf_27 g hk12 ih v2 v5 v6 v7 v8 σ
def B_Mo_coloursOf_12 (k12 : Int32 → Int32 → Int32 → Sto → Option (Int32 × Sto)) (v2 : Int32) (v5 : Int32) (v6 : Int32) (σ : Sto) : Option (Int32 × Sto) :=
  (if (gI σ 48 13) ≤ v6 then some (v5, σ)
 else L_Mo_coloursOf_27 k12 LF v2 v5 v6 (0 : Int32) (0 : Int32) σ)
set_option maxHeartbeats 4000000 in
set_option maxRecDepth 100000 in
theorem vB_Mo_coloursOf_12 {X : Xt} {E : En} (g : GG X E 5 b_Mo_coloursOf R_Mo 9) {k12 : Int32 → Int32 → Int32 → Sto → Option (Int32 × Sto)} (hk12 : ∀ (v2 : Int32) (v5 : Int32) (v6 : Int32) (σ : Sto), VV X E b_Mo_coloursOf 9 eI 12 [(0, .ref (E.2.1 48)), (2, .int v2), (5, .int v5), (6, .int v6)] [] σ (k12 v2 v5 v6 σ)) (v2 : Int32) (v5 : Int32) (v6 : Int32) (σ : Sto) : VV X E b_Mo_coloursOf 9 eI 12 [(0, .ref (E.2.1 48)), (2, .int v2), (5, .int v5), (6, .int v6)] [] σ (B_Mo_coloursOf_12 k12 v2 v5 v6 σ) := by
  unfold B_Mo_coloursOf_12
  refine v_iload 3 g d_Mo_coloursOf_12 rfl ?_
  refine v_aload_n 0 g d_Mo_coloursOf_14 rfl ?_
  refine v_getI g ff_Mo_169 rfl rfl d_Mo_coloursOf_15 ?_
  refine v_icmp_ge 89 g d_Mo_coloursOf_18 (by decide) (fun _ => ?_) (fun _ => ?_)
  · refine v_iload 2 g d_Mo_coloursOf_89 rfl ?_
    exact v_ret d_Mo_coloursOf_91 rfl
  · refine v_iconst (v := (0 : Int32)) g d_Mo_coloursOf_21 (by decide +kernel) ?_
    refine v_istore [(7, .int (0 : Int32)), (0, .ref (E.2.1 48)), (2, .int v2), (5, .int v5), (6, .int v6)] g d_Mo_coloursOf_22 (by decide) rfl ?_
    refine v_iconst (v := (0 : Int32)) g d_Mo_coloursOf_24 (by decide +kernel) ?_
    refine v_istore [(8, .int (0 : Int32)), (7, .int (0 : Int32)), (0, .ref (E.2.1 48)), (2, .int v2), (5, .int v5), (6, .int v6)] g d_Mo_coloursOf_25 (by decide) rfl ?_
    exact v_sub [2,3,4,5,1,0] rfl (vL_Mo_coloursOf_27 g hk12 LF v2 v5 v6 (0 : Int32) (0 : Int32) σ)
def L_Mo_coloursOf_12 : Nat → Int32 → Int32 → Int32 → Sto → Option (Int32 × Sto)
  | 0, _, _, _, _ => none
  | fu + 1, v2, v5, v6, σ => B_Mo_coloursOf_12 (L_Mo_coloursOf_12 fu) v2 v5 v6 σ
theorem vL_Mo_coloursOf_12 {X : Xt} {E : En} (g : GG X E 5 b_Mo_coloursOf R_Mo 9) (fu : Nat) : ∀ (v2 : Int32) (v5 : Int32) (v6 : Int32) (σ : Sto), VV X E b_Mo_coloursOf 9 eI 12 [(0, .ref (E.2.1 48)), (2, .int v2), (5, .int v5), (6, .int v6)] [] σ (L_Mo_coloursOf_12 fu v2 v5 v6 σ) := by
  induction fu with
  | zero => intros; exact v_none
  | succ fu ih =>
    intro v2 v5 v6 σ
    exact vB_Mo_coloursOf_12 g ih v2 v5 v6 σ
def B_Mo_coloursOf_0 (a1 : Int32) (a2 : Int32) (a3 : Int64) (σ : Sto) : Option (Int32 × Sto) :=
  ((f_Mo_parts a1 a3 σ).bind fun q1 => L_Mo_coloursOf_12 LF a2 (0 : Int32) (0 : Int32) q1.2)
set_option maxHeartbeats 4000000 in
set_option maxRecDepth 100000 in
theorem vB_Mo_coloursOf_0 {X : Xt} {E : En} (g : GG X E 5 b_Mo_coloursOf R_Mo 9) (a1 : Int32) (a2 : Int32) (a3 : Int64) (σ : Sto) : VV X E b_Mo_coloursOf 9 eI 0 [(0, .ref (E.2.1 48)), (1, .int a1), (2, .int a2), (3, .long a3)] [] σ (B_Mo_coloursOf_0 a1 a2 a3 σ) := by
  unfold B_Mo_coloursOf_0
  refine v_aload_n 0 g d_Mo_coloursOf_0 rfl ?_
  refine v_iload_n 1 g d_Mo_coloursOf_1 rfl ?_
  refine v_lload_n 3 g d_Mo_coloursOf_2 rfl ?_
  refine v_callU (r_V (rest := []) [.int a1, .long a3] g (m1 1277 (by decide +kernel) (by decide +kernel)) yv_Mo_parts rfl (fun r σ1 h => sp_Mo_parts g.2.2.1  h) rfl rfl (by decide) (Nat.le_of_ble_eq_true rfl) d_Mo_coloursOf_3) (fun q1 => ?_)
  refine v_iconst (v := (0 : Int32)) g d_Mo_coloursOf_6 (by decide +kernel) ?_
  refine v_istore [(5, .int (0 : Int32)), (0, .ref (E.2.1 48)), (1, .int a1), (2, .int a2), (3, .long a3)] g d_Mo_coloursOf_7 (by decide) rfl ?_
  refine v_iconst (v := (0 : Int32)) g d_Mo_coloursOf_9 (by decide +kernel) ?_
  refine v_istore [(6, .int (0 : Int32)), (5, .int (0 : Int32)), (0, .ref (E.2.1 48)), (1, .int a1), (2, .int a2), (3, .long a3)] g d_Mo_coloursOf_10 (by decide) rfl ?_
  exact v_sub [2,4,1,0] rfl (vL_Mo_coloursOf_12 g LF a2 (0 : Int32) (0 : Int32) q1.2)
def f_Mo_coloursOf (a1 : Int32) (a2 : Int32) (a3 : Int64) (σ : Sto) : Option (Int32 × Sto) := B_Mo_coloursOf_0 a1 a2 a3 σ
theorem sp_Mo_coloursOf {l : Launch} {E : En} (hE : Dj E) {a1 : Int32} {a2 : Int32} {a3 : Int64} {σ : Sto} {r : Int32} {σ' : Sto} (h : f_Mo_coloursOf a1 a2 a3 σ = some (r, σ')) : Ct l E y_Mo_coloursOf (wsM y_Mo_coloursOf b_Mo_coloursOf 9 (some .int)) 5 [.ref (E.2.1 48), .int a1, .int a2, .long a3] σ (eI r) σ' :=
  ct_of hE (by decide +kernel) (Nat.le_of_ble_eq_true rfl) (fun x => Or.inl ⟨rfl, x, rfl⟩) (fun X _ g => vB_Mo_coloursOf_0 g a1 a2 a3 σ) r σ' h
/-! method FittingRingsModel.coreOf(IIJ)I -/
theorem yv_Mo_coreOf : YV y_Mo_coreOf b_Mo_coreOf 9 (some .int) 3 10 := ⟨m1 1316 (by decide +kernel) (by decide +kernel), m1 42 (by decide +kernel) (by decide +kernel), ini_Mo, m1 1317 (by decide +kernel) (by decide +kernel), ⟨by decide +kernel, by decide +kernel, by decide +kernel⟩, by decide, by decide, T_Mo, 39, rfl⟩
theorem d_Mo_coreOf_0 : decode b_Mo_coreOf 0 = .ok (.aload_n 0, 1) := by decide +kernel
theorem d_Mo_coreOf_1 : decode b_Mo_coreOf 1 = .ok (.iload_n 1, 1) := by decide +kernel
theorem d_Mo_coreOf_2 : decode b_Mo_coreOf 2 = .ok (.lload_n 3, 1) := by decide +kernel
theorem d_Mo_coreOf_3 : decode b_Mo_coreOf 3 = .ok (.invokevirtual 165, 3) := by decide +kernel
theorem d_Mo_coreOf_6 : decode b_Mo_coreOf 6 = .ok (.iload_n 2, 1) := by decide +kernel
theorem d_Mo_coreOf_7 : decode b_Mo_coreOf 7 = .ok (.ifCond .ne 20, 3) := by decide +kernel
theorem d_Mo_coreOf_10 : decode b_Mo_coreOf 10 = .ok (.lload_n 3, 1) := by decide +kernel
theorem d_Mo_coreOf_11 : decode b_Mo_coreOf 11 = .ok (.lconst 0, 1) := by decide +kernel
theorem d_Mo_coreOf_12 : decode b_Mo_coreOf 12 = .ok (.lcmp, 1) := by decide +kernel
theorem d_Mo_coreOf_13 : decode b_Mo_coreOf 13 = .ok (.ifCond .ne 7, 3) := by decide +kernel
theorem d_Mo_coreOf_16 : decode b_Mo_coreOf 16 = .ok (.iconst 0, 1) := by decide +kernel
theorem d_Mo_coreOf_17 : decode b_Mo_coreOf 17 = .ok (.goto 9, 3) := by decide +kernel
theorem d_Mo_coreOf_20 : decode b_Mo_coreOf 20 = .ok (.aload_n 0, 1) := by decide +kernel
theorem d_Mo_coreOf_21 : decode b_Mo_coreOf 21 = .ok (.getfield 159, 3) := by decide +kernel
theorem d_Mo_coreOf_24 : decode b_Mo_coreOf 24 = .ok (.iconst 1, 1) := by decide +kernel
theorem d_Mo_coreOf_25 : decode b_Mo_coreOf 25 = .ok (.iadd, 1) := by decide +kernel
theorem d_Mo_coreOf_26 : decode b_Mo_coreOf 26 = .ok (.ireturn, 1) := by decide +kernel
theorem d_Mo_coreOf_27 : decode b_Mo_coreOf 27 = .ok (.iconst 0, 1) := by decide +kernel
theorem d_Mo_coreOf_28 : decode b_Mo_coreOf 28 = .ok (.istore 5, 2) := by decide +kernel
theorem d_Mo_coreOf_30 : decode b_Mo_coreOf 30 = .ok (.lconst 0, 1) := by decide +kernel
theorem d_Mo_coreOf_31 : decode b_Mo_coreOf 31 = .ok (.lstore 6, 2) := by decide +kernel
theorem d_Mo_coreOf_33 : decode b_Mo_coreOf 33 = .ok (.aload_n 0, 1) := by decide +kernel
theorem d_Mo_coreOf_34 : decode b_Mo_coreOf 34 = .ok (.getfield 156, 3) := by decide +kernel
theorem d_Mo_coreOf_37 : decode b_Mo_coreOf 37 = .ok (.iconst 1, 1) := by decide +kernel
theorem d_Mo_coreOf_38 : decode b_Mo_coreOf 38 = .ok (.isub, 1) := by decide +kernel
theorem d_Mo_coreOf_39 : decode b_Mo_coreOf 39 = .ok (.istore 8, 2) := by decide +kernel
theorem d_Mo_coreOf_41 : decode b_Mo_coreOf 41 = .ok (.iload 8, 2) := by decide +kernel
theorem d_Mo_coreOf_43 : decode b_Mo_coreOf 43 = .ok (.ifCond .lt 62, 3) := by decide +kernel
theorem d_Mo_coreOf_46 : decode b_Mo_coreOf 46 = .ok (.iload 5, 2) := by decide +kernel
theorem d_Mo_coreOf_48 : decode b_Mo_coreOf 48 = .ok (.aload_n 0, 1) := by decide +kernel
theorem d_Mo_coreOf_49 : decode b_Mo_coreOf 49 = .ok (.aload_n 0, 1) := by decide +kernel
theorem d_Mo_coreOf_50 : decode b_Mo_coreOf 50 = .ok (.getfield 29, 3) := by decide +kernel
theorem d_Mo_coreOf_53 : decode b_Mo_coreOf 53 = .ok (.iload 8, 2) := by decide +kernel
theorem d_Mo_coreOf_55 : decode b_Mo_coreOf 55 = .ok (.iaload, 1) := by decide +kernel
theorem d_Mo_coreOf_56 : decode b_Mo_coreOf 56 = .ok (.invokevirtual 106, 3) := by decide +kernel
theorem d_Mo_coreOf_59 : decode b_Mo_coreOf 59 = .ok (.aload_n 0, 1) := by decide +kernel
theorem d_Mo_coreOf_60 : decode b_Mo_coreOf 60 = .ok (.iconst 1, 1) := by decide +kernel
theorem d_Mo_coreOf_61 : decode b_Mo_coreOf 61 = .ok (.aload_n 0, 1) := by decide +kernel
theorem d_Mo_coreOf_62 : decode b_Mo_coreOf 62 = .ok (.iload_n 1, 1) := by decide +kernel
theorem d_Mo_coreOf_63 : decode b_Mo_coreOf 63 = .ok (.aload_n 0, 1) := by decide +kernel
theorem d_Mo_coreOf_64 : decode b_Mo_coreOf 64 = .ok (.getfield 29, 3) := by decide +kernel
theorem d_Mo_coreOf_67 : decode b_Mo_coreOf 67 = .ok (.iload 8, 2) := by decide +kernel
theorem d_Mo_coreOf_69 : decode b_Mo_coreOf 69 = .ok (.iaload, 1) := by decide +kernel
theorem d_Mo_coreOf_70 : decode b_Mo_coreOf 70 = .ok (.lload 6, 2) := by decide +kernel
theorem d_Mo_coreOf_72 : decode b_Mo_coreOf 72 = .ok (.invokevirtual 135, 3) := by decide +kernel
theorem d_Mo_coreOf_75 : decode b_Mo_coreOf 75 = .ok (.invokevirtual 144, 3) := by decide +kernel
theorem d_Mo_coreOf_78 : decode b_Mo_coreOf 78 = .ok (.iadd, 1) := by decide +kernel
theorem d_Mo_coreOf_79 : decode b_Mo_coreOf 79 = .ok (.invokestatic 162, 3) := by decide +kernel
theorem d_Mo_coreOf_82 : decode b_Mo_coreOf 82 = .ok (.istore 5, 2) := by decide +kernel
theorem d_Mo_coreOf_84 : decode b_Mo_coreOf 84 = .ok (.lload 6, 2) := by decide +kernel
theorem d_Mo_coreOf_86 : decode b_Mo_coreOf 86 = .ok (.aload_n 0, 1) := by decide +kernel
theorem d_Mo_coreOf_87 : decode b_Mo_coreOf 87 = .ok (.getfield 29, 3) := by decide +kernel
theorem d_Mo_coreOf_90 : decode b_Mo_coreOf 90 = .ok (.iload 8, 2) := by decide +kernel
theorem d_Mo_coreOf_92 : decode b_Mo_coreOf 92 = .ok (.iaload, 1) := by decide +kernel
theorem d_Mo_coreOf_93 : decode b_Mo_coreOf 93 = .ok (.invokestatic 110, 3) := by decide +kernel
theorem d_Mo_coreOf_96 : decode b_Mo_coreOf 96 = .ok (.lor, 1) := by decide +kernel
theorem d_Mo_coreOf_97 : decode b_Mo_coreOf 97 = .ok (.lstore 6, 2) := by decide +kernel
theorem d_Mo_coreOf_99 : decode b_Mo_coreOf 99 = .ok (.iinc 8 (-1), 3) := by decide +kernel
theorem d_Mo_coreOf_102 : decode b_Mo_coreOf 102 = .ok (.goto (-61), 3) := by decide +kernel
theorem d_Mo_coreOf_105 : decode b_Mo_coreOf 105 = .ok (.iload 5, 2) := by decide +kernel
theorem d_Mo_coreOf_107 : decode b_Mo_coreOf 107 = .ok (.ireturn, 1) := by decide +kernel
def B_Mo_coreOf_41 (k41 : Int32 → Int32 → Int64 → Int32 → Sto → Option (Int32 × Sto)) (v1 : Int32) (v5 : Int32) (v6 : Int64) (v8 : Int32) (σ : Sto) : Option (Int32 × Sto) :=
  (if v8 < 0 then some (v5, σ)
 else (if inb v8 40 = true then ((f_Mo_weight (gI σ 55 (Int32.toNatClampNeg v8)) σ).bind fun q3 => (if inb v8 40 = true then ((f_Mo_fits v1 (gI q3.2 55 (Int32.toNatClampNeg v8)) v6 q3.2).bind fun q4 => ((f_Mo_measureOf (1 : Int32) q4.1 q4.2).bind fun q5 => ((f_Mo_most v5 (q3.1 + q5.1) q5.2).bind fun q6 => (if inb v8 40 = true then ((f_Mo_bit (gI q6.2 55 (Int32.toNatClampNeg v8)) q6.2).bind fun q7 => k41 v1 q6.1 (v6 ||| q7.1) (v8 + (-1 : Int32)) q7.2) else none)))) else none)) else none))
set_option maxHeartbeats 4000000 in
set_option maxRecDepth 100000 in
theorem vB_Mo_coreOf_41 {X : Xt} {E : En} (g : GG X E 5 b_Mo_coreOf R_Mo 9) {k41 : Int32 → Int32 → Int64 → Int32 → Sto → Option (Int32 × Sto)} (hk41 : ∀ (v1 : Int32) (v5 : Int32) (v6 : Int64) (v8 : Int32) (σ : Sto), VV X E b_Mo_coreOf 9 eI 41 [(0, .ref (E.2.1 48)), (1, .int v1), (5, .int v5), (6, .long v6), (8, .int v8)] [] σ (k41 v1 v5 v6 v8 σ)) (v1 : Int32) (v5 : Int32) (v6 : Int64) (v8 : Int32) (σ : Sto) : VV X E b_Mo_coreOf 9 eI 41 [(0, .ref (E.2.1 48)), (1, .int v1), (5, .int v5), (6, .long v6), (8, .int v8)] [] σ (B_Mo_coreOf_41 k41 v1 v5 v6 v8 σ) := by
  unfold B_Mo_coreOf_41
  refine v_iload 4 g d_Mo_coreOf_41 rfl ?_
  refine v_if_lt 105 g d_Mo_coreOf_43 (by decide) (fun _ => ?_) (fun _ => ?_)
  · refine v_iload 2 g d_Mo_coreOf_105 rfl ?_
    exact v_ret d_Mo_coreOf_107 rfl
  · refine v_iload 2 g d_Mo_coreOf_46 rfl ?_
    refine v_aload_n 0 g d_Mo_coreOf_48 rfl ?_
    refine v_aload_n 0 g d_Mo_coreOf_49 rfl ?_
    refine v_getR 55 g ff_Mo_29 rfl rfl rfl d_Mo_coreOf_50 ?_
    refine v_iload 4 g d_Mo_coreOf_53 rfl ?_
    refine v_iald g rfl rfl d_Mo_coreOf_55 (fun _ => ?_)
    refine v_callI (r_V (rest := [.int v5]) [.int (gI σ 55 (Int32.toNatClampNeg v8))] g (m1 1184 (by decide +kernel) (by decide +kernel)) yv_Mo_weight rfl (fun r σ1 h => sp_Mo_weight g.2.2.1  h) rfl rfl (by decide) (Nat.le_of_ble_eq_true rfl) d_Mo_coreOf_56) (fun q3 => ?_)
    refine v_aload_n 0 g d_Mo_coreOf_59 rfl ?_
    refine v_iconst (v := (1 : Int32)) g d_Mo_coreOf_60 (by decide +kernel) ?_
    refine v_aload_n 0 g d_Mo_coreOf_61 rfl ?_
    refine v_iload_n 1 g d_Mo_coreOf_62 rfl ?_
    refine v_aload_n 0 g d_Mo_coreOf_63 rfl ?_
    refine v_getR 55 g ff_Mo_29 rfl rfl rfl d_Mo_coreOf_64 ?_
    refine v_iload 4 g d_Mo_coreOf_67 rfl ?_
    refine v_iald g rfl rfl d_Mo_coreOf_69 (fun _ => ?_)
    refine v_lload 3 g d_Mo_coreOf_70 rfl ?_
    refine v_callL (r_V (rest := [.int (1 : Int32), .ref (E.2.1 48), .int q3.1, .int v5]) [.int v1, .int (gI q3.2 55 (Int32.toNatClampNeg v8)), .long v6] g (m1 1233 (by decide +kernel) (by decide +kernel)) yv_Mo_fits rfl (fun r σ1 h => sp_Mo_fits g.2.2.1  h) rfl rfl (by decide) (Nat.le_of_ble_eq_true rfl) d_Mo_coreOf_72) (fun q4 => ?_)
    refine v_callI (r_V (rest := [.int q3.1, .int v5]) [.int (1 : Int32), .long q4.1] g (m1 1242 (by decide +kernel) (by decide +kernel)) yv_Mo_measureOf rfl (fun r σ1 h => sp_Mo_measureOf g.2.2.1  h) rfl rfl (by decide) (Nat.le_of_ble_eq_true rfl) d_Mo_coreOf_75) (fun q5 => ?_)
    refine v_iadd g d_Mo_coreOf_78 ?_
    refine v_callI (r_S (rest := []) [.int v5, .int (q3.1 + q5.1)] g (m1 1270 (by decide +kernel) (by decide +kernel)) ys_Mo_most (fun r σ1 h => sp_Mo_most g.2.2.1  h) rfl rfl (by decide) (Nat.le_of_ble_eq_true rfl) d_Mo_coreOf_79) (fun q6 => ?_)
    refine v_istore [(5, .int q6.1), (0, .ref (E.2.1 48)), (1, .int v1), (6, .long v6), (8, .int v8)] g d_Mo_coreOf_82 (by decide) rfl ?_
    refine v_lload 3 g d_Mo_coreOf_84 rfl ?_
    refine v_aload_n 1 g d_Mo_coreOf_86 rfl ?_
    refine v_getR 55 g ff_Mo_29 rfl rfl rfl d_Mo_coreOf_87 ?_
    refine v_iload 4 g d_Mo_coreOf_90 rfl ?_
    refine v_iald g rfl rfl d_Mo_coreOf_92 (fun _ => ?_)
    refine v_callL (r_S (rest := [.long v6]) [.int (gI q6.2 55 (Int32.toNatClampNeg v8))] g (m1 1213 (by decide +kernel) (by decide +kernel)) ys_Mo_bit (fun r σ1 h => sp_Mo_bit g.2.2.1  h) rfl rfl (by decide) (Nat.le_of_ble_eq_true rfl) d_Mo_coreOf_93) (fun q7 => ?_)
    refine v_lor g d_Mo_coreOf_96 ?_
    refine v_lstore [(6, .long (v6 ||| q7.1)), (5, .int q6.1), (0, .ref (E.2.1 48)), (1, .int v1), (8, .int v8)] g d_Mo_coreOf_97 (by decide) rfl ?_
    refine v_iinc 4 [(8, .int (v8 + (-1 : Int32))), (6, .long (v6 ||| q7.1)), (5, .int q6.1), (0, .ref (E.2.1 48)), (1, .int v1)] g d_Mo_coreOf_99 rfl (v := (-1 : Int32)) (by decide +kernel) (by decide) rfl ?_
    refine v_goto 41 g d_Mo_coreOf_102 (by decide) ?_
    exact v_sub [3,4,2,1,0] rfl (hk41 v1 q6.1 (v6 ||| q7.1) (v8 + (-1 : Int32)) q7.2)
def L_Mo_coreOf_41 : Nat → Int32 → Int32 → Int64 → Int32 → Sto → Option (Int32 × Sto)
  | 0, _, _, _, _, _ => none
  | fu + 1, v1, v5, v6, v8, σ => B_Mo_coreOf_41 (L_Mo_coreOf_41 fu) v1 v5 v6 v8 σ
theorem vL_Mo_coreOf_41 {X : Xt} {E : En} (g : GG X E 5 b_Mo_coreOf R_Mo 9) (fu : Nat) : ∀ (v1 : Int32) (v5 : Int32) (v6 : Int64) (v8 : Int32) (σ : Sto), VV X E b_Mo_coreOf 9 eI 41 [(0, .ref (E.2.1 48)), (1, .int v1), (5, .int v5), (6, .long v6), (8, .int v8)] [] σ (L_Mo_coreOf_41 fu v1 v5 v6 v8 σ) := by
  induction fu with
  | zero => intros; exact v_none
  | succ fu ih =>
    intro v1 v5 v6 v8 σ
    exact vB_Mo_coreOf_41 g ih v1 v5 v6 v8 σ
def B_Mo_coreOf_0 (a1 : Int32) (a2 : Int32) (a3 : Int64) (σ : Sto) : Option (Int32 × Sto) :=
  ((f_Mo_lines a1 a3 σ).bind fun q1 => (if a2 = 0 then (if a3 = (0 : Int64) then some ((0 : Int32), q1.2)
  else some (((gI q1.2 48 11) + (1 : Int32)), q1.2))
 else (lt1 ((gI q1.2 48 10) - (1 : Int32)) fun x2 => L_Mo_coreOf_41 LF a1 (0 : Int32) (0 : Int64) x2 q1.2)))
set_option maxHeartbeats 4000000 in
set_option maxRecDepth 100000 in
theorem vB_Mo_coreOf_0 {X : Xt} {E : En} (g : GG X E 5 b_Mo_coreOf R_Mo 9) (a1 : Int32) (a2 : Int32) (a3 : Int64) (σ : Sto) : VV X E b_Mo_coreOf 9 eI 0 [(0, .ref (E.2.1 48)), (1, .int a1), (2, .int a2), (3, .long a3)] [] σ (B_Mo_coreOf_0 a1 a2 a3 σ) := by
  unfold B_Mo_coreOf_0
  refine v_aload_n 0 g d_Mo_coreOf_0 rfl ?_
  refine v_iload_n 1 g d_Mo_coreOf_1 rfl ?_
  refine v_lload_n 3 g d_Mo_coreOf_2 rfl ?_
  refine v_callU (r_V (rest := []) [.int a1, .long a3] g (m1 1266 (by decide +kernel) (by decide +kernel)) yv_Mo_lines rfl (fun r σ1 h => sp_Mo_lines g.2.2.1  h) rfl rfl (by decide) (Nat.le_of_ble_eq_true rfl) d_Mo_coreOf_3) (fun q1 => ?_)
  refine v_iload_n 2 g d_Mo_coreOf_6 rfl ?_
  refine v_if_ne 27 g d_Mo_coreOf_7 (by decide) (fun _ => ?_) (fun _ => ?_)
  · refine v_iconst (v := (0 : Int32)) g d_Mo_coreOf_27 (by decide +kernel) ?_
    refine v_istore [(5, .int (0 : Int32)), (0, .ref (E.2.1 48)), (1, .int a1), (2, .int a2), (3, .long a3)] g d_Mo_coreOf_28 (by decide) rfl ?_
    refine v_lconst (v := (0 : Int64)) g d_Mo_coreOf_30 (by decide +kernel) ?_
    refine v_lstore [(6, .long (0 : Int64)), (5, .int (0 : Int32)), (0, .ref (E.2.1 48)), (1, .int a1), (2, .int a2), (3, .long a3)] g d_Mo_coreOf_31 (by decide) rfl ?_
    refine v_aload_n 2 g d_Mo_coreOf_33 rfl ?_
    refine v_getI g ff_Mo_156 rfl rfl d_Mo_coreOf_34 ?_
    refine v_iconst (v := (1 : Int32)) g d_Mo_coreOf_37 (by decide +kernel) ?_
    refine v_isub g d_Mo_coreOf_38 ?_
    refine v_nlet (fun x2 ex2 => ?_)
    rw [← ex2]
    refine v_istore [(8, .int x2), (6, .long (0 : Int64)), (5, .int (0 : Int32)), (0, .ref (E.2.1 48)), (1, .int a1), (2, .int a2), (3, .long a3)] g d_Mo_coreOf_39 (by decide) rfl ?_
    exact v_sub [3,4,2,1,0] rfl (vL_Mo_coreOf_41 g LF a1 (0 : Int32) (0 : Int64) x2 q1.2)
  · refine v_lload_n 3 g d_Mo_coreOf_10 rfl ?_
    refine v_lconst (v := (0 : Int64)) g d_Mo_coreOf_11 (by decide +kernel) ?_
    refine v_lcmp_ne 20 g d_Mo_coreOf_12 d_Mo_coreOf_13 (by decide) (fun _ => ?_) (fun _ => ?_)
    · refine v_aload_n 0 g d_Mo_coreOf_20 rfl ?_
      refine v_getI g ff_Mo_159 rfl rfl d_Mo_coreOf_21 ?_
      refine v_iconst (v := (1 : Int32)) g d_Mo_coreOf_24 (by decide +kernel) ?_
      refine v_iadd g d_Mo_coreOf_25 ?_
      exact v_ret d_Mo_coreOf_26 rfl
    · refine v_iconst (v := (0 : Int32)) g d_Mo_coreOf_16 (by decide +kernel) ?_
      refine v_goto 26 g d_Mo_coreOf_17 (by decide) ?_
      exact v_ret d_Mo_coreOf_26 rfl
def f_Mo_coreOf (a1 : Int32) (a2 : Int32) (a3 : Int64) (σ : Sto) : Option (Int32 × Sto) := B_Mo_coreOf_0 a1 a2 a3 σ
theorem sp_Mo_coreOf {l : Launch} {E : En} (hE : Dj E) {a1 : Int32} {a2 : Int32} {a3 : Int64} {σ : Sto} {r : Int32} {σ' : Sto} (h : f_Mo_coreOf a1 a2 a3 σ = some (r, σ')) : Ct l E y_Mo_coreOf (wsM y_Mo_coreOf b_Mo_coreOf 9 (some .int)) 5 [.ref (E.2.1 48), .int a1, .int a2, .long a3] σ (eI r) σ' :=
  ct_of hE (by decide +kernel) (Nat.le_of_ble_eq_true rfl) (fun x => Or.inl ⟨rfl, x, rfl⟩) (fun X _ g => vB_Mo_coreOf_0 g a1 a2 a3 σ) r σ' h
/-! method FittingRingsModel.boundOf(IIIJ)I -/
theorem yv_Mo_boundOf : YV y_Mo_boundOf b_Mo_boundOf 6 (some .int) 4 10 := ⟨m1 1308 (by decide +kernel) (by decide +kernel), m1 40 (by decide +kernel) (by decide +kernel), ini_Mo, m1 1309 (by decide +kernel) (by decide +kernel), ⟨by decide +kernel, by decide +kernel, by decide +kernel⟩, by decide, by decide, T_Mo, 39, rfl⟩
theorem d_Mo_boundOf_0 : decode b_Mo_boundOf 0 = .ok (.iload_n 1, 1) := by decide +kernel
theorem d_Mo_boundOf_1 : decode b_Mo_boundOf 1 = .ok (.tableswitch 102 1 4 #[31, 40, 49, 79], 31) := by decide +kernel
theorem d_Mo_boundOf_32 : decode b_Mo_boundOf 32 = .ok (.aload_n 0, 1) := by decide +kernel
theorem d_Mo_boundOf_33 : decode b_Mo_boundOf 33 = .ok (.iload_n 2, 1) := by decide +kernel
theorem d_Mo_boundOf_34 : decode b_Mo_boundOf 34 = .ok (.iload_n 3, 1) := by decide +kernel
theorem d_Mo_boundOf_35 : decode b_Mo_boundOf 35 = .ok (.lload 4, 2) := by decide +kernel
theorem d_Mo_boundOf_37 : decode b_Mo_boundOf 37 = .ok (.invokevirtual 184, 3) := by decide +kernel
theorem d_Mo_boundOf_40 : decode b_Mo_boundOf 40 = .ok (.ireturn, 1) := by decide +kernel
theorem d_Mo_boundOf_41 : decode b_Mo_boundOf 41 = .ok (.aload_n 0, 1) := by decide +kernel
theorem d_Mo_boundOf_42 : decode b_Mo_boundOf 42 = .ok (.iload_n 2, 1) := by decide +kernel
theorem d_Mo_boundOf_43 : decode b_Mo_boundOf 43 = .ok (.iload_n 3, 1) := by decide +kernel
theorem d_Mo_boundOf_44 : decode b_Mo_boundOf 44 = .ok (.lload 4, 2) := by decide +kernel
theorem d_Mo_boundOf_46 : decode b_Mo_boundOf 46 = .ok (.invokevirtual 188, 3) := by decide +kernel
theorem d_Mo_boundOf_49 : decode b_Mo_boundOf 49 = .ok (.ireturn, 1) := by decide +kernel
theorem d_Mo_boundOf_50 : decode b_Mo_boundOf 50 = .ok (.aload_n 0, 1) := by decide +kernel
theorem d_Mo_boundOf_51 : decode b_Mo_boundOf 51 = .ok (.iload_n 3, 1) := by decide +kernel
theorem d_Mo_boundOf_52 : decode b_Mo_boundOf 52 = .ok (.aload_n 0, 1) := by decide +kernel
theorem d_Mo_boundOf_53 : decode b_Mo_boundOf 53 = .ok (.iload_n 2, 1) := by decide +kernel
theorem d_Mo_boundOf_54 : decode b_Mo_boundOf 54 = .ok (.lload 4, 2) := by decide +kernel
theorem d_Mo_boundOf_56 : decode b_Mo_boundOf 56 = .ok (.invokevirtual 177, 3) := by decide +kernel
theorem d_Mo_boundOf_59 : decode b_Mo_boundOf 59 = .ok (.invokevirtual 144, 3) := by decide +kernel
theorem d_Mo_boundOf_62 : decode b_Mo_boundOf 62 = .ok (.aload_n 0, 1) := by decide +kernel
theorem d_Mo_boundOf_63 : decode b_Mo_boundOf 63 = .ok (.iload_n 2, 1) := by decide +kernel
theorem d_Mo_boundOf_64 : decode b_Mo_boundOf 64 = .ok (.iload_n 3, 1) := by decide +kernel
theorem d_Mo_boundOf_65 : decode b_Mo_boundOf 65 = .ok (.aload_n 0, 1) := by decide +kernel
theorem d_Mo_boundOf_66 : decode b_Mo_boundOf 66 = .ok (.iload_n 2, 1) := by decide +kernel
theorem d_Mo_boundOf_67 : decode b_Mo_boundOf 67 = .ok (.iload_n 3, 1) := by decide +kernel
theorem d_Mo_boundOf_68 : decode b_Mo_boundOf 68 = .ok (.lload 4, 2) := by decide +kernel
theorem d_Mo_boundOf_70 : decode b_Mo_boundOf 70 = .ok (.invokevirtual 181, 3) := by decide +kernel
theorem d_Mo_boundOf_73 : decode b_Mo_boundOf 73 = .ok (.invokevirtual 184, 3) := by decide +kernel
theorem d_Mo_boundOf_76 : decode b_Mo_boundOf 76 = .ok (.invokestatic 162, 3) := by decide +kernel
theorem d_Mo_boundOf_79 : decode b_Mo_boundOf 79 = .ok (.ireturn, 1) := by decide +kernel
theorem d_Mo_boundOf_80 : decode b_Mo_boundOf 80 = .ok (.aload_n 0, 1) := by decide +kernel
theorem d_Mo_boundOf_81 : decode b_Mo_boundOf 81 = .ok (.iload_n 2, 1) := by decide +kernel
theorem d_Mo_boundOf_82 : decode b_Mo_boundOf 82 = .ok (.iload_n 3, 1) := by decide +kernel
theorem d_Mo_boundOf_83 : decode b_Mo_boundOf 83 = .ok (.lload 4, 2) := by decide +kernel
theorem d_Mo_boundOf_85 : decode b_Mo_boundOf 85 = .ok (.invokevirtual 188, 3) := by decide +kernel
theorem d_Mo_boundOf_88 : decode b_Mo_boundOf 88 = .ok (.ineg, 1) := by decide +kernel
theorem d_Mo_boundOf_89 : decode b_Mo_boundOf 89 = .ok (.aload_n 0, 1) := by decide +kernel
theorem d_Mo_boundOf_90 : decode b_Mo_boundOf 90 = .ok (.iload_n 2, 1) := by decide +kernel
theorem d_Mo_boundOf_91 : decode b_Mo_boundOf 91 = .ok (.iload_n 3, 1) := by decide +kernel
theorem d_Mo_boundOf_92 : decode b_Mo_boundOf 92 = .ok (.lload 4, 2) := by decide +kernel
theorem d_Mo_boundOf_94 : decode b_Mo_boundOf 94 = .ok (.invokevirtual 184, 3) := by decide +kernel
theorem d_Mo_boundOf_97 : decode b_Mo_boundOf 97 = .ok (.ineg, 1) := by decide +kernel
theorem d_Mo_boundOf_98 : decode b_Mo_boundOf 98 = .ok (.invokestatic 162, 3) := by decide +kernel
theorem d_Mo_boundOf_101 : decode b_Mo_boundOf 101 = .ok (.ineg, 1) := by decide +kernel
theorem d_Mo_boundOf_102 : decode b_Mo_boundOf 102 = .ok (.ireturn, 1) := by decide +kernel
theorem d_Mo_boundOf_103 : decode b_Mo_boundOf 103 = .ok (.aload_n 0, 1) := by decide +kernel
theorem d_Mo_boundOf_104 : decode b_Mo_boundOf 104 = .ok (.iload_n 3, 1) := by decide +kernel
theorem d_Mo_boundOf_105 : decode b_Mo_boundOf 105 = .ok (.lload 4, 2) := by decide +kernel
theorem d_Mo_boundOf_107 : decode b_Mo_boundOf 107 = .ok (.invokevirtual 144, 3) := by decide +kernel
theorem d_Mo_boundOf_110 : decode b_Mo_boundOf 110 = .ok (.ireturn, 1) := by decide +kernel
def B_Mo_boundOf_0 (a1 : Int32) (a2 : Int32) (a3 : Int32) (a4 : Int64) (σ : Sto) : Option (Int32 × Sto) :=
  (if a1 = (1 : Int32) then ((f_Mo_coloursOf a2 a3 a4 σ).bind fun q1 => some (q1.1, q1.2))
 else (if a1 = (2 : Int32) then ((f_Mo_coreOf a2 a3 a4 σ).bind fun q2 => some (q2.1, q2.2))
  else (if a1 = (3 : Int32) then ((f_Mo_takenOf a2 a4 σ).bind fun q3 => ((f_Mo_measureOf a3 q3.1 q3.2).bind fun q4 => ((f_Mo_leftOf a2 a3 a4 q4.2).bind fun q5 => ((f_Mo_coloursOf a2 a3 q5.1 q5.2).bind fun q6 => ((f_Mo_most q4.1 q6.1 q6.2).bind fun q7 => some (q7.1, q7.2))))))
   else (if a1 = (4 : Int32) then ((f_Mo_coreOf a2 a3 a4 σ).bind fun q8 => ((f_Mo_coloursOf a2 a3 a4 q8.2).bind fun q9 => ((f_Mo_most (-q8.1) (-q9.1) q9.2).bind fun q10 => some ((-q10.1), q10.2))))
    else ((f_Mo_measureOf a3 a4 σ).bind fun q11 => some (q11.1, q11.2))))))
set_option maxHeartbeats 4000000 in
set_option maxRecDepth 100000 in
theorem vB_Mo_boundOf_0 {X : Xt} {E : En} (g : GG X E 6 b_Mo_boundOf R_Mo 6) (a1 : Int32) (a2 : Int32) (a3 : Int32) (a4 : Int64) (σ : Sto) : VV X E b_Mo_boundOf 6 eI 0 [(0, .ref (E.2.1 48)), (1, .int a1), (2, .int a2), (3, .int a3), (4, .long a4)] [] σ (B_Mo_boundOf_0 a1 a2 a3 a4 σ) := by
  unfold B_Mo_boundOf_0
  refine v_iload_n 1 g d_Mo_boundOf_0 rfl ?_
  refine v_ite _ (fun h_0 => ?_) (fun h_0 => ?_)
  · refine v_tableIn 32 g d_Mo_boundOf_1 (by rw [h_0]; decide +kernel) (by rw [h_0]; decide +kernel) (off := 31) (by rw [h_0]; decide +kernel) (by decide) ?_
    refine v_aload_n 0 g d_Mo_boundOf_32 rfl ?_
    refine v_iload_n 2 g d_Mo_boundOf_33 rfl ?_
    refine v_iload_n 3 g d_Mo_boundOf_34 rfl ?_
    refine v_lload 4 g d_Mo_boundOf_35 rfl ?_
    refine v_callI (r_V (rest := []) [.int a2, .int a3, .long a4] g (m1 1310 (by decide +kernel) (by decide +kernel)) yv_Mo_coloursOf rfl (fun r σ1 h => sp_Mo_coloursOf g.2.2.1  h) rfl rfl (by decide) (Nat.le_of_ble_eq_true rfl) d_Mo_boundOf_37) (fun q1 => ?_)
    exact v_ret d_Mo_boundOf_40 rfl
  · refine v_ite _ (fun h_1 => ?_) (fun h_1 => ?_)
    · refine v_tableIn 41 g d_Mo_boundOf_1 (by rw [h_1]; decide +kernel) (by rw [h_1]; decide +kernel) (off := 40) (by rw [h_1]; decide +kernel) (by decide) ?_
      refine v_aload_n 0 g d_Mo_boundOf_41 rfl ?_
      refine v_iload_n 2 g d_Mo_boundOf_42 rfl ?_
      refine v_iload_n 3 g d_Mo_boundOf_43 rfl ?_
      refine v_lload 4 g d_Mo_boundOf_44 rfl ?_
      refine v_callI (r_V (rest := []) [.int a2, .int a3, .long a4] g (m1 1314 (by decide +kernel) (by decide +kernel)) yv_Mo_coreOf rfl (fun r σ1 h => sp_Mo_coreOf g.2.2.1  h) rfl rfl (by decide) (Nat.le_of_ble_eq_true rfl) d_Mo_boundOf_46) (fun q2 => ?_)
      exact v_ret d_Mo_boundOf_49 rfl
    · refine v_ite _ (fun h_2 => ?_) (fun h_2 => ?_)
      · refine v_tableIn 50 g d_Mo_boundOf_1 (by rw [h_2]; decide +kernel) (by rw [h_2]; decide +kernel) (off := 49) (by rw [h_2]; decide +kernel) (by decide) ?_
        refine v_aload_n 0 g d_Mo_boundOf_50 rfl ?_
        refine v_iload_n 3 g d_Mo_boundOf_51 rfl ?_
        refine v_aload_n 0 g d_Mo_boundOf_52 rfl ?_
        refine v_iload_n 2 g d_Mo_boundOf_53 rfl ?_
        refine v_lload 4 g d_Mo_boundOf_54 rfl ?_
        refine v_callL (r_V (rest := [.int a3, .ref (E.2.1 48)]) [.int a2, .long a4] g (m1 1286 (by decide +kernel) (by decide +kernel)) yv_Mo_takenOf rfl (fun r σ1 h => sp_Mo_takenOf g.2.2.1  h) rfl rfl (by decide) (Nat.le_of_ble_eq_true rfl) d_Mo_boundOf_56) (fun q3 => ?_)
        refine v_callI (r_V (rest := []) [.int a3, .long q3.1] g (m1 1242 (by decide +kernel) (by decide +kernel)) yv_Mo_measureOf rfl (fun r σ1 h => sp_Mo_measureOf g.2.2.1  h) rfl rfl (by decide) (Nat.le_of_ble_eq_true rfl) d_Mo_boundOf_59) (fun q4 => ?_)
        refine v_aload_n 0 g d_Mo_boundOf_62 rfl ?_
        refine v_iload_n 2 g d_Mo_boundOf_63 rfl ?_
        refine v_iload_n 3 g d_Mo_boundOf_64 rfl ?_
        refine v_aload_n 0 g d_Mo_boundOf_65 rfl ?_
        refine v_iload_n 2 g d_Mo_boundOf_66 rfl ?_
        refine v_iload_n 3 g d_Mo_boundOf_67 rfl ?_
        refine v_lload 4 g d_Mo_boundOf_68 rfl ?_
        refine v_callL (r_V (rest := [.int a3, .int a2, .ref (E.2.1 48), .int q4.1]) [.int a2, .int a3, .long a4] g (m1 1294 (by decide +kernel) (by decide +kernel)) yv_Mo_leftOf rfl (fun r σ1 h => sp_Mo_leftOf g.2.2.1  h) rfl rfl (by decide) (Nat.le_of_ble_eq_true rfl) d_Mo_boundOf_70) (fun q5 => ?_)
        refine v_callI (r_V (rest := [.int q4.1]) [.int a2, .int a3, .long q5.1] g (m1 1310 (by decide +kernel) (by decide +kernel)) yv_Mo_coloursOf rfl (fun r σ1 h => sp_Mo_coloursOf g.2.2.1  h) rfl rfl (by decide) (Nat.le_of_ble_eq_true rfl) d_Mo_boundOf_73) (fun q6 => ?_)
        refine v_callI (r_S (rest := []) [.int q4.1, .int q6.1] g (m1 1270 (by decide +kernel) (by decide +kernel)) ys_Mo_most (fun r σ1 h => sp_Mo_most g.2.2.1  h) rfl rfl (by decide) (Nat.le_of_ble_eq_true rfl) d_Mo_boundOf_76) (fun q7 => ?_)
        exact v_ret d_Mo_boundOf_79 rfl
      · refine v_ite _ (fun h_3 => ?_) (fun h_3 => ?_)
        · refine v_tableIn 80 g d_Mo_boundOf_1 (by rw [h_3]; decide +kernel) (by rw [h_3]; decide +kernel) (off := 79) (by rw [h_3]; decide +kernel) (by decide) ?_
          refine v_aload_n 0 g d_Mo_boundOf_80 rfl ?_
          refine v_iload_n 2 g d_Mo_boundOf_81 rfl ?_
          refine v_iload_n 3 g d_Mo_boundOf_82 rfl ?_
          refine v_lload 4 g d_Mo_boundOf_83 rfl ?_
          refine v_callI (r_V (rest := []) [.int a2, .int a3, .long a4] g (m1 1314 (by decide +kernel) (by decide +kernel)) yv_Mo_coreOf rfl (fun r σ1 h => sp_Mo_coreOf g.2.2.1  h) rfl rfl (by decide) (Nat.le_of_ble_eq_true rfl) d_Mo_boundOf_85) (fun q8 => ?_)
          refine v_ineg g d_Mo_boundOf_88 ?_
          refine v_aload_n 0 g d_Mo_boundOf_89 rfl ?_
          refine v_iload_n 2 g d_Mo_boundOf_90 rfl ?_
          refine v_iload_n 3 g d_Mo_boundOf_91 rfl ?_
          refine v_lload 4 g d_Mo_boundOf_92 rfl ?_
          refine v_callI (r_V (rest := [.int (-q8.1)]) [.int a2, .int a3, .long a4] g (m1 1310 (by decide +kernel) (by decide +kernel)) yv_Mo_coloursOf rfl (fun r σ1 h => sp_Mo_coloursOf g.2.2.1  h) rfl rfl (by decide) (Nat.le_of_ble_eq_true rfl) d_Mo_boundOf_94) (fun q9 => ?_)
          refine v_ineg g d_Mo_boundOf_97 ?_
          refine v_callI (r_S (rest := []) [.int (-q8.1), .int (-q9.1)] g (m1 1270 (by decide +kernel) (by decide +kernel)) ys_Mo_most (fun r σ1 h => sp_Mo_most g.2.2.1  h) rfl rfl (by decide) (Nat.le_of_ble_eq_true rfl) d_Mo_boundOf_98) (fun q10 => ?_)
          refine v_ineg g d_Mo_boundOf_101 ?_
          exact v_ret d_Mo_boundOf_102 rfl
        · refine v_tableOut 103 g d_Mo_boundOf_1 (by have n0 := sw_ne h_0 (show ((1 : Int32)).toInt = 1 by decide +kernel); have n1 := sw_ne h_1 (show ((2 : Int32)).toInt = 2 by decide +kernel); have n2 := sw_ne h_2 (show ((3 : Int32)).toInt = 3 by decide +kernel); have n3 := sw_ne h_3 (show ((4 : Int32)).toInt = 4 by decide +kernel); omega) (by decide) ?_
          refine v_aload_n 0 g d_Mo_boundOf_103 rfl ?_
          refine v_iload_n 3 g d_Mo_boundOf_104 rfl ?_
          refine v_lload 4 g d_Mo_boundOf_105 rfl ?_
          refine v_callI (r_V (rest := []) [.int a3, .long a4] g (m1 1242 (by decide +kernel) (by decide +kernel)) yv_Mo_measureOf rfl (fun r σ1 h => sp_Mo_measureOf g.2.2.1  h) rfl rfl (by decide) (Nat.le_of_ble_eq_true rfl) d_Mo_boundOf_107) (fun q11 => ?_)
          exact v_ret d_Mo_boundOf_110 rfl
def f_Mo_boundOf (a1 : Int32) (a2 : Int32) (a3 : Int32) (a4 : Int64) (σ : Sto) : Option (Int32 × Sto) := B_Mo_boundOf_0 a1 a2 a3 a4 σ
theorem sp_Mo_boundOf {l : Launch} {E : En} (hE : Dj E) {a1 : Int32} {a2 : Int32} {a3 : Int32} {a4 : Int64} {σ : Sto} {r : Int32} {σ' : Sto} (h : f_Mo_boundOf a1 a2 a3 a4 σ = some (r, σ')) : Ct l E y_Mo_boundOf (wsM y_Mo_boundOf b_Mo_boundOf 6 (some .int)) 6 [.ref (E.2.1 48), .int a1, .int a2, .int a3, .long a4] σ (eI r) σ' :=
  ct_of hE (by decide +kernel) (Nat.le_of_ble_eq_true rfl) (fun x => Or.inl ⟨rfl, x, rfl⟩) (fun X _ g => vB_Mo_boundOf_0 g a1 a2 a3 a4 σ) r σ' h
/-! method FittingRingsModel.isRule(I)Z -/
theorem ys_Mo_isRule : YS y_Mo_isRule b_Mo_isRule 1 (some .boolean) 1 := ⟨m1 1303 (by decide +kernel) (by decide +kernel), ini_Mo, m1 1304 (by decide +kernel) (by decide +kernel), ⟨by decide +kernel, by decide +kernel, by decide +kernel⟩, by decide⟩
theorem d_Mo_isRule_0 : decode b_Mo_isRule 0 = .ok (.iload_n 0, 1) := by decide +kernel
theorem d_Mo_isRule_1 : decode b_Mo_isRule 1 = .ok (.i2l, 1) := by decide +kernel
theorem d_Mo_isRule_2 : decode b_Mo_isRule 2 = .ok (.lconst 0, 1) := by decide +kernel
theorem d_Mo_isRule_3 : decode b_Mo_isRule 3 = .ok (.ldc2_w 191, 3) := by decide +kernel
theorem d_Mo_isRule_6 : decode b_Mo_isRule 6 = .ok (.invokestatic 84, 3) := by decide +kernel
theorem d_Mo_isRule_9 : decode b_Mo_isRule 9 = .ok (.ireturn, 1) := by decide +kernel
def B_Mo_isRule_0 (a0 : Int32) (σ : Sto) : Option (Bool × Sto) :=
  ((f_Mo_in (Int32.toInt64 a0) (0 : Int64) (4 : Int64) σ).bind fun q1 => some (q1.1, q1.2))
set_option maxHeartbeats 4000000 in
set_option maxRecDepth 100000 in
theorem vB_Mo_isRule_0 {X : Xt} {E : En} (g : GG X E 2 b_Mo_isRule R_Mo 1) (a0 : Int32) (σ : Sto) : VV X E b_Mo_isRule 1 eB 0 [(0, .int a0)] [] σ (B_Mo_isRule_0 a0 σ) := by
  unfold B_Mo_isRule_0
  refine v_iload_n 0 g d_Mo_isRule_0 rfl ?_
  refine v_i2l g d_Mo_isRule_1 ?_
  refine v_lconst (v := (0 : Int64)) g d_Mo_isRule_2 (by decide +kernel) ?_
  refine v_ldc2 (v := (4 : Int64)) g (m1 1305 (by decide +kernel) (by decide +kernel)) d_Mo_isRule_3 ?_
  refine v_callB (r_S (rest := []) [.long (Int32.toInt64 a0), .long (0 : Int64), .long (4 : Int64)] g (m1 1167 (by decide +kernel) (by decide +kernel)) ys_Mo_in (fun r σ1 h => sp_Mo_in g.2.2.1  h) rfl rfl (by decide) (Nat.le_of_ble_eq_true rfl) d_Mo_isRule_6) (fun q1 => ?_)
  exact v_ret d_Mo_isRule_9 rfl
def f_Mo_isRule (a0 : Int32) (σ : Sto) : Option (Bool × Sto) := B_Mo_isRule_0 a0 σ
theorem sp_Mo_isRule {l : Launch} {E : En} (hE : Dj E) {a0 : Int32} {σ : Sto} {r : Bool} {σ' : Sto} (h : f_Mo_isRule a0 σ = some (r, σ')) : Ct l E y_Mo_isRule (wsM y_Mo_isRule b_Mo_isRule 1 (some .boolean)) 2 [.int a0] σ (eB r) σ' :=
  ct_of hE (by decide +kernel) (Nat.le_of_ble_eq_true rfl) (fun b => Or.inr (Or.inl ⟨rfl, b, rfl⟩)) (fun X _ g => vB_Mo_isRule_0 g a0 σ) r σ' h
/-! method FittingRingsModel.bound(IIIJ)I -/
theorem yv_Mo_bound : YV y_Mo_bound b_Mo_bound 6 (some .int) 4 10 := ⟨m1 1299 (by decide +kernel) (by decide +kernel), m1 1300 (by decide +kernel) (by decide +kernel), ini_Mo, m1 1301 (by decide +kernel) (by decide +kernel), ⟨by decide +kernel, by decide +kernel, by decide +kernel⟩, by decide, by decide, T_Mo, 39, rfl⟩
theorem d_Mo_bound_0 : decode b_Mo_bound 0 = .ok (.iload_n 1, 1) := by decide +kernel
theorem d_Mo_bound_1 : decode b_Mo_bound 1 = .ok (.invokestatic 193, 3) := by decide +kernel
theorem d_Mo_bound_4 : decode b_Mo_bound 4 = .ok (.ifCond .eq 38, 3) := by decide +kernel
theorem d_Mo_bound_7 : decode b_Mo_bound 7 = .ok (.iload_n 2, 1) := by decide +kernel
theorem d_Mo_bound_8 : decode b_Mo_bound 8 = .ok (.invokestatic 116, 3) := by decide +kernel
theorem d_Mo_bound_11 : decode b_Mo_bound 11 = .ok (.ifCond .eq 31, 3) := by decide +kernel
theorem d_Mo_bound_14 : decode b_Mo_bound 14 = .ok (.iload_n 3, 1) := by decide +kernel
theorem d_Mo_bound_15 : decode b_Mo_bound 15 = .ok (.invokestatic 116, 3) := by decide +kernel
theorem d_Mo_bound_18 : decode b_Mo_bound 18 = .ok (.ifCond .eq 24, 3) := by decide +kernel
theorem d_Mo_bound_21 : decode b_Mo_bound 21 = .ok (.aload_n 0, 1) := by decide +kernel
theorem d_Mo_bound_22 : decode b_Mo_bound 22 = .ok (.lload 4, 2) := by decide +kernel
theorem d_Mo_bound_24 : decode b_Mo_bound 24 = .ok (.invokevirtual 127, 3) := by decide +kernel
theorem d_Mo_bound_27 : decode b_Mo_bound 27 = .ok (.ifCond .eq 15, 3) := by decide +kernel
theorem d_Mo_bound_30 : decode b_Mo_bound 30 = .ok (.aload_n 0, 1) := by decide +kernel
theorem d_Mo_bound_31 : decode b_Mo_bound 31 = .ok (.iload_n 1, 1) := by decide +kernel
theorem d_Mo_bound_32 : decode b_Mo_bound 32 = .ok (.iload_n 2, 1) := by decide +kernel
theorem d_Mo_bound_33 : decode b_Mo_bound 33 = .ok (.iload_n 3, 1) := by decide +kernel
theorem d_Mo_bound_34 : decode b_Mo_bound 34 = .ok (.lload 4, 2) := by decide +kernel
theorem d_Mo_bound_36 : decode b_Mo_bound 36 = .ok (.invokevirtual 196, 3) := by decide +kernel
theorem d_Mo_bound_39 : decode b_Mo_bound 39 = .ok (.goto 5, 3) := by decide +kernel
theorem d_Mo_bound_42 : decode b_Mo_bound 42 = .ok (.bipush (-2), 2) := by decide +kernel
theorem d_Mo_bound_44 : decode b_Mo_bound 44 = .ok (.ireturn, 1) := by decide +kernel
def B_Mo_bound_0 (a1 : Int32) (a2 : Int32) (a3 : Int32) (a4 : Int64) (σ : Sto) : Option (Int32 × Sto) :=
  ((f_Mo_isRule a1 σ).bind fun q1 => (if (b2i q1.1) = 0 then some ((-2 : Int32), q1.2)
 else ((f_Mo_isOne a2 q1.2).bind fun q2 => (if (b2i q2.1) = 0 then some ((-2 : Int32), q2.2)
  else ((f_Mo_isOne a3 q2.2).bind fun q3 => (if (b2i q3.1) = 0 then some ((-2 : Int32), q3.2)
   else ((f_Mo_isSet a4 q3.2).bind fun q4 => (if (b2i q4.1) = 0 then some ((-2 : Int32), q4.2)
    else ((f_Mo_boundOf a1 a2 a3 a4 q4.2).bind fun q5 => some (q5.1, q5.2))))))))))
set_option maxHeartbeats 4000000 in
set_option maxRecDepth 100000 in
theorem vB_Mo_bound_0 {X : Xt} {E : En} (g : GG X E 7 b_Mo_bound R_Mo 6) (a1 : Int32) (a2 : Int32) (a3 : Int32) (a4 : Int64) (σ : Sto) : VV X E b_Mo_bound 6 eI 0 [(0, .ref (E.2.1 48)), (1, .int a1), (2, .int a2), (3, .int a3), (4, .long a4)] [] σ (B_Mo_bound_0 a1 a2 a3 a4 σ) := by
  unfold B_Mo_bound_0
  refine v_iload_n 1 g d_Mo_bound_0 rfl ?_
  refine v_callB (r_S (rest := []) [.int a1] g (m1 1302 (by decide +kernel) (by decide +kernel)) ys_Mo_isRule (fun r σ1 h => sp_Mo_isRule g.2.2.1  h) rfl rfl (by decide) (Nat.le_of_ble_eq_true rfl) d_Mo_bound_1) (fun q1 => ?_)
  refine v_if_eq 42 g d_Mo_bound_4 (by decide) (fun _ => ?_) (fun _ => ?_)
  · refine v_bipush (v := (-2 : Int32)) g d_Mo_bound_42 (by decide +kernel) ?_
    exact v_ret d_Mo_bound_44 rfl
  · refine v_iload_n 2 g d_Mo_bound_7 rfl ?_
    refine v_callB (r_S (rest := []) [.int a2] g (m1 1203 (by decide +kernel) (by decide +kernel)) ys_Mo_isOne (fun r σ1 h => sp_Mo_isOne g.2.2.1  h) rfl rfl (by decide) (Nat.le_of_ble_eq_true rfl) d_Mo_bound_8) (fun q2 => ?_)
    refine v_if_eq 42 g d_Mo_bound_11 (by decide) (fun _ => ?_) (fun _ => ?_)
    · refine v_bipush (v := (-2 : Int32)) g d_Mo_bound_42 (by decide +kernel) ?_
      exact v_ret d_Mo_bound_44 rfl
    · refine v_iload_n 3 g d_Mo_bound_14 rfl ?_
      refine v_callB (r_S (rest := []) [.int a3] g (m1 1203 (by decide +kernel) (by decide +kernel)) ys_Mo_isOne (fun r σ1 h => sp_Mo_isOne g.2.2.1  h) rfl rfl (by decide) (Nat.le_of_ble_eq_true rfl) d_Mo_bound_15) (fun q3 => ?_)
      refine v_if_eq 42 g d_Mo_bound_18 (by decide) (fun _ => ?_) (fun _ => ?_)
      · refine v_bipush (v := (-2 : Int32)) g d_Mo_bound_42 (by decide +kernel) ?_
        exact v_ret d_Mo_bound_44 rfl
      · refine v_aload_n 0 g d_Mo_bound_21 rfl ?_
        refine v_lload 4 g d_Mo_bound_22 rfl ?_
        refine v_callB (r_V (rest := []) [.long a4] g (m1 1221 (by decide +kernel) (by decide +kernel)) yv_Mo_isSet rfl (fun r σ1 h => sp_Mo_isSet g.2.2.1  h) rfl rfl (by decide) (Nat.le_of_ble_eq_true rfl) d_Mo_bound_24) (fun q4 => ?_)
        refine v_if_eq 42 g d_Mo_bound_27 (by decide) (fun _ => ?_) (fun _ => ?_)
        · refine v_bipush (v := (-2 : Int32)) g d_Mo_bound_42 (by decide +kernel) ?_
          exact v_ret d_Mo_bound_44 rfl
        · refine v_aload_n 0 g d_Mo_bound_30 rfl ?_
          refine v_iload_n 1 g d_Mo_bound_31 rfl ?_
          refine v_iload_n 2 g d_Mo_bound_32 rfl ?_
          refine v_iload_n 3 g d_Mo_bound_33 rfl ?_
          refine v_lload 4 g d_Mo_bound_34 rfl ?_
          refine v_callI (r_V (rest := []) [.int a1, .int a2, .int a3, .long a4] g (m1 1306 (by decide +kernel) (by decide +kernel)) yv_Mo_boundOf rfl (fun r σ1 h => sp_Mo_boundOf g.2.2.1  h) rfl rfl (by decide) (Nat.le_of_ble_eq_true rfl) d_Mo_bound_36) (fun q5 => ?_)
          refine v_goto 44 g d_Mo_bound_39 (by decide) ?_
          exact v_ret d_Mo_bound_44 rfl
def f_Mo_bound (a1 : Int32) (a2 : Int32) (a3 : Int32) (a4 : Int64) (σ : Sto) : Option (Int32 × Sto) := B_Mo_bound_0 a1 a2 a3 a4 σ
theorem sp_Mo_bound {l : Launch} {E : En} (hE : Dj E) {a1 : Int32} {a2 : Int32} {a3 : Int32} {a4 : Int64} {σ : Sto} {r : Int32} {σ' : Sto} (h : f_Mo_bound a1 a2 a3 a4 σ = some (r, σ')) : Ct l E y_Mo_bound (wsM y_Mo_bound b_Mo_bound 6 (some .int)) 7 [.ref (E.2.1 48), .int a1, .int a2, .int a3, .long a4] σ (eI r) σ' :=
  ct_of hE (by decide +kernel) (Nat.le_of_ble_eq_true rfl) (fun x => Or.inl ⟨rfl, x, rfl⟩) (fun X _ g => vB_Mo_bound_0 g a1 a2 a3 a4 σ) r σ' h
/-! method FittingRingsModel.core(IIJ)J -/
theorem yv_Mo_core : YV y_Mo_core b_Mo_core 9 (some .long) 3 10 := ⟨m1 1319 (by decide +kernel) (by decide +kernel), m1 1320 (by decide +kernel) (by decide +kernel), ini_Mo, m1 1321 (by decide +kernel) (by decide +kernel), ⟨by decide +kernel, by decide +kernel, by decide +kernel⟩, by decide, by decide, T_Mo, 39, rfl⟩
theorem d_Mo_core_0 : decode b_Mo_core 0 = .ok (.iload_n 1, 1) := by decide +kernel
theorem d_Mo_core_1 : decode b_Mo_core 1 = .ok (.invokestatic 116, 3) := by decide +kernel
theorem d_Mo_core_4 : decode b_Mo_core 4 = .ok (.ifCond .eq 23, 3) := by decide +kernel
theorem d_Mo_core_7 : decode b_Mo_core 7 = .ok (.iload_n 2, 1) := by decide +kernel
theorem d_Mo_core_8 : decode b_Mo_core 8 = .ok (.i2l, 1) := by decide +kernel
theorem d_Mo_core_9 : decode b_Mo_core 9 = .ok (.lconst 0, 1) := by decide +kernel
theorem d_Mo_core_10 : decode b_Mo_core 10 = .ok (.ldc2_w 200, 3) := by decide +kernel
theorem d_Mo_core_13 : decode b_Mo_core 13 = .ok (.invokestatic 84, 3) := by decide +kernel
theorem d_Mo_core_16 : decode b_Mo_core 16 = .ok (.ifCond .eq 11, 3) := by decide +kernel
theorem d_Mo_core_19 : decode b_Mo_core 19 = .ok (.aload_n 0, 1) := by decide +kernel
theorem d_Mo_core_20 : decode b_Mo_core 20 = .ok (.lload_n 3, 1) := by decide +kernel
theorem d_Mo_core_21 : decode b_Mo_core 21 = .ok (.invokevirtual 127, 3) := by decide +kernel
theorem d_Mo_core_24 : decode b_Mo_core 24 = .ok (.ifCond .ne 7, 3) := by decide +kernel
theorem d_Mo_core_27 : decode b_Mo_core 27 = .ok (.ldc2_w 139, 3) := by decide +kernel
theorem d_Mo_core_30 : decode b_Mo_core 30 = .ok (.lreturn, 1) := by decide +kernel
theorem d_Mo_core_31 : decode b_Mo_core 31 = .ok (.lload_n 3, 1) := by decide +kernel
theorem d_Mo_core_32 : decode b_Mo_core 32 = .ok (.lstore 5, 2) := by decide +kernel
theorem d_Mo_core_34 : decode b_Mo_core 34 = .ok (.iconst 0, 1) := by decide +kernel
theorem d_Mo_core_35 : decode b_Mo_core 35 = .ok (.istore 7, 2) := by decide +kernel
theorem d_Mo_core_37 : decode b_Mo_core 37 = .ok (.iload 7, 2) := by decide +kernel
theorem d_Mo_core_39 : decode b_Mo_core 39 = .ok (.aload_n 0, 1) := by decide +kernel
theorem d_Mo_core_40 : decode b_Mo_core 40 = .ok (.getfield 80, 3) := by decide +kernel
theorem d_Mo_core_43 : decode b_Mo_core 43 = .ok (.if_icmp .ge 79, 3) := by decide +kernel
theorem d_Mo_core_46 : decode b_Mo_core 46 = .ok (.lload 5, 2) := by decide +kernel
theorem d_Mo_core_48 : decode b_Mo_core 48 = .ok (.iload 7, 2) := by decide +kernel
theorem d_Mo_core_50 : decode b_Mo_core 50 = .ok (.invokestatic 119, 3) := by decide +kernel
theorem d_Mo_core_53 : decode b_Mo_core 53 = .ok (.ifCond .eq 23, 3) := by decide +kernel
theorem d_Mo_core_56 : decode b_Mo_core 56 = .ok (.aload_n 0, 1) := by decide +kernel
theorem d_Mo_core_57 : decode b_Mo_core 57 = .ok (.iload_n 1, 1) := by decide +kernel
theorem d_Mo_core_58 : decode b_Mo_core 58 = .ok (.iload 7, 2) := by decide +kernel
theorem d_Mo_core_60 : decode b_Mo_core 60 = .ok (.lload 5, 2) := by decide +kernel
theorem d_Mo_core_62 : decode b_Mo_core 62 = .ok (.invokevirtual 135, 3) := by decide +kernel
theorem d_Mo_core_65 : decode b_Mo_core 65 = .ok (.invokestatic 96, 3) := by decide +kernel
theorem d_Mo_core_68 : decode b_Mo_core 68 = .ok (.iload_n 2, 1) := by decide +kernel
theorem d_Mo_core_69 : decode b_Mo_core 69 = .ok (.if_icmp .ge 7, 3) := by decide +kernel
theorem d_Mo_core_72 : decode b_Mo_core 72 = .ok (.iconst 1, 1) := by decide +kernel
theorem d_Mo_core_73 : decode b_Mo_core 73 = .ok (.goto 4, 3) := by decide +kernel
theorem d_Mo_core_76 : decode b_Mo_core 76 = .ok (.iconst 0, 1) := by decide +kernel
theorem d_Mo_core_77 : decode b_Mo_core 77 = .ok (.istore 8, 2) := by decide +kernel
theorem d_Mo_core_79 : decode b_Mo_core 79 = .ok (.lload 5, 2) := by decide +kernel
theorem d_Mo_core_81 : decode b_Mo_core 81 = .ok (.iload 8, 2) := by decide +kernel
theorem d_Mo_core_83 : decode b_Mo_core 83 = .ok (.ifCond .eq 15, 3) := by decide +kernel
theorem d_Mo_core_86 : decode b_Mo_core 86 = .ok (.iload 7, 2) := by decide +kernel
theorem d_Mo_core_88 : decode b_Mo_core 88 = .ok (.invokestatic 110, 3) := by decide +kernel
theorem d_Mo_core_91 : decode b_Mo_core 91 = .ok (.ldc2_w 114, 3) := by decide +kernel
theorem d_Mo_core_94 : decode b_Mo_core 94 = .ok (.lxor, 1) := by decide +kernel
theorem d_Mo_core_95 : decode b_Mo_core 95 = .ok (.goto 6, 3) := by decide +kernel
theorem d_Mo_core_98 : decode b_Mo_core 98 = .ok (.ldc2_w 114, 3) := by decide +kernel
theorem d_Mo_core_101 : decode b_Mo_core 101 = .ok (.land, 1) := by decide +kernel
theorem d_Mo_core_102 : decode b_Mo_core 102 = .ok (.lstore 5, 2) := by decide +kernel
theorem d_Mo_core_104 : decode b_Mo_core 104 = .ok (.iload 8, 2) := by decide +kernel
theorem d_Mo_core_106 : decode b_Mo_core 106 = .ok (.ifCond .eq 7, 3) := by decide +kernel
theorem d_Mo_core_109 : decode b_Mo_core 109 = .ok (.iconst 0, 1) := by decide +kernel
theorem d_Mo_core_110 : decode b_Mo_core 110 = .ok (.goto 7, 3) := by decide +kernel
theorem d_Mo_core_113 : decode b_Mo_core 113 = .ok (.iload 7, 2) := by decide +kernel
theorem d_Mo_core_115 : decode b_Mo_core 115 = .ok (.iconst 1, 1) := by decide +kernel
theorem d_Mo_core_116 : decode b_Mo_core 116 = .ok (.iadd, 1) := by decide +kernel
theorem d_Mo_core_117 : decode b_Mo_core 117 = .ok (.istore 7, 2) := by decide +kernel
theorem d_Mo_core_119 : decode b_Mo_core 119 = .ok (.goto (-82), 3) := by decide +kernel
theorem d_Mo_core_122 : decode b_Mo_core 122 = .ok (.lload 5, 2) := by decide +kernel
theorem d_Mo_core_124 : decode b_Mo_core 124 = .ok (.lreturn, 1) := by decide +kernel
def B_Mo_core_77 (k37 : Int32 → Int32 → Int64 → Int32 → Sto → Option (Int64 × Sto)) (v1 : Int32) (v2 : Int32) (v5 : Int64) (v7 : Int32) (s0 : Int32) (σ : Sto) : Option (Int64 × Sto) :=
  (if s0 = 0 then (if s0 = 0 then k37 v1 v2 (v5 &&& (-1 : Int64)) (v7 + (1 : Int32)) σ
  else k37 v1 v2 (v5 &&& (-1 : Int64)) (0 : Int32) σ)
 else ((f_Mo_bit v7 σ).bind fun q7 => (lt1 (v5 &&& (q7.1 ^^^ (-1 : Int64))) fun x8 => (if s0 = 0 then k37 v1 v2 x8 (v7 + (1 : Int32)) q7.2
  else k37 v1 v2 x8 (0 : Int32) q7.2))))
set_option maxHeartbeats 4000000 in
set_option maxRecDepth 100000 in
theorem vB_Mo_core_77 {X : Xt} {E : En} (g : GG X E 3 b_Mo_core R_Mo 9) {k37 : Int32 → Int32 → Int64 → Int32 → Sto → Option (Int64 × Sto)} (hk37 : ∀ (v1 : Int32) (v2 : Int32) (v5 : Int64) (v7 : Int32) (σ : Sto), VV X E b_Mo_core 9 eL 37 [(0, .ref (E.2.1 48)), (1, .int v1), (2, .int v2), (5, .long v5), (7, .int v7)] [] σ (k37 v1 v2 v5 v7 σ)) (v1 : Int32) (v2 : Int32) (v5 : Int64) (v7 : Int32) (s0 : Int32) (σ : Sto) : VV X E b_Mo_core 9 eL 77 [(0, .ref (E.2.1 48)), (1, .int v1), (2, .int v2), (5, .long v5), (7, .int v7)] [.int s0] σ (B_Mo_core_77 k37 v1 v2 v5 v7 s0 σ) := by
  unfold B_Mo_core_77
  refine v_istore [(8, .int s0), (0, .ref (E.2.1 48)), (1, .int v1), (2, .int v2), (5, .long v5), (7, .int v7)] g d_Mo_core_77 (by decide) rfl ?_
  refine v_lload 4 g d_Mo_core_79 rfl ?_
  refine v_iload 0 g d_Mo_core_81 rfl ?_
  refine v_if_eq 98 g d_Mo_core_83 (by decide) (fun _ => ?_) (fun _ => ?_)
  · refine v_ldc2 (v := (-1 : Int64)) g (m1 1216 (by decide +kernel) (by decide +kernel)) d_Mo_core_98 ?_
    refine v_land g d_Mo_core_101 ?_
    refine v_lstore [(5, .long (v5 &&& (-1 : Int64))), (8, .int s0), (0, .ref (E.2.1 48)), (1, .int v1), (2, .int v2), (7, .int v7)] g d_Mo_core_102 (by decide) rfl ?_
    refine v_iload 1 g d_Mo_core_104 rfl ?_
    refine v_if_eq 113 g d_Mo_core_106 (by decide) (fun _ => ?_) (fun _ => ?_)
    · refine v_iload 5 g d_Mo_core_113 rfl ?_
      refine v_iconst (v := (1 : Int32)) g d_Mo_core_115 (by decide +kernel) ?_
      refine v_iadd g d_Mo_core_116 ?_
      refine v_istore [(7, .int (v7 + (1 : Int32))), (5, .long (v5 &&& (-1 : Int64))), (8, .int s0), (0, .ref (E.2.1 48)), (1, .int v1), (2, .int v2)] g d_Mo_core_117 (by decide) rfl ?_
      refine v_goto 37 g d_Mo_core_119 (by decide) ?_
      exact v_sub [3,4,5,1,0] rfl (hk37 v1 v2 (v5 &&& (-1 : Int64)) (v7 + (1 : Int32)) σ)
    · refine v_iconst (v := (0 : Int32)) g d_Mo_core_109 (by decide +kernel) ?_
      refine v_goto 117 g d_Mo_core_110 (by decide) ?_
      refine v_istore [(7, .int (0 : Int32)), (5, .long (v5 &&& (-1 : Int64))), (8, .int s0), (0, .ref (E.2.1 48)), (1, .int v1), (2, .int v2)] g d_Mo_core_117 (by decide) rfl ?_
      refine v_goto 37 g d_Mo_core_119 (by decide) ?_
      exact v_sub [3,4,5,1,0] rfl (hk37 v1 v2 (v5 &&& (-1 : Int64)) (0 : Int32) σ)
  · refine v_iload 5 g d_Mo_core_86 rfl ?_
    refine v_callL (r_S (rest := [.long v5]) [.int v7] g (m1 1213 (by decide +kernel) (by decide +kernel)) ys_Mo_bit (fun r σ1 h => sp_Mo_bit g.2.2.1  h) rfl rfl (by decide) (Nat.le_of_ble_eq_true rfl) d_Mo_core_88) (fun q7 => ?_)
    refine v_ldc2 (v := (-1 : Int64)) g (m1 1216 (by decide +kernel) (by decide +kernel)) d_Mo_core_91 ?_
    refine v_lxor g d_Mo_core_94 ?_
    refine v_goto 101 g d_Mo_core_95 (by decide) ?_
    refine v_land g d_Mo_core_101 ?_
    refine v_nlet (fun x8 ex8 => ?_)
    rw [← ex8]
    refine v_lstore [(5, .long x8), (8, .int s0), (0, .ref (E.2.1 48)), (1, .int v1), (2, .int v2), (7, .int v7)] g d_Mo_core_102 (by decide) rfl ?_
    refine v_iload 1 g d_Mo_core_104 rfl ?_
    refine v_if_eq 113 g d_Mo_core_106 (by decide) (fun _ => ?_) (fun _ => ?_)
    · refine v_iload 5 g d_Mo_core_113 rfl ?_
      refine v_iconst (v := (1 : Int32)) g d_Mo_core_115 (by decide +kernel) ?_
      refine v_iadd g d_Mo_core_116 ?_
      refine v_istore [(7, .int (v7 + (1 : Int32))), (5, .long x8), (8, .int s0), (0, .ref (E.2.1 48)), (1, .int v1), (2, .int v2)] g d_Mo_core_117 (by decide) rfl ?_
      refine v_goto 37 g d_Mo_core_119 (by decide) ?_
      exact v_sub [3,4,5,1,0] rfl (hk37 v1 v2 x8 (v7 + (1 : Int32)) q7.2)
    · refine v_iconst (v := (0 : Int32)) g d_Mo_core_109 (by decide +kernel) ?_
      refine v_goto 117 g d_Mo_core_110 (by decide) ?_
      refine v_istore [(7, .int (0 : Int32)), (5, .long x8), (8, .int s0), (0, .ref (E.2.1 48)), (1, .int v1), (2, .int v2)] g d_Mo_core_117 (by decide) rfl ?_
      refine v_goto 37 g d_Mo_core_119 (by decide) ?_
      exact v_sub [3,4,5,1,0] rfl (hk37 v1 v2 x8 (0 : Int32) q7.2)
def B_Mo_core_37 (k37 : Int32 → Int32 → Int64 → Int32 → Sto → Option (Int64 × Sto)) (v1 : Int32) (v2 : Int32) (v5 : Int64) (v7 : Int32) (σ : Sto) : Option (Int64 × Sto) :=
  (if (gI σ 48 0) ≤ v7 then some (v5, σ)
 else ((f_Mo_has v5 v7 σ).bind fun q4 => (if (b2i q4.1) = 0 then B_Mo_core_77 k37 v1 v2 v5 v7 (0 : Int32) q4.2
  else ((f_Mo_fits v1 v7 v5 q4.2).bind fun q5 => ((f_Mo_many q5.1 q5.2).bind fun q6 => (if v2 ≤ q6.1 then B_Mo_core_77 k37 v1 v2 v5 v7 (0 : Int32) q6.2
   else B_Mo_core_77 k37 v1 v2 v5 v7 (1 : Int32) q6.2))))))
set_option maxHeartbeats 4000000 in
set_option maxRecDepth 100000 in
theorem vB_Mo_core_37 {X : Xt} {E : En} (g : GG X E 3 b_Mo_core R_Mo 9) {k37 : Int32 → Int32 → Int64 → Int32 → Sto → Option (Int64 × Sto)} (hk37 : ∀ (v1 : Int32) (v2 : Int32) (v5 : Int64) (v7 : Int32) (σ : Sto), VV X E b_Mo_core 9 eL 37 [(0, .ref (E.2.1 48)), (1, .int v1), (2, .int v2), (5, .long v5), (7, .int v7)] [] σ (k37 v1 v2 v5 v7 σ)) (v1 : Int32) (v2 : Int32) (v5 : Int64) (v7 : Int32) (σ : Sto) : VV X E b_Mo_core 9 eL 37 [(0, .ref (E.2.1 48)), (1, .int v1), (2, .int v2), (5, .long v5), (7, .int v7)] [] σ (B_Mo_core_37 k37 v1 v2 v5 v7 σ) := by
  unfold B_Mo_core_37
  refine v_iload 4 g d_Mo_core_37 rfl ?_
  refine v_aload_n 0 g d_Mo_core_39 rfl ?_
  refine v_getI g ff_Mo_80 rfl rfl d_Mo_core_40 ?_
  refine v_icmp_ge 122 g d_Mo_core_43 (by decide) (fun _ => ?_) (fun _ => ?_)
  · refine v_lload 3 g d_Mo_core_122 rfl ?_
    exact v_ret d_Mo_core_124 rfl
  · refine v_lload 3 g d_Mo_core_46 rfl ?_
    refine v_iload 4 g d_Mo_core_48 rfl ?_
    refine v_callB (r_S (rest := []) [.long v5, .int v7] g (m1 1206 (by decide +kernel) (by decide +kernel)) ys_Mo_has (fun r σ1 h => sp_Mo_has g.2.2.1  h) rfl rfl (by decide) (Nat.le_of_ble_eq_true rfl) d_Mo_core_50) (fun q4 => ?_)
    refine v_if_eq 76 g d_Mo_core_53 (by decide) (fun _ => ?_) (fun _ => ?_)
    · refine v_iconst (v := (0 : Int32)) g d_Mo_core_76 (by decide +kernel) ?_
      exact v_sub [0,1,2,3,4] rfl (vB_Mo_core_77 g hk37 v1 v2 v5 v7 (0 : Int32) q4.2)
    · refine v_aload_n 0 g d_Mo_core_56 rfl ?_
      refine v_iload_n 1 g d_Mo_core_57 rfl ?_
      refine v_iload 4 g d_Mo_core_58 rfl ?_
      refine v_lload 3 g d_Mo_core_60 rfl ?_
      refine v_callL (r_V (rest := []) [.int v1, .int v7, .long v5] g (m1 1233 (by decide +kernel) (by decide +kernel)) yv_Mo_fits rfl (fun r σ1 h => sp_Mo_fits g.2.2.1  h) rfl rfl (by decide) (Nat.le_of_ble_eq_true rfl) d_Mo_core_62) (fun q5 => ?_)
      refine v_callI (r_S (rest := []) [.long q5.1] g (m1 1188 (by decide +kernel) (by decide +kernel)) ys_Mo_many (fun r σ1 h => sp_Mo_many g.2.2.1  h) rfl rfl (by decide) (Nat.le_of_ble_eq_true rfl) d_Mo_core_65) (fun q6 => ?_)
      refine v_iload_n 2 g d_Mo_core_68 rfl ?_
      refine v_icmp_ge 76 g d_Mo_core_69 (by decide) (fun _ => ?_) (fun _ => ?_)
      · refine v_iconst (v := (0 : Int32)) g d_Mo_core_76 (by decide +kernel) ?_
        exact v_sub [0,1,2,3,4] rfl (vB_Mo_core_77 g hk37 v1 v2 v5 v7 (0 : Int32) q6.2)
      · refine v_iconst (v := (1 : Int32)) g d_Mo_core_72 (by decide +kernel) ?_
        refine v_goto 77 g d_Mo_core_73 (by decide) ?_
        exact v_sub [0,1,2,3,4] rfl (vB_Mo_core_77 g hk37 v1 v2 v5 v7 (1 : Int32) q6.2)
def L_Mo_core_37 : Nat → Int32 → Int32 → Int64 → Int32 → Sto → Option (Int64 × Sto)
  | 0, _, _, _, _, _ => none
  | fu + 1, v1, v2, v5, v7, σ => B_Mo_core_37 (L_Mo_core_37 fu) v1 v2 v5 v7 σ
theorem vL_Mo_core_37 {X : Xt} {E : En} (g : GG X E 3 b_Mo_core R_Mo 9) (fu : Nat) : ∀ (v1 : Int32) (v2 : Int32) (v5 : Int64) (v7 : Int32) (σ : Sto), VV X E b_Mo_core 9 eL 37 [(0, .ref (E.2.1 48)), (1, .int v1), (2, .int v2), (5, .long v5), (7, .int v7)] [] σ (L_Mo_core_37 fu v1 v2 v5 v7 σ) := by
  induction fu with
  | zero => intros; exact v_none
  | succ fu ih =>
    intro v1 v2 v5 v7 σ
    exact vB_Mo_core_37 g ih v1 v2 v5 v7 σ
def B_Mo_core_0 (a1 : Int32) (a2 : Int32) (a3 : Int64) (σ : Sto) : Option (Int64 × Sto) :=
  ((f_Mo_isOne a1 σ).bind fun q1 => (if (b2i q1.1) = 0 then some ((-2 : Int64), q1.2)
 else ((f_Mo_in (Int32.toInt64 a2) (0 : Int64) (39 : Int64) q1.2).bind fun q2 => (if (b2i q2.1) = 0 then some ((-2 : Int64), q2.2)
  else ((f_Mo_isSet a3 q2.2).bind fun q3 => (if (b2i q3.1) = 0 then some ((-2 : Int64), q3.2)
   else L_Mo_core_37 LF a1 a2 a3 (0 : Int32) q3.2))))))
set_option maxHeartbeats 4000000 in
set_option maxRecDepth 100000 in
theorem vB_Mo_core_0 {X : Xt} {E : En} (g : GG X E 3 b_Mo_core R_Mo 9) (a1 : Int32) (a2 : Int32) (a3 : Int64) (σ : Sto) : VV X E b_Mo_core 9 eL 0 [(0, .ref (E.2.1 48)), (1, .int a1), (2, .int a2), (3, .long a3)] [] σ (B_Mo_core_0 a1 a2 a3 σ) := by
  unfold B_Mo_core_0
  refine v_iload_n 1 g d_Mo_core_0 rfl ?_
  refine v_callB (r_S (rest := []) [.int a1] g (m1 1203 (by decide +kernel) (by decide +kernel)) ys_Mo_isOne (fun r σ1 h => sp_Mo_isOne g.2.2.1  h) rfl rfl (by decide) (Nat.le_of_ble_eq_true rfl) d_Mo_core_1) (fun q1 => ?_)
  refine v_if_eq 27 g d_Mo_core_4 (by decide) (fun _ => ?_) (fun _ => ?_)
  · refine v_ldc2 (v := (-2 : Int64)) g (m1 1237 (by decide +kernel) (by decide +kernel)) d_Mo_core_27 ?_
    exact v_ret d_Mo_core_30 rfl
  · refine v_iload_n 2 g d_Mo_core_7 rfl ?_
    refine v_i2l g d_Mo_core_8 ?_
    refine v_lconst (v := (0 : Int64)) g d_Mo_core_9 (by decide +kernel) ?_
    refine v_ldc2 (v := (39 : Int64)) g (m1 1322 (by decide +kernel) (by decide +kernel)) d_Mo_core_10 ?_
    refine v_callB (r_S (rest := []) [.long (Int32.toInt64 a2), .long (0 : Int64), .long (39 : Int64)] g (m1 1167 (by decide +kernel) (by decide +kernel)) ys_Mo_in (fun r σ1 h => sp_Mo_in g.2.2.1  h) rfl rfl (by decide) (Nat.le_of_ble_eq_true rfl) d_Mo_core_13) (fun q2 => ?_)
    refine v_if_eq 27 g d_Mo_core_16 (by decide) (fun _ => ?_) (fun _ => ?_)
    · refine v_ldc2 (v := (-2 : Int64)) g (m1 1237 (by decide +kernel) (by decide +kernel)) d_Mo_core_27 ?_
      exact v_ret d_Mo_core_30 rfl
    · refine v_aload_n 0 g d_Mo_core_19 rfl ?_
      refine v_lload_n 3 g d_Mo_core_20 rfl ?_
      refine v_callB (r_V (rest := []) [.long a3] g (m1 1221 (by decide +kernel) (by decide +kernel)) yv_Mo_isSet rfl (fun r σ1 h => sp_Mo_isSet g.2.2.1  h) rfl rfl (by decide) (Nat.le_of_ble_eq_true rfl) d_Mo_core_21) (fun q3 => ?_)
      refine v_if_ne 31 g d_Mo_core_24 (by decide) (fun _ => ?_) (fun _ => ?_)
      · refine v_lload_n 3 g d_Mo_core_31 rfl ?_
        refine v_lstore [(5, .long a3), (0, .ref (E.2.1 48)), (1, .int a1), (2, .int a2), (3, .long a3)] g d_Mo_core_32 (by decide) rfl ?_
        refine v_iconst (v := (0 : Int32)) g d_Mo_core_34 (by decide +kernel) ?_
        refine v_istore [(7, .int (0 : Int32)), (5, .long a3), (0, .ref (E.2.1 48)), (1, .int a1), (2, .int a2), (3, .long a3)] g d_Mo_core_35 (by decide) rfl ?_
        exact v_sub [2,3,4,1,0] rfl (vL_Mo_core_37 g LF a1 a2 a3 (0 : Int32) q3.2)
      · refine v_ldc2 (v := (-2 : Int64)) g (m1 1237 (by decide +kernel) (by decide +kernel)) d_Mo_core_27 ?_
        exact v_ret d_Mo_core_30 rfl
def f_Mo_core (a1 : Int32) (a2 : Int32) (a3 : Int64) (σ : Sto) : Option (Int64 × Sto) := B_Mo_core_0 a1 a2 a3 σ
theorem sp_Mo_core {l : Launch} {E : En} (hE : Dj E) {a1 : Int32} {a2 : Int32} {a3 : Int64} {σ : Sto} {r : Int64} {σ' : Sto} (h : f_Mo_core a1 a2 a3 σ = some (r, σ')) : Ct l E y_Mo_core (wsM y_Mo_core b_Mo_core 9 (some .long)) 3 [.ref (E.2.1 48), .int a1, .int a2, .long a3] σ (eL r) σ' :=
  ct_of hE (by decide +kernel) (Nat.le_of_ble_eq_true rfl) (fun x => Or.inr (Or.inr (Or.inl ⟨rfl, x, rfl⟩))) (fun X _ g => vB_Mo_core_0 g a1 a2 a3 σ) r σ' h
/-! method FittingRingsModel.common(IJJ)J -/
theorem yv_Mo_common : YV y_Mo_common b_Mo_common 9 (some .long) 3 10 := ⟨m1 1341 (by decide +kernel) (by decide +kernel), m1 45 (by decide +kernel) (by decide +kernel), ini_Mo, m1 1342 (by decide +kernel) (by decide +kernel), ⟨by decide +kernel, by decide +kernel, by decide +kernel⟩, by decide, by decide, T_Mo, 39, rfl⟩
theorem d_Mo_common_0 : decode b_Mo_common 0 = .ok (.lload 4, 2) := by decide +kernel
theorem d_Mo_common_2 : decode b_Mo_common 2 = .ok (.lload_n 2, 1) := by decide +kernel
theorem d_Mo_common_3 : decode b_Mo_common 3 = .ok (.ldc2_w 114, 3) := by decide +kernel
theorem d_Mo_common_6 : decode b_Mo_common 6 = .ok (.lxor, 1) := by decide +kernel
theorem d_Mo_common_7 : decode b_Mo_common 7 = .ok (.land, 1) := by decide +kernel
theorem d_Mo_common_8 : decode b_Mo_common 8 = .ok (.lstore 6, 2) := by decide +kernel
theorem d_Mo_common_10 : decode b_Mo_common 10 = .ok (.iconst 0, 1) := by decide +kernel
theorem d_Mo_common_11 : decode b_Mo_common 11 = .ok (.istore 8, 2) := by decide +kernel
theorem d_Mo_common_13 : decode b_Mo_common 13 = .ok (.iload 8, 2) := by decide +kernel
theorem d_Mo_common_15 : decode b_Mo_common 15 = .ok (.aload_n 0, 1) := by decide +kernel
theorem d_Mo_common_16 : decode b_Mo_common 16 = .ok (.getfield 80, 3) := by decide +kernel
theorem d_Mo_common_19 : decode b_Mo_common 19 = .ok (.if_icmp .ge 38, 3) := by decide +kernel
theorem d_Mo_common_22 : decode b_Mo_common 22 = .ok (.lload 6, 2) := by decide +kernel
theorem d_Mo_common_24 : decode b_Mo_common 24 = .ok (.lload_n 2, 1) := by decide +kernel
theorem d_Mo_common_25 : decode b_Mo_common 25 = .ok (.iload 8, 2) := by decide +kernel
theorem d_Mo_common_27 : decode b_Mo_common 27 = .ok (.invokestatic 119, 3) := by decide +kernel
theorem d_Mo_common_30 : decode b_Mo_common 30 = .ok (.ifCond .eq 15, 3) := by decide +kernel
theorem d_Mo_common_33 : decode b_Mo_common 33 = .ok (.aload_n 0, 1) := by decide +kernel
theorem d_Mo_common_34 : decode b_Mo_common 34 = .ok (.iload_n 1, 1) := by decide +kernel
theorem d_Mo_common_35 : decode b_Mo_common 35 = .ok (.iload 8, 2) := by decide +kernel
theorem d_Mo_common_37 : decode b_Mo_common 37 = .ok (.lload 6, 2) := by decide +kernel
theorem d_Mo_common_39 : decode b_Mo_common 39 = .ok (.invokevirtual 135, 3) := by decide +kernel
theorem d_Mo_common_42 : decode b_Mo_common 42 = .ok (.goto 6, 3) := by decide +kernel
theorem d_Mo_common_45 : decode b_Mo_common 45 = .ok (.ldc2_w 114, 3) := by decide +kernel
theorem d_Mo_common_48 : decode b_Mo_common 48 = .ok (.land, 1) := by decide +kernel
theorem d_Mo_common_49 : decode b_Mo_common 49 = .ok (.lstore 6, 2) := by decide +kernel
theorem d_Mo_common_51 : decode b_Mo_common 51 = .ok (.iinc 8 1, 3) := by decide +kernel
theorem d_Mo_common_54 : decode b_Mo_common 54 = .ok (.goto (-41), 3) := by decide +kernel
theorem d_Mo_common_57 : decode b_Mo_common 57 = .ok (.lload 6, 2) := by decide +kernel
theorem d_Mo_common_59 : decode b_Mo_common 59 = .ok (.lreturn, 1) := by decide +kernel
def B_Mo_common_13 (k13 : Int32 → Int64 → Int64 → Int32 → Sto → Option (Int64 × Sto)) (v1 : Int32) (v2 : Int64) (v6 : Int64) (v8 : Int32) (σ : Sto) : Option (Int64 × Sto) :=
  (if (gI σ 48 0) ≤ v8 then some (v6, σ)
 else ((f_Mo_has v2 v8 σ).bind fun q2 => (if (b2i q2.1) = 0 then k13 v1 v2 (v6 &&& (-1 : Int64)) (v8 + (1 : Int32)) q2.2
  else ((f_Mo_fits v1 v8 v6 q2.2).bind fun q3 => k13 v1 v2 (v6 &&& q3.1) (v8 + (1 : Int32)) q3.2))))
set_option maxHeartbeats 4000000 in
set_option maxRecDepth 100000 in
theorem vB_Mo_common_13 {X : Xt} {E : En} (g : GG X E 3 b_Mo_common R_Mo 9) {k13 : Int32 → Int64 → Int64 → Int32 → Sto → Option (Int64 × Sto)} (hk13 : ∀ (v1 : Int32) (v2 : Int64) (v6 : Int64) (v8 : Int32) (σ : Sto), VV X E b_Mo_common 9 eL 13 [(0, .ref (E.2.1 48)), (1, .int v1), (2, .long v2), (6, .long v6), (8, .int v8)] [] σ (k13 v1 v2 v6 v8 σ)) (v1 : Int32) (v2 : Int64) (v6 : Int64) (v8 : Int32) (σ : Sto) : VV X E b_Mo_common 9 eL 13 [(0, .ref (E.2.1 48)), (1, .int v1), (2, .long v2), (6, .long v6), (8, .int v8)] [] σ (B_Mo_common_13 k13 v1 v2 v6 v8 σ) := by
  unfold B_Mo_common_13
  refine v_iload 4 g d_Mo_common_13 rfl ?_
  refine v_aload_n 0 g d_Mo_common_15 rfl ?_
  refine v_getI g ff_Mo_80 rfl rfl d_Mo_common_16 ?_
  refine v_icmp_ge 57 g d_Mo_common_19 (by decide) (fun _ => ?_) (fun _ => ?_)
  · refine v_lload 3 g d_Mo_common_57 rfl ?_
    exact v_ret d_Mo_common_59 rfl
  · refine v_lload 3 g d_Mo_common_22 rfl ?_
    refine v_lload_n 2 g d_Mo_common_24 rfl ?_
    refine v_iload 4 g d_Mo_common_25 rfl ?_
    refine v_callB (r_S (rest := [.long v6]) [.long v2, .int v8] g (m1 1206 (by decide +kernel) (by decide +kernel)) ys_Mo_has (fun r σ1 h => sp_Mo_has g.2.2.1  h) rfl rfl (by decide) (Nat.le_of_ble_eq_true rfl) d_Mo_common_27) (fun q2 => ?_)
    refine v_if_eq 45 g d_Mo_common_30 (by decide) (fun _ => ?_) (fun _ => ?_)
    · refine v_ldc2 (v := (-1 : Int64)) g (m1 1216 (by decide +kernel) (by decide +kernel)) d_Mo_common_45 ?_
      refine v_land g d_Mo_common_48 ?_
      refine v_lstore [(6, .long (v6 &&& (-1 : Int64))), (0, .ref (E.2.1 48)), (1, .int v1), (2, .long v2), (8, .int v8)] g d_Mo_common_49 (by decide) rfl ?_
      refine v_iinc 4 [(8, .int (v8 + (1 : Int32))), (6, .long (v6 &&& (-1 : Int64))), (0, .ref (E.2.1 48)), (1, .int v1), (2, .long v2)] g d_Mo_common_51 rfl (v := (1 : Int32)) (by decide +kernel) (by decide) rfl ?_
      refine v_goto 13 g d_Mo_common_54 (by decide) ?_
      exact v_sub [2,3,4,1,0] rfl (hk13 v1 v2 (v6 &&& (-1 : Int64)) (v8 + (1 : Int32)) q2.2)
    · refine v_aload_n 0 g d_Mo_common_33 rfl ?_
      refine v_iload_n 1 g d_Mo_common_34 rfl ?_
      refine v_iload 4 g d_Mo_common_35 rfl ?_
      refine v_lload 3 g d_Mo_common_37 rfl ?_
      refine v_callL (r_V (rest := [.long v6]) [.int v1, .int v8, .long v6] g (m1 1233 (by decide +kernel) (by decide +kernel)) yv_Mo_fits rfl (fun r σ1 h => sp_Mo_fits g.2.2.1  h) rfl rfl (by decide) (Nat.le_of_ble_eq_true rfl) d_Mo_common_39) (fun q3 => ?_)
      refine v_goto 48 g d_Mo_common_42 (by decide) ?_
      refine v_land g d_Mo_common_48 ?_
      refine v_lstore [(6, .long (v6 &&& q3.1)), (0, .ref (E.2.1 48)), (1, .int v1), (2, .long v2), (8, .int v8)] g d_Mo_common_49 (by decide) rfl ?_
      refine v_iinc 4 [(8, .int (v8 + (1 : Int32))), (6, .long (v6 &&& q3.1)), (0, .ref (E.2.1 48)), (1, .int v1), (2, .long v2)] g d_Mo_common_51 rfl (v := (1 : Int32)) (by decide +kernel) (by decide) rfl ?_
      refine v_goto 13 g d_Mo_common_54 (by decide) ?_
      exact v_sub [2,3,4,1,0] rfl (hk13 v1 v2 (v6 &&& q3.1) (v8 + (1 : Int32)) q3.2)
def L_Mo_common_13 : Nat → Int32 → Int64 → Int64 → Int32 → Sto → Option (Int64 × Sto)
  | 0, _, _, _, _, _ => none
  | fu + 1, v1, v2, v6, v8, σ => B_Mo_common_13 (L_Mo_common_13 fu) v1 v2 v6 v8 σ
theorem vL_Mo_common_13 {X : Xt} {E : En} (g : GG X E 3 b_Mo_common R_Mo 9) (fu : Nat) : ∀ (v1 : Int32) (v2 : Int64) (v6 : Int64) (v8 : Int32) (σ : Sto), VV X E b_Mo_common 9 eL 13 [(0, .ref (E.2.1 48)), (1, .int v1), (2, .long v2), (6, .long v6), (8, .int v8)] [] σ (L_Mo_common_13 fu v1 v2 v6 v8 σ) := by
  induction fu with
  | zero => intros; exact v_none
  | succ fu ih =>
    intro v1 v2 v6 v8 σ
    exact vB_Mo_common_13 g ih v1 v2 v6 v8 σ
def B_Mo_common_0 (a1 : Int32) (a2 : Int64) (a4 : Int64) (σ : Sto) : Option (Int64 × Sto) :=
  (lt1 (a4 &&& (a2 ^^^ (-1 : Int64))) fun x1 => L_Mo_common_13 LF a1 a2 x1 (0 : Int32) σ)
set_option maxHeartbeats 4000000 in
set_option maxRecDepth 100000 in
theorem vB_Mo_common_0 {X : Xt} {E : En} (g : GG X E 3 b_Mo_common R_Mo 9) (a1 : Int32) (a2 : Int64) (a4 : Int64) (σ : Sto) : VV X E b_Mo_common 9 eL 0 [(0, .ref (E.2.1 48)), (1, .int a1), (2, .long a2), (4, .long a4)] [] σ (B_Mo_common_0 a1 a2 a4 σ) := by
  unfold B_Mo_common_0
  refine v_lload 3 g d_Mo_common_0 rfl ?_
  refine v_lload_n 2 g d_Mo_common_2 rfl ?_
  refine v_ldc2 (v := (-1 : Int64)) g (m1 1216 (by decide +kernel) (by decide +kernel)) d_Mo_common_3 ?_
  refine v_lxor g d_Mo_common_6 ?_
  refine v_land g d_Mo_common_7 ?_
  refine v_nlet (fun x1 ex1 => ?_)
  rw [← ex1]
  refine v_lstore [(6, .long x1), (0, .ref (E.2.1 48)), (1, .int a1), (2, .long a2), (4, .long a4)] g d_Mo_common_8 (by decide) rfl ?_
  refine v_iconst (v := (0 : Int32)) g d_Mo_common_10 (by decide +kernel) ?_
  refine v_istore [(8, .int (0 : Int32)), (6, .long x1), (0, .ref (E.2.1 48)), (1, .int a1), (2, .long a2), (4, .long a4)] g d_Mo_common_11 (by decide) rfl ?_
  exact v_sub [2,3,4,1,0] rfl (vL_Mo_common_13 g LF a1 a2 x1 (0 : Int32) σ)
def f_Mo_common (a1 : Int32) (a2 : Int64) (a4 : Int64) (σ : Sto) : Option (Int64 × Sto) := B_Mo_common_0 a1 a2 a4 σ
theorem sp_Mo_common {l : Launch} {E : En} (hE : Dj E) {a1 : Int32} {a2 : Int64} {a4 : Int64} {σ : Sto} {r : Int64} {σ' : Sto} (h : f_Mo_common a1 a2 a4 σ = some (r, σ')) : Ct l E y_Mo_common (wsM y_Mo_common b_Mo_common 9 (some .long)) 3 [.ref (E.2.1 48), .int a1, .long a2, .long a4] σ (eL r) σ' :=
  ct_of hE (by decide +kernel) (Nat.le_of_ble_eq_true rfl) (fun x => Or.inr (Or.inr (Or.inl ⟨rfl, x, rfl⟩))) (fun X _ g => vB_Mo_common_0 g a1 a2 a4 σ) r σ' h
/-! method FittingRingsModel.listsOne(J)V -/
theorem yv_Mo_listsOne : YV y_Mo_listsOne b_Mo_listsOne 4 (none) 1 10 := ⟨m1 1345 (by decide +kernel) (by decide +kernel), m1 46 (by decide +kernel) (by decide +kernel), ini_Mo, m1 1346 (by decide +kernel) (by decide +kernel), ⟨by decide +kernel, by decide +kernel, by decide +kernel⟩, by decide, by decide, T_Mo, 39, rfl⟩
theorem d_Mo_listsOne_0 : decode b_Mo_listsOne 0 = .ok (.iconst 0, 1) := by decide +kernel
theorem d_Mo_listsOne_1 : decode b_Mo_listsOne 1 = .ok (.istore_n 3, 1) := by decide +kernel
theorem d_Mo_listsOne_2 : decode b_Mo_listsOne 2 = .ok (.iload_n 3, 1) := by decide +kernel
theorem d_Mo_listsOne_3 : decode b_Mo_listsOne 3 = .ok (.aload_n 0, 1) := by decide +kernel
theorem d_Mo_listsOne_4 : decode b_Mo_listsOne 4 = .ok (.getfield 202, 3) := by decide +kernel
theorem d_Mo_listsOne_7 : decode b_Mo_listsOne 7 = .ok (.if_icmp .ge 21, 3) := by decide +kernel
theorem d_Mo_listsOne_10 : decode b_Mo_listsOne 10 = .ok (.aload_n 0, 1) := by decide +kernel
theorem d_Mo_listsOne_11 : decode b_Mo_listsOne 11 = .ok (.getfield 35, 3) := by decide +kernel
theorem d_Mo_listsOne_14 : decode b_Mo_listsOne 14 = .ok (.iload_n 3, 1) := by decide +kernel
theorem d_Mo_listsOne_15 : decode b_Mo_listsOne 15 = .ok (.laload, 1) := by decide +kernel
theorem d_Mo_listsOne_16 : decode b_Mo_listsOne 16 = .ok (.lload_n 1, 1) := by decide +kernel
theorem d_Mo_listsOne_17 : decode b_Mo_listsOne 17 = .ok (.lcmp, 1) := by decide +kernel
theorem d_Mo_listsOne_18 : decode b_Mo_listsOne 18 = .ok (.ifCond .ne 4, 3) := by decide +kernel
theorem d_Mo_listsOne_21 : decode b_Mo_listsOne 21 = .ok (.return_, 1) := by decide +kernel
theorem d_Mo_listsOne_22 : decode b_Mo_listsOne 22 = .ok (.iinc 3 1, 3) := by decide +kernel
theorem d_Mo_listsOne_25 : decode b_Mo_listsOne 25 = .ok (.goto (-23), 3) := by decide +kernel
theorem d_Mo_listsOne_28 : decode b_Mo_listsOne 28 = .ok (.aload_n 0, 1) := by decide +kernel
theorem d_Mo_listsOne_29 : decode b_Mo_listsOne 29 = .ok (.getfield 35, 3) := by decide +kernel
theorem d_Mo_listsOne_32 : decode b_Mo_listsOne 32 = .ok (.aload_n 0, 1) := by decide +kernel
theorem d_Mo_listsOne_33 : decode b_Mo_listsOne 33 = .ok (.getfield 202, 3) := by decide +kernel
theorem d_Mo_listsOne_36 : decode b_Mo_listsOne 36 = .ok (.lload_n 1, 1) := by decide +kernel
theorem d_Mo_listsOne_37 : decode b_Mo_listsOne 37 = .ok (.lastore, 1) := by decide +kernel
theorem d_Mo_listsOne_38 : decode b_Mo_listsOne 38 = .ok (.aload_n 0, 1) := by decide +kernel
theorem d_Mo_listsOne_39 : decode b_Mo_listsOne 39 = .ok (.dup, 1) := by decide +kernel
theorem d_Mo_listsOne_40 : decode b_Mo_listsOne 40 = .ok (.getfield 202, 3) := by decide +kernel
theorem d_Mo_listsOne_43 : decode b_Mo_listsOne 43 = .ok (.iconst 1, 1) := by decide +kernel
theorem d_Mo_listsOne_44 : decode b_Mo_listsOne 44 = .ok (.iadd, 1) := by decide +kernel
theorem d_Mo_listsOne_45 : decode b_Mo_listsOne 45 = .ok (.putfield 202, 3) := by decide +kernel
theorem d_Mo_listsOne_48 : decode b_Mo_listsOne 48 = .ok (.return_, 1) := by decide +kernel
def B_Mo_listsOne_2 (k2 : Int64 → Int32 → Sto → Option (Unit × Sto)) (v1 : Int64) (v3 : Int32) (σ : Sto) : Option (Unit × Sto) :=
  (if (gI σ 48 15) ≤ v3 then (if inb (gI σ 48 15) 400 = true then (lt1 (sI (sL σ 57 (Int32.toNatClampNeg (gI σ 48 15)) v1) 48 15 ((gI (sL σ 57 (Int32.toNatClampNeg (gI σ 48 15)) v1) 48 15) + (1 : Int32))) fun σ1 => some ((), σ1)) else none)
 else (if inb v3 400 = true then (if (gL σ 57 (Int32.toNatClampNeg v3)) = v1 then some ((), σ)
  else k2 v1 (v3 + (1 : Int32)) σ) else none))
set_option maxHeartbeats 4000000 in
set_option maxRecDepth 100000 in
theorem vB_Mo_listsOne_2 {X : Xt} {E : En} (g : GG X E 1 b_Mo_listsOne R_Mo 4) {k2 : Int64 → Int32 → Sto → Option (Unit × Sto)} (hk2 : ∀ (v1 : Int64) (v3 : Int32) (σ : Sto), VV X E b_Mo_listsOne 4 eU 2 [(0, .ref (E.2.1 48)), (1, .long v1), (3, .int v3)] [] σ (k2 v1 v3 σ)) (v1 : Int64) (v3 : Int32) (σ : Sto) : VV X E b_Mo_listsOne 4 eU 2 [(0, .ref (E.2.1 48)), (1, .long v1), (3, .int v3)] [] σ (B_Mo_listsOne_2 k2 v1 v3 σ) := by
  unfold B_Mo_listsOne_2
  refine v_iload_n 2 g d_Mo_listsOne_2 rfl ?_
  refine v_aload_n 0 g d_Mo_listsOne_3 rfl ?_
  refine v_getI g ff_Mo_202 rfl rfl d_Mo_listsOne_4 ?_
  refine v_icmp_ge 28 g d_Mo_listsOne_7 (by decide) (fun _ => ?_) (fun _ => ?_)
  · refine v_aload_n 0 g d_Mo_listsOne_28 rfl ?_
    refine v_getR 57 g ff_Mo_35 rfl rfl rfl d_Mo_listsOne_29 ?_
    refine v_aload_n 0 g d_Mo_listsOne_32 rfl ?_
    refine v_getI g ff_Mo_202 rfl rfl d_Mo_listsOne_33 ?_
    refine v_lload_n 1 g d_Mo_listsOne_36 rfl ?_
    refine v_last g rfl rfl d_Mo_listsOne_37 (fun _ => ?_)
    refine v_aload_n 0 g d_Mo_listsOne_38 rfl ?_
    refine v_dup g d_Mo_listsOne_39 rfl ?_
    refine v_getI g ff_Mo_202 rfl rfl d_Mo_listsOne_40 ?_
    refine v_iconst (v := (1 : Int32)) g d_Mo_listsOne_43 (by decide +kernel) ?_
    refine v_iadd g d_Mo_listsOne_44 ?_
    refine v_putI g fp_Mo_202 rfl rfl d_Mo_listsOne_45 ?_
    refine v_nlet (fun σ1 eσ1 => ?_)
    rw [← eσ1]
    exact v_ret d_Mo_listsOne_48 rfl
  · refine v_aload_n 0 g d_Mo_listsOne_10 rfl ?_
    refine v_getR 57 g ff_Mo_35 rfl rfl rfl d_Mo_listsOne_11 ?_
    refine v_iload_n 2 g d_Mo_listsOne_14 rfl ?_
    refine v_lald g rfl rfl d_Mo_listsOne_15 (fun _ => ?_)
    refine v_lload_n 1 g d_Mo_listsOne_16 rfl ?_
    refine v_lcmp_ne 22 g d_Mo_listsOne_17 d_Mo_listsOne_18 (by decide) (fun _ => ?_) (fun _ => ?_)
    · refine v_iinc 2 [(3, .int (v3 + (1 : Int32))), (0, .ref (E.2.1 48)), (1, .long v1)] g d_Mo_listsOne_22 rfl (v := (1 : Int32)) (by decide +kernel) (by decide) rfl ?_
      refine v_goto 2 g d_Mo_listsOne_25 (by decide) ?_
      exact v_sub [1,2,0] rfl (hk2 v1 (v3 + (1 : Int32)) σ)
    · exact v_ret d_Mo_listsOne_21 rfl
def L_Mo_listsOne_2 : Nat → Int64 → Int32 → Sto → Option (Unit × Sto)
  | 0, _, _, _ => none
  | fu + 1, v1, v3, σ => B_Mo_listsOne_2 (L_Mo_listsOne_2 fu) v1 v3 σ
theorem vL_Mo_listsOne_2 {X : Xt} {E : En} (g : GG X E 1 b_Mo_listsOne R_Mo 4) (fu : Nat) : ∀ (v1 : Int64) (v3 : Int32) (σ : Sto), VV X E b_Mo_listsOne 4 eU 2 [(0, .ref (E.2.1 48)), (1, .long v1), (3, .int v3)] [] σ (L_Mo_listsOne_2 fu v1 v3 σ) := by
  induction fu with
  | zero => intros; exact v_none
  | succ fu ih =>
    intro v1 v3 σ
    exact vB_Mo_listsOne_2 g ih v1 v3 σ
def B_Mo_listsOne_0 (a1 : Int64) (σ : Sto) : Option (Unit × Sto) :=
  L_Mo_listsOne_2 LF a1 (0 : Int32) σ
set_option maxHeartbeats 4000000 in
set_option maxRecDepth 100000 in
theorem vB_Mo_listsOne_0 {X : Xt} {E : En} (g : GG X E 1 b_Mo_listsOne R_Mo 4) (a1 : Int64) (σ : Sto) : VV X E b_Mo_listsOne 4 eU 0 [(0, .ref (E.2.1 48)), (1, .long a1)] [] σ (B_Mo_listsOne_0 a1 σ) := by
  unfold B_Mo_listsOne_0
  refine v_iconst (v := (0 : Int32)) g d_Mo_listsOne_0 (by decide +kernel) ?_
  refine v_istore_n [(3, .int (0 : Int32)), (0, .ref (E.2.1 48)), (1, .long a1)] g d_Mo_listsOne_1 (by decide) rfl ?_
  exact v_sub [1,2,0] rfl (vL_Mo_listsOne_2 g LF a1 (0 : Int32) σ)
def f_Mo_listsOne (a1 : Int64) (σ : Sto) : Option (Unit × Sto) := B_Mo_listsOne_0 a1 σ
theorem sp_Mo_listsOne {l : Launch} {E : En} (hE : Dj E) {a1 : Int64} {σ : Sto} {r : Unit} {σ' : Sto} (h : f_Mo_listsOne a1 σ = some (r, σ')) : Ct l E y_Mo_listsOne (wsM y_Mo_listsOne b_Mo_listsOne 4 (none)) 1 [.ref (E.2.1 48), .long a1] σ (eU r) σ' :=
  ct_of hE (by decide +kernel) (Nat.le_of_ble_eq_true rfl) (fun _ => Or.inr (Or.inr (Or.inr (Or.inl ⟨rfl, rfl⟩)))) (fun X _ g => vB_Mo_listsOne_0 g a1 σ) r σ' h
/-! method FittingRingsModel.lists(IJ)V -/
theorem yv_Mo_lists : YV y_Mo_lists b_Mo_lists 11 (none) 2 10 := ⟨m1 1337 (by decide +kernel) (by decide +kernel), m1 44 (by decide +kernel) (by decide +kernel), ini_Mo, m1 1338 (by decide +kernel) (by decide +kernel), ⟨by decide +kernel, by decide +kernel, by decide +kernel⟩, by decide, by decide, T_Mo, 39, rfl⟩
theorem d_Mo_lists_0 : decode b_Mo_lists 0 = .ok (.aload_n 0, 1) := by decide +kernel
theorem d_Mo_lists_1 : decode b_Mo_lists 1 = .ok (.getfield 35, 3) := by decide +kernel
theorem d_Mo_lists_4 : decode b_Mo_lists 4 = .ok (.iconst 0, 1) := by decide +kernel
theorem d_Mo_lists_5 : decode b_Mo_lists 5 = .ok (.lconst 0, 1) := by decide +kernel
theorem d_Mo_lists_6 : decode b_Mo_lists 6 = .ok (.lastore, 1) := by decide +kernel
theorem d_Mo_lists_7 : decode b_Mo_lists 7 = .ok (.aload_n 0, 1) := by decide +kernel
theorem d_Mo_lists_8 : decode b_Mo_lists 8 = .ok (.iconst 1, 1) := by decide +kernel
theorem d_Mo_lists_9 : decode b_Mo_lists 9 = .ok (.putfield 202, 3) := by decide +kernel
theorem d_Mo_lists_12 : decode b_Mo_lists 12 = .ok (.lconst 0, 1) := by decide +kernel
theorem d_Mo_lists_13 : decode b_Mo_lists 13 = .ok (.lstore 4, 2) := by decide +kernel
theorem d_Mo_lists_15 : decode b_Mo_lists 15 = .ok (.iconst 0, 1) := by decide +kernel
theorem d_Mo_lists_16 : decode b_Mo_lists 16 = .ok (.istore 6, 2) := by decide +kernel
theorem d_Mo_lists_18 : decode b_Mo_lists 18 = .ok (.iload 6, 2) := by decide +kernel
theorem d_Mo_lists_20 : decode b_Mo_lists 20 = .ok (.aload_n 0, 1) := by decide +kernel
theorem d_Mo_lists_21 : decode b_Mo_lists 21 = .ok (.getfield 80, 3) := by decide +kernel
theorem d_Mo_lists_24 : decode b_Mo_lists 24 = .ok (.if_icmp .ge 170, 3) := by decide +kernel
theorem d_Mo_lists_27 : decode b_Mo_lists 27 = .ok (.lload_n 2, 1) := by decide +kernel
theorem d_Mo_lists_28 : decode b_Mo_lists 28 = .ok (.iload 6, 2) := by decide +kernel
theorem d_Mo_lists_30 : decode b_Mo_lists 30 = .ok (.invokestatic 119, 3) := by decide +kernel
theorem d_Mo_lists_33 : decode b_Mo_lists 33 = .ok (.ifCond .ne 6, 3) := by decide +kernel
theorem d_Mo_lists_36 : decode b_Mo_lists 36 = .ok (.goto 152, 3) := by decide +kernel
theorem d_Mo_lists_39 : decode b_Mo_lists 39 = .ok (.lload 4, 2) := by decide +kernel
theorem d_Mo_lists_41 : decode b_Mo_lists 41 = .ok (.iload 6, 2) := by decide +kernel
theorem d_Mo_lists_43 : decode b_Mo_lists 43 = .ok (.invokestatic 110, 3) := by decide +kernel
theorem d_Mo_lists_46 : decode b_Mo_lists 46 = .ok (.lor, 1) := by decide +kernel
theorem d_Mo_lists_47 : decode b_Mo_lists 47 = .ok (.lstore 4, 2) := by decide +kernel
theorem d_Mo_lists_49 : decode b_Mo_lists 49 = .ok (.aload_n 0, 1) := by decide +kernel
theorem d_Mo_lists_50 : decode b_Mo_lists 50 = .ok (.getfield 202, 3) := by decide +kernel
theorem d_Mo_lists_53 : decode b_Mo_lists 53 = .ok (.istore 7, 2) := by decide +kernel
theorem d_Mo_lists_55 : decode b_Mo_lists 55 = .ok (.iconst 0, 1) := by decide +kernel
theorem d_Mo_lists_56 : decode b_Mo_lists 56 = .ok (.istore 8, 2) := by decide +kernel
theorem d_Mo_lists_58 : decode b_Mo_lists 58 = .ok (.iload 8, 2) := by decide +kernel
theorem d_Mo_lists_60 : decode b_Mo_lists 60 = .ok (.iload 7, 2) := by decide +kernel
theorem d_Mo_lists_62 : decode b_Mo_lists 62 = .ok (.if_icmp .ge 53, 3) := by decide +kernel
theorem d_Mo_lists_65 : decode b_Mo_lists 65 = .ok (.aload_n 0, 1) := by decide +kernel
theorem d_Mo_lists_66 : decode b_Mo_lists 66 = .ok (.iload_n 1, 1) := by decide +kernel
theorem d_Mo_lists_67 : decode b_Mo_lists 67 = .ok (.iload 6, 2) := by decide +kernel
theorem d_Mo_lists_69 : decode b_Mo_lists 69 = .ok (.aload_n 0, 1) := by decide +kernel
theorem d_Mo_lists_70 : decode b_Mo_lists 70 = .ok (.getfield 35, 3) := by decide +kernel
theorem d_Mo_lists_73 : decode b_Mo_lists 73 = .ok (.iload 8, 2) := by decide +kernel
theorem d_Mo_lists_75 : decode b_Mo_lists 75 = .ok (.laload, 1) := by decide +kernel
theorem d_Mo_lists_76 : decode b_Mo_lists 76 = .ok (.invokevirtual 135, 3) := by decide +kernel
theorem d_Mo_lists_79 : decode b_Mo_lists 79 = .ok (.lstore 9, 2) := by decide +kernel
theorem d_Mo_lists_81 : decode b_Mo_lists 81 = .ok (.lload 9, 2) := by decide +kernel
theorem d_Mo_lists_83 : decode b_Mo_lists 83 = .ok (.aload_n 0, 1) := by decide +kernel
theorem d_Mo_lists_84 : decode b_Mo_lists 84 = .ok (.getfield 35, 3) := by decide +kernel
theorem d_Mo_lists_87 : decode b_Mo_lists 87 = .ok (.iload 8, 2) := by decide +kernel
theorem d_Mo_lists_89 : decode b_Mo_lists 89 = .ok (.laload, 1) := by decide +kernel
theorem d_Mo_lists_90 : decode b_Mo_lists 90 = .ok (.lcmp, 1) := by decide +kernel
theorem d_Mo_lists_91 : decode b_Mo_lists 91 = .ok (.ifCond .ne 18, 3) := by decide +kernel
theorem d_Mo_lists_94 : decode b_Mo_lists 94 = .ok (.aload_n 0, 1) := by decide +kernel
theorem d_Mo_lists_95 : decode b_Mo_lists 95 = .ok (.getfield 35, 3) := by decide +kernel
theorem d_Mo_lists_98 : decode b_Mo_lists 98 = .ok (.iload 8, 2) := by decide +kernel
theorem d_Mo_lists_100 : decode b_Mo_lists 100 = .ok (.dup2, 1) := by decide +kernel
theorem d_Mo_lists_101 : decode b_Mo_lists 101 = .ok (.laload, 1) := by decide +kernel
theorem d_Mo_lists_102 : decode b_Mo_lists 102 = .ok (.iload 6, 2) := by decide +kernel
theorem d_Mo_lists_104 : decode b_Mo_lists 104 = .ok (.invokestatic 110, 3) := by decide +kernel
theorem d_Mo_lists_107 : decode b_Mo_lists 107 = .ok (.lor, 1) := by decide +kernel
theorem d_Mo_lists_108 : decode b_Mo_lists 108 = .ok (.lastore, 1) := by decide +kernel
theorem d_Mo_lists_109 : decode b_Mo_lists 109 = .ok (.iinc 8 1, 3) := by decide +kernel
theorem d_Mo_lists_112 : decode b_Mo_lists 112 = .ok (.goto (-54), 3) := by decide +kernel
theorem d_Mo_lists_115 : decode b_Mo_lists 115 = .ok (.iconst 0, 1) := by decide +kernel
theorem d_Mo_lists_116 : decode b_Mo_lists 116 = .ok (.istore 8, 2) := by decide +kernel
theorem d_Mo_lists_118 : decode b_Mo_lists 118 = .ok (.iload 8, 2) := by decide +kernel
theorem d_Mo_lists_120 : decode b_Mo_lists 120 = .ok (.iload 7, 2) := by decide +kernel
theorem d_Mo_lists_122 : decode b_Mo_lists 122 = .ok (.if_icmp .ge 66, 3) := by decide +kernel
theorem d_Mo_lists_125 : decode b_Mo_lists 125 = .ok (.aload_n 0, 1) := by decide +kernel
theorem d_Mo_lists_126 : decode b_Mo_lists 126 = .ok (.iload_n 1, 1) := by decide +kernel
theorem d_Mo_lists_127 : decode b_Mo_lists 127 = .ok (.iload 6, 2) := by decide +kernel
theorem d_Mo_lists_129 : decode b_Mo_lists 129 = .ok (.aload_n 0, 1) := by decide +kernel
theorem d_Mo_lists_130 : decode b_Mo_lists 130 = .ok (.getfield 35, 3) := by decide +kernel
theorem d_Mo_lists_133 : decode b_Mo_lists 133 = .ok (.iload 8, 2) := by decide +kernel
theorem d_Mo_lists_135 : decode b_Mo_lists 135 = .ok (.laload, 1) := by decide +kernel
theorem d_Mo_lists_136 : decode b_Mo_lists 136 = .ok (.invokevirtual 135, 3) := by decide +kernel
theorem d_Mo_lists_139 : decode b_Mo_lists 139 = .ok (.iload 6, 2) := by decide +kernel
theorem d_Mo_lists_141 : decode b_Mo_lists 141 = .ok (.invokestatic 110, 3) := by decide +kernel
theorem d_Mo_lists_144 : decode b_Mo_lists 144 = .ok (.lor, 1) := by decide +kernel
theorem d_Mo_lists_145 : decode b_Mo_lists 145 = .ok (.lstore 9, 2) := by decide +kernel
theorem d_Mo_lists_147 : decode b_Mo_lists 147 = .ok (.aload_n 0, 1) := by decide +kernel
theorem d_Mo_lists_148 : decode b_Mo_lists 148 = .ok (.getfield 35, 3) := by decide +kernel
theorem d_Mo_lists_151 : decode b_Mo_lists 151 = .ok (.iload 8, 2) := by decide +kernel
theorem d_Mo_lists_153 : decode b_Mo_lists 153 = .ok (.laload, 1) := by decide +kernel
theorem d_Mo_lists_154 : decode b_Mo_lists 154 = .ok (.iload 6, 2) := by decide +kernel
theorem d_Mo_lists_156 : decode b_Mo_lists 156 = .ok (.invokestatic 119, 3) := by decide +kernel
theorem d_Mo_lists_159 : decode b_Mo_lists 159 = .ok (.ifCond .ne 23, 3) := by decide +kernel
theorem d_Mo_lists_162 : decode b_Mo_lists 162 = .ok (.aload_n 0, 1) := by decide +kernel
theorem d_Mo_lists_163 : decode b_Mo_lists 163 = .ok (.iload_n 1, 1) := by decide +kernel
theorem d_Mo_lists_164 : decode b_Mo_lists 164 = .ok (.lload 9, 2) := by decide +kernel
theorem d_Mo_lists_166 : decode b_Mo_lists 166 = .ok (.lload 4, 2) := by decide +kernel
theorem d_Mo_lists_168 : decode b_Mo_lists 168 = .ok (.invokevirtual 205, 3) := by decide +kernel
theorem d_Mo_lists_171 : decode b_Mo_lists 171 = .ok (.lconst 0, 1) := by decide +kernel
theorem d_Mo_lists_172 : decode b_Mo_lists 172 = .ok (.lcmp, 1) := by decide +kernel
theorem d_Mo_lists_173 : decode b_Mo_lists 173 = .ok (.ifCond .ne 9, 3) := by decide +kernel
theorem d_Mo_lists_176 : decode b_Mo_lists 176 = .ok (.aload_n 0, 1) := by decide +kernel
theorem d_Mo_lists_177 : decode b_Mo_lists 177 = .ok (.lload 9, 2) := by decide +kernel
theorem d_Mo_lists_179 : decode b_Mo_lists 179 = .ok (.invokevirtual 209, 3) := by decide +kernel
theorem d_Mo_lists_182 : decode b_Mo_lists 182 = .ok (.iinc 8 1, 3) := by decide +kernel
theorem d_Mo_lists_185 : decode b_Mo_lists 185 = .ok (.goto (-67), 3) := by decide +kernel
theorem d_Mo_lists_188 : decode b_Mo_lists 188 = .ok (.iinc 6 1, 3) := by decide +kernel
theorem d_Mo_lists_191 : decode b_Mo_lists 191 = .ok (.goto (-173), 3) := by decide +kernel
theorem d_Mo_lists_194 : decode b_Mo_lists 194 = .ok (.return_, 1) := by decide +kernel
def B_Mo_lists_118 (k18 : Int32 → Int64 → Int64 → Int32 → Sto → Option (Unit × Sto)) (k118 : Int32 → Int64 → Int64 → Int32 → Int32 → Int32 → Sto → Option (Unit × Sto)) (v1 : Int32) (v2 : Int64) (v4 : Int64) (v6 : Int32) (v7 : Int32) (v8 : Int32) (σ : Sto) : Option (Unit × Sto) :=
  (if v7 ≤ v8 then k18 v1 v2 v4 (v6 + (1 : Int32)) σ
 else (if inb v8 400 = true then ((f_Mo_fits v1 v6 (gL σ 57 (Int32.toNatClampNeg v8)) σ).bind fun q7 => ((f_Mo_bit v6 q7.2).bind fun q8 => (if inb v8 400 = true then ((f_Mo_has (gL q8.2 57 (Int32.toNatClampNeg v8)) v6 q8.2).bind fun q9 => (if (b2i q9.1) = 0 then ((f_Mo_common v1 (q7.1 ||| q8.1) v4 q9.2).bind fun q10 => (if q10.1 = (0 : Int64) then ((f_Mo_listsOne (q7.1 ||| q8.1) q10.2).bind fun q11 => k118 v1 v2 v4 v6 v7 (v8 + (1 : Int32)) q11.2)
   else k118 v1 v2 v4 v6 v7 (v8 + (1 : Int32)) q10.2))
  else k118 v1 v2 v4 v6 v7 (v8 + (1 : Int32)) q9.2)) else none))) else none))
set_option maxHeartbeats 4000000 in
set_option maxRecDepth 100000 in
theorem vB_Mo_lists_118 {X : Xt} {E : En} (g : GG X E 4 b_Mo_lists R_Mo 11) {k18 : Int32 → Int64 → Int64 → Int32 → Sto → Option (Unit × Sto)} {k118 : Int32 → Int64 → Int64 → Int32 → Int32 → Int32 → Sto → Option (Unit × Sto)} (hk18 : ∀ (v1 : Int32) (v2 : Int64) (v4 : Int64) (v6 : Int32) (σ : Sto), VV X E b_Mo_lists 11 eU 18 [(0, .ref (E.2.1 48)), (1, .int v1), (2, .long v2), (4, .long v4), (6, .int v6)] [] σ (k18 v1 v2 v4 v6 σ)) (hk118 : ∀ (v1 : Int32) (v2 : Int64) (v4 : Int64) (v6 : Int32) (v7 : Int32) (v8 : Int32) (σ : Sto), VV X E b_Mo_lists 11 eU 118 [(0, .ref (E.2.1 48)), (1, .int v1), (2, .long v2), (4, .long v4), (6, .int v6), (7, .int v7), (8, .int v8)] [] σ (k118 v1 v2 v4 v6 v7 v8 σ)) (v1 : Int32) (v2 : Int64) (v4 : Int64) (v6 : Int32) (v7 : Int32) (v8 : Int32) (σ : Sto) : VV X E b_Mo_lists 11 eU 118 [(0, .ref (E.2.1 48)), (1, .int v1), (2, .long v2), (4, .long v4), (6, .int v6), (7, .int v7), (8, .int v8)] [] σ (B_Mo_lists_118 k18 k118 v1 v2 v4 v6 v7 v8 σ) := by
  unfold B_Mo_lists_118
  refine v_iload 6 g d_Mo_lists_118 rfl ?_
  refine v_iload 5 g d_Mo_lists_120 rfl ?_
  refine v_icmp_ge 188 g d_Mo_lists_122 (by decide) (fun _ => ?_) (fun _ => ?_)
  · refine v_iinc 4 [(6, .int (v6 + (1 : Int32))), (0, .ref (E.2.1 48)), (1, .int v1), (2, .long v2), (4, .long v4), (7, .int v7), (8, .int v8)] g d_Mo_lists_188 rfl (v := (1 : Int32)) (by decide +kernel) (by decide) rfl ?_
    refine v_goto 18 g d_Mo_lists_191 (by decide) ?_
    exact v_sub [1,2,3,4,0] rfl (hk18 v1 v2 v4 (v6 + (1 : Int32)) σ)
  · refine v_aload_n 0 g d_Mo_lists_125 rfl ?_
    refine v_iload_n 1 g d_Mo_lists_126 rfl ?_
    refine v_iload 4 g d_Mo_lists_127 rfl ?_
    refine v_aload_n 0 g d_Mo_lists_129 rfl ?_
    refine v_getR 57 g ff_Mo_35 rfl rfl rfl d_Mo_lists_130 ?_
    refine v_iload 6 g d_Mo_lists_133 rfl ?_
    refine v_lald g rfl rfl d_Mo_lists_135 (fun _ => ?_)
    refine v_callL (r_V (rest := []) [.int v1, .int v6, .long (gL σ 57 (Int32.toNatClampNeg v8))] g (m1 1233 (by decide +kernel) (by decide +kernel)) yv_Mo_fits rfl (fun r σ1 h => sp_Mo_fits g.2.2.1  h) rfl rfl (by decide) (Nat.le_of_ble_eq_true rfl) d_Mo_lists_136) (fun q7 => ?_)
    refine v_iload 4 g d_Mo_lists_139 rfl ?_
    refine v_callL (r_S (rest := [.long q7.1]) [.int v6] g (m1 1213 (by decide +kernel) (by decide +kernel)) ys_Mo_bit (fun r σ1 h => sp_Mo_bit g.2.2.1  h) rfl rfl (by decide) (Nat.le_of_ble_eq_true rfl) d_Mo_lists_141) (fun q8 => ?_)
    refine v_lor g d_Mo_lists_144 ?_
    refine v_lstore [(9, .long (q7.1 ||| q8.1)), (0, .ref (E.2.1 48)), (1, .int v1), (2, .long v2), (4, .long v4), (6, .int v6), (7, .int v7), (8, .int v8)] g d_Mo_lists_145 (by decide) rfl ?_
    refine v_aload_n 1 g d_Mo_lists_147 rfl ?_
    refine v_getR 57 g ff_Mo_35 rfl rfl rfl d_Mo_lists_148 ?_
    refine v_iload 7 g d_Mo_lists_151 rfl ?_
    refine v_lald g rfl rfl d_Mo_lists_153 (fun _ => ?_)
    refine v_iload 5 g d_Mo_lists_154 rfl ?_
    refine v_callB (r_S (rest := []) [.long (gL q8.2 57 (Int32.toNatClampNeg v8)), .int v6] g (m1 1206 (by decide +kernel) (by decide +kernel)) ys_Mo_has (fun r σ1 h => sp_Mo_has g.2.2.1  h) rfl rfl (by decide) (Nat.le_of_ble_eq_true rfl) d_Mo_lists_156) (fun q9 => ?_)
    refine v_if_ne 182 g d_Mo_lists_159 (by decide) (fun _ => ?_) (fun _ => ?_)
    · refine v_iinc 7 [(8, .int (v8 + (1 : Int32))), (9, .long (q7.1 ||| q8.1)), (0, .ref (E.2.1 48)), (1, .int v1), (2, .long v2), (4, .long v4), (6, .int v6), (7, .int v7)] g d_Mo_lists_182 rfl (v := (1 : Int32)) (by decide +kernel) (by decide) rfl ?_
      refine v_goto 118 g d_Mo_lists_185 (by decide) ?_
      exact v_sub [2,3,4,5,6,7,0] rfl (hk118 v1 v2 v4 v6 v7 (v8 + (1 : Int32)) q9.2)
    · refine v_aload_n 1 g d_Mo_lists_162 rfl ?_
      refine v_iload_n 2 g d_Mo_lists_163 rfl ?_
      refine v_lload 0 g d_Mo_lists_164 rfl ?_
      refine v_lload 4 g d_Mo_lists_166 rfl ?_
      refine v_callL (r_V (rest := []) [.int v1, .long (q7.1 ||| q8.1), .long v4] g (m1 1339 (by decide +kernel) (by decide +kernel)) yv_Mo_common rfl (fun r σ1 h => sp_Mo_common g.2.2.1  h) rfl rfl (by decide) (Nat.le_of_ble_eq_true rfl) d_Mo_lists_168) (fun q10 => ?_)
      refine v_lconst (v := (0 : Int64)) g d_Mo_lists_171 (by decide +kernel) ?_
      refine v_lcmp_ne 182 g d_Mo_lists_172 d_Mo_lists_173 (by decide) (fun _ => ?_) (fun _ => ?_)
      · refine v_iinc 7 [(8, .int (v8 + (1 : Int32))), (9, .long (q7.1 ||| q8.1)), (0, .ref (E.2.1 48)), (1, .int v1), (2, .long v2), (4, .long v4), (6, .int v6), (7, .int v7)] g d_Mo_lists_182 rfl (v := (1 : Int32)) (by decide +kernel) (by decide) rfl ?_
        refine v_goto 118 g d_Mo_lists_185 (by decide) ?_
        exact v_sub [2,3,4,5,6,7,0] rfl (hk118 v1 v2 v4 v6 v7 (v8 + (1 : Int32)) q10.2)
      · refine v_aload_n 1 g d_Mo_lists_176 rfl ?_
        refine v_lload 0 g d_Mo_lists_177 rfl ?_
        refine v_callU (r_V (rest := []) [.long (q7.1 ||| q8.1)] g (m1 1343 (by decide +kernel) (by decide +kernel)) yv_Mo_listsOne rfl (fun r σ1 h => sp_Mo_listsOne g.2.2.1  h) rfl rfl (by decide) (Nat.le_of_ble_eq_true rfl) d_Mo_lists_179) (fun q11 => ?_)
        refine v_iinc 7 [(8, .int (v8 + (1 : Int32))), (9, .long (q7.1 ||| q8.1)), (0, .ref (E.2.1 48)), (1, .int v1), (2, .long v2), (4, .long v4), (6, .int v6), (7, .int v7)] g d_Mo_lists_182 rfl (v := (1 : Int32)) (by decide +kernel) (by decide) rfl ?_
        refine v_goto 118 g d_Mo_lists_185 (by decide) ?_
        exact v_sub [2,3,4,5,6,7,0] rfl (hk118 v1 v2 v4 v6 v7 (v8 + (1 : Int32)) q11.2)
def L_Mo_lists_118 (k18 : Int32 → Int64 → Int64 → Int32 → Sto → Option (Unit × Sto)) : Nat → Int32 → Int64 → Int64 → Int32 → Int32 → Int32 → Sto → Option (Unit × Sto)
  | 0, _, _, _, _, _, _, _ => none
  | fu + 1, v1, v2, v4, v6, v7, v8, σ => B_Mo_lists_118 k18 (L_Mo_lists_118 k18 fu) v1 v2 v4 v6 v7 v8 σ
theorem vL_Mo_lists_118 {X : Xt} {E : En} (g : GG X E 4 b_Mo_lists R_Mo 11) {k18 : Int32 → Int64 → Int64 → Int32 → Sto → Option (Unit × Sto)} (hk18 : ∀ (v1 : Int32) (v2 : Int64) (v4 : Int64) (v6 : Int32) (σ : Sto), VV X E b_Mo_lists 11 eU 18 [(0, .ref (E.2.1 48)), (1, .int v1), (2, .long v2), (4, .long v4), (6, .int v6)] [] σ (k18 v1 v2 v4 v6 σ)) (fu : Nat) : ∀ (v1 : Int32) (v2 : Int64) (v4 : Int64) (v6 : Int32) (v7 : Int32) (v8 : Int32) (σ : Sto), VV X E b_Mo_lists 11 eU 118 [(0, .ref (E.2.1 48)), (1, .int v1), (2, .long v2), (4, .long v4), (6, .int v6), (7, .int v7), (8, .int v8)] [] σ (L_Mo_lists_118 k18 fu v1 v2 v4 v6 v7 v8 σ) := by
  induction fu with
  | zero => intros; exact v_none
  | succ fu ih =>
    intro v1 v2 v4 v6 v7 v8 σ
    exact vB_Mo_lists_118 g hk18 ih v1 v2 v4 v6 v7 v8 σ
def B_Mo_lists_58 (k18 : Int32 → Int64 → Int64 → Int32 → Sto → Option (Unit × Sto)) (k58 : Int32 → Int64 → Int64 → Int32 → Int32 → Int32 → Sto → Option (Unit × Sto)) (v1 : Int32) (v2 : Int64) (v4 : Int64) (v6 : Int32) (v7 : Int32) (v8 : Int32) (σ : Sto) : Option (Unit × Sto) :=
  (if v7 ≤ v8 then L_Mo_lists_118 k18 LF v1 v2 v4 v6 v7 (0 : Int32) σ
 else (if inb v8 400 = true then ((f_Mo_fits v1 v6 (gL σ 57 (Int32.toNatClampNeg v8)) σ).bind fun q4 => (if inb v8 400 = true then (if q4.1 = (gL q4.2 57 (Int32.toNatClampNeg v8)) then (if inb v8 400 = true then ((f_Mo_bit v6 q4.2).bind fun q5 => (if inb v8 400 = true then (lt1 (sL q5.2 57 (Int32.toNatClampNeg v8) ((gL q4.2 57 (Int32.toNatClampNeg v8)) ||| q5.1)) fun σ6 => k58 v1 v2 v4 v6 v7 (v8 + (1 : Int32)) σ6) else none)) else none)
  else k58 v1 v2 v4 v6 v7 (v8 + (1 : Int32)) q4.2) else none)) else none))
set_option maxHeartbeats 4000000 in
set_option maxRecDepth 100000 in
theorem vB_Mo_lists_58 {X : Xt} {E : En} (g : GG X E 4 b_Mo_lists R_Mo 11) {k18 : Int32 → Int64 → Int64 → Int32 → Sto → Option (Unit × Sto)} {k58 : Int32 → Int64 → Int64 → Int32 → Int32 → Int32 → Sto → Option (Unit × Sto)} (hk18 : ∀ (v1 : Int32) (v2 : Int64) (v4 : Int64) (v6 : Int32) (σ : Sto), VV X E b_Mo_lists 11 eU 18 [(0, .ref (E.2.1 48)), (1, .int v1), (2, .long v2), (4, .long v4), (6, .int v6)] [] σ (k18 v1 v2 v4 v6 σ)) (hk58 : ∀ (v1 : Int32) (v2 : Int64) (v4 : Int64) (v6 : Int32) (v7 : Int32) (v8 : Int32) (σ : Sto), VV X E b_Mo_lists 11 eU 58 [(0, .ref (E.2.1 48)), (1, .int v1), (2, .long v2), (4, .long v4), (6, .int v6), (7, .int v7), (8, .int v8)] [] σ (k58 v1 v2 v4 v6 v7 v8 σ)) (v1 : Int32) (v2 : Int64) (v4 : Int64) (v6 : Int32) (v7 : Int32) (v8 : Int32) (σ : Sto) : VV X E b_Mo_lists 11 eU 58 [(0, .ref (E.2.1 48)), (1, .int v1), (2, .long v2), (4, .long v4), (6, .int v6), (7, .int v7), (8, .int v8)] [] σ (B_Mo_lists_58 k18 k58 v1 v2 v4 v6 v7 v8 σ) := by
  unfold B_Mo_lists_58
  refine v_iload 6 g d_Mo_lists_58 rfl ?_
  refine v_iload 5 g d_Mo_lists_60 rfl ?_
  refine v_icmp_ge 115 g d_Mo_lists_62 (by decide) (fun _ => ?_) (fun _ => ?_)
  · refine v_iconst (v := (0 : Int32)) g d_Mo_lists_115 (by decide +kernel) ?_
    refine v_istore [(8, .int (0 : Int32)), (0, .ref (E.2.1 48)), (1, .int v1), (2, .long v2), (4, .long v4), (6, .int v6), (7, .int v7)] g d_Mo_lists_116 (by decide) rfl ?_
    exact v_sub [1,2,3,4,5,6,0] rfl (vL_Mo_lists_118 g hk18 LF v1 v2 v4 v6 v7 (0 : Int32) σ)
  · refine v_aload_n 0 g d_Mo_lists_65 rfl ?_
    refine v_iload_n 1 g d_Mo_lists_66 rfl ?_
    refine v_iload 4 g d_Mo_lists_67 rfl ?_
    refine v_aload_n 0 g d_Mo_lists_69 rfl ?_
    refine v_getR 57 g ff_Mo_35 rfl rfl rfl d_Mo_lists_70 ?_
    refine v_iload 6 g d_Mo_lists_73 rfl ?_
    refine v_lald g rfl rfl d_Mo_lists_75 (fun _ => ?_)
    refine v_callL (r_V (rest := []) [.int v1, .int v6, .long (gL σ 57 (Int32.toNatClampNeg v8))] g (m1 1233 (by decide +kernel) (by decide +kernel)) yv_Mo_fits rfl (fun r σ1 h => sp_Mo_fits g.2.2.1  h) rfl rfl (by decide) (Nat.le_of_ble_eq_true rfl) d_Mo_lists_76) (fun q4 => ?_)
    refine v_lstore [(9, .long q4.1), (0, .ref (E.2.1 48)), (1, .int v1), (2, .long v2), (4, .long v4), (6, .int v6), (7, .int v7), (8, .int v8)] g d_Mo_lists_79 (by decide) rfl ?_
    refine v_lload 0 g d_Mo_lists_81 rfl ?_
    refine v_aload_n 1 g d_Mo_lists_83 rfl ?_
    refine v_getR 57 g ff_Mo_35 rfl rfl rfl d_Mo_lists_84 ?_
    refine v_iload 7 g d_Mo_lists_87 rfl ?_
    refine v_lald g rfl rfl d_Mo_lists_89 (fun _ => ?_)
    refine v_lcmp_ne 109 g d_Mo_lists_90 d_Mo_lists_91 (by decide) (fun _ => ?_) (fun _ => ?_)
    · refine v_iinc 7 [(8, .int (v8 + (1 : Int32))), (9, .long q4.1), (0, .ref (E.2.1 48)), (1, .int v1), (2, .long v2), (4, .long v4), (6, .int v6), (7, .int v7)] g d_Mo_lists_109 rfl (v := (1 : Int32)) (by decide +kernel) (by decide) rfl ?_
      refine v_goto 58 g d_Mo_lists_112 (by decide) ?_
      exact v_sub [2,3,4,5,6,7,0] rfl (hk58 v1 v2 v4 v6 v7 (v8 + (1 : Int32)) q4.2)
    · refine v_aload_n 1 g d_Mo_lists_94 rfl ?_
      refine v_getR 57 g ff_Mo_35 rfl rfl rfl d_Mo_lists_95 ?_
      refine v_iload 7 g d_Mo_lists_98 rfl ?_
      refine v_dup2_11 g d_Mo_lists_100 rfl rfl ?_
      refine v_lald g rfl rfl d_Mo_lists_101 (fun _ => ?_)
      refine v_iload 5 g d_Mo_lists_102 rfl ?_
      refine v_callL (r_S (rest := [.long (gL q4.2 57 (Int32.toNatClampNeg v8)), .int v8, .ref (E.2.1 57)]) [.int v6] g (m1 1213 (by decide +kernel) (by decide +kernel)) ys_Mo_bit (fun r σ1 h => sp_Mo_bit g.2.2.1  h) rfl rfl (by decide) (Nat.le_of_ble_eq_true rfl) d_Mo_lists_104) (fun q5 => ?_)
      refine v_lor g d_Mo_lists_107 ?_
      refine v_last g rfl rfl d_Mo_lists_108 (fun _ => ?_)
      refine v_nlet (fun σ6 eσ6 => ?_)
      rw [← eσ6]
      refine v_iinc 7 [(8, .int (v8 + (1 : Int32))), (9, .long q4.1), (0, .ref (E.2.1 48)), (1, .int v1), (2, .long v2), (4, .long v4), (6, .int v6), (7, .int v7)] g d_Mo_lists_109 rfl (v := (1 : Int32)) (by decide +kernel) (by decide) rfl ?_
      refine v_goto 58 g d_Mo_lists_112 (by decide) ?_
      exact v_sub [2,3,4,5,6,7,0] rfl (hk58 v1 v2 v4 v6 v7 (v8 + (1 : Int32)) σ6)
def L_Mo_lists_58 (k18 : Int32 → Int64 → Int64 → Int32 → Sto → Option (Unit × Sto)) : Nat → Int32 → Int64 → Int64 → Int32 → Int32 → Int32 → Sto → Option (Unit × Sto)
  | 0, _, _, _, _, _, _, _ => none
  | fu + 1, v1, v2, v4, v6, v7, v8, σ => B_Mo_lists_58 k18 (L_Mo_lists_58 k18 fu) v1 v2 v4 v6 v7 v8 σ
theorem vL_Mo_lists_58 {X : Xt} {E : En} (g : GG X E 4 b_Mo_lists R_Mo 11) {k18 : Int32 → Int64 → Int64 → Int32 → Sto → Option (Unit × Sto)} (hk18 : ∀ (v1 : Int32) (v2 : Int64) (v4 : Int64) (v6 : Int32) (σ : Sto), VV X E b_Mo_lists 11 eU 18 [(0, .ref (E.2.1 48)), (1, .int v1), (2, .long v2), (4, .long v4), (6, .int v6)] [] σ (k18 v1 v2 v4 v6 σ)) (fu : Nat) : ∀ (v1 : Int32) (v2 : Int64) (v4 : Int64) (v6 : Int32) (v7 : Int32) (v8 : Int32) (σ : Sto), VV X E b_Mo_lists 11 eU 58 [(0, .ref (E.2.1 48)), (1, .int v1), (2, .long v2), (4, .long v4), (6, .int v6), (7, .int v7), (8, .int v8)] [] σ (L_Mo_lists_58 k18 fu v1 v2 v4 v6 v7 v8 σ) := by
  induction fu with
  | zero => intros; exact v_none
  | succ fu ih =>
    intro v1 v2 v4 v6 v7 v8 σ
    exact vB_Mo_lists_58 g hk18 ih v1 v2 v4 v6 v7 v8 σ
def B_Mo_lists_18 (k18 : Int32 → Int64 → Int64 → Int32 → Sto → Option (Unit × Sto)) (v1 : Int32) (v2 : Int64) (v4 : Int64) (v6 : Int32) (σ : Sto) : Option (Unit × Sto) :=
  (if (gI σ 48 0) ≤ v6 then some ((), σ)
 else ((f_Mo_has v2 v6 σ).bind fun q2 => (if (b2i q2.1) = 0 then k18 v1 v2 v4 (v6 + (1 : Int32)) q2.2
  else ((f_Mo_bit v6 q2.2).bind fun q3 => L_Mo_lists_58 k18 LF v1 v2 (v4 ||| q3.1) v6 (gI q3.2 48 15) (0 : Int32) q3.2))))
set_option maxHeartbeats 4000000 in
set_option maxRecDepth 100000 in
theorem vB_Mo_lists_18 {X : Xt} {E : En} (g : GG X E 4 b_Mo_lists R_Mo 11) {k18 : Int32 → Int64 → Int64 → Int32 → Sto → Option (Unit × Sto)} (hk18 : ∀ (v1 : Int32) (v2 : Int64) (v4 : Int64) (v6 : Int32) (σ : Sto), VV X E b_Mo_lists 11 eU 18 [(0, .ref (E.2.1 48)), (1, .int v1), (2, .long v2), (4, .long v4), (6, .int v6)] [] σ (k18 v1 v2 v4 v6 σ)) (v1 : Int32) (v2 : Int64) (v4 : Int64) (v6 : Int32) (σ : Sto) : VV X E b_Mo_lists 11 eU 18 [(0, .ref (E.2.1 48)), (1, .int v1), (2, .long v2), (4, .long v4), (6, .int v6)] [] σ (B_Mo_lists_18 k18 v1 v2 v4 v6 σ) := by
  unfold B_Mo_lists_18
  refine v_iload 4 g d_Mo_lists_18 rfl ?_
  refine v_aload_n 0 g d_Mo_lists_20 rfl ?_
  refine v_getI g ff_Mo_80 rfl rfl d_Mo_lists_21 ?_
  refine v_icmp_ge 194 g d_Mo_lists_24 (by decide) (fun _ => ?_) (fun _ => ?_)
  · exact v_ret d_Mo_lists_194 rfl
  · refine v_lload_n 2 g d_Mo_lists_27 rfl ?_
    refine v_iload 4 g d_Mo_lists_28 rfl ?_
    refine v_callB (r_S (rest := []) [.long v2, .int v6] g (m1 1206 (by decide +kernel) (by decide +kernel)) ys_Mo_has (fun r σ1 h => sp_Mo_has g.2.2.1  h) rfl rfl (by decide) (Nat.le_of_ble_eq_true rfl) d_Mo_lists_30) (fun q2 => ?_)
    refine v_if_ne 39 g d_Mo_lists_33 (by decide) (fun _ => ?_) (fun _ => ?_)
    · refine v_lload 3 g d_Mo_lists_39 rfl ?_
      refine v_iload 4 g d_Mo_lists_41 rfl ?_
      refine v_callL (r_S (rest := [.long v4]) [.int v6] g (m1 1213 (by decide +kernel) (by decide +kernel)) ys_Mo_bit (fun r σ1 h => sp_Mo_bit g.2.2.1  h) rfl rfl (by decide) (Nat.le_of_ble_eq_true rfl) d_Mo_lists_43) (fun q3 => ?_)
      refine v_lor g d_Mo_lists_46 ?_
      refine v_lstore [(4, .long (v4 ||| q3.1)), (0, .ref (E.2.1 48)), (1, .int v1), (2, .long v2), (6, .int v6)] g d_Mo_lists_47 (by decide) rfl ?_
      refine v_aload_n 1 g d_Mo_lists_49 rfl ?_
      refine v_getI g ff_Mo_202 rfl rfl d_Mo_lists_50 ?_
      refine v_istore [(7, .int (gI q3.2 48 15)), (4, .long (v4 ||| q3.1)), (0, .ref (E.2.1 48)), (1, .int v1), (2, .long v2), (6, .int v6)] g d_Mo_lists_53 (by decide) rfl ?_
      refine v_iconst (v := (0 : Int32)) g d_Mo_lists_55 (by decide +kernel) ?_
      refine v_istore [(8, .int (0 : Int32)), (7, .int (gI q3.2 48 15)), (4, .long (v4 ||| q3.1)), (0, .ref (E.2.1 48)), (1, .int v1), (2, .long v2), (6, .int v6)] g d_Mo_lists_56 (by decide) rfl ?_
      exact v_sub [3,4,5,2,6,1,0] rfl (vL_Mo_lists_58 g hk18 LF v1 v2 (v4 ||| q3.1) v6 (gI q3.2 48 15) (0 : Int32) q3.2)
    · refine v_goto 188 g d_Mo_lists_36 (by decide) ?_
      refine v_iinc 4 [(6, .int (v6 + (1 : Int32))), (0, .ref (E.2.1 48)), (1, .int v1), (2, .long v2), (4, .long v4)] g d_Mo_lists_188 rfl (v := (1 : Int32)) (by decide +kernel) (by decide) rfl ?_
      refine v_goto 18 g d_Mo_lists_191 (by decide) ?_
      exact v_sub [1,2,3,4,0] rfl (hk18 v1 v2 v4 (v6 + (1 : Int32)) q2.2)
def L_Mo_lists_18 : Nat → Int32 → Int64 → Int64 → Int32 → Sto → Option (Unit × Sto)
  | 0, _, _, _, _, _ => none
  | fu + 1, v1, v2, v4, v6, σ => B_Mo_lists_18 (L_Mo_lists_18 fu) v1 v2 v4 v6 σ
theorem vL_Mo_lists_18 {X : Xt} {E : En} (g : GG X E 4 b_Mo_lists R_Mo 11) (fu : Nat) : ∀ (v1 : Int32) (v2 : Int64) (v4 : Int64) (v6 : Int32) (σ : Sto), VV X E b_Mo_lists 11 eU 18 [(0, .ref (E.2.1 48)), (1, .int v1), (2, .long v2), (4, .long v4), (6, .int v6)] [] σ (L_Mo_lists_18 fu v1 v2 v4 v6 σ) := by
  induction fu with
  | zero => intros; exact v_none
  | succ fu ih =>
    intro v1 v2 v4 v6 σ
    exact vB_Mo_lists_18 g ih v1 v2 v4 v6 σ
def B_Mo_lists_0 (a1 : Int32) (a2 : Int64) (σ : Sto) : Option (Unit × Sto) :=
  (if inb (0 : Int32) 400 = true then (lt1 (sI (sL σ 57 (Int32.toNatClampNeg (0 : Int32)) (0 : Int64)) 48 15 (1 : Int32)) fun σ1 => L_Mo_lists_18 LF a1 a2 (0 : Int64) (0 : Int32) σ1) else none)
set_option maxHeartbeats 4000000 in
set_option maxRecDepth 100000 in
theorem vB_Mo_lists_0 {X : Xt} {E : En} (g : GG X E 4 b_Mo_lists R_Mo 11) (a1 : Int32) (a2 : Int64) (σ : Sto) : VV X E b_Mo_lists 11 eU 0 [(0, .ref (E.2.1 48)), (1, .int a1), (2, .long a2)] [] σ (B_Mo_lists_0 a1 a2 σ) := by
  unfold B_Mo_lists_0
  refine v_aload_n 0 g d_Mo_lists_0 rfl ?_
  refine v_getR 57 g ff_Mo_35 rfl rfl rfl d_Mo_lists_1 ?_
  refine v_iconst (v := (0 : Int32)) g d_Mo_lists_4 (by decide +kernel) ?_
  refine v_lconst (v := (0 : Int64)) g d_Mo_lists_5 (by decide +kernel) ?_
  refine v_last g rfl rfl d_Mo_lists_6 (fun _ => ?_)
  refine v_aload_n 0 g d_Mo_lists_7 rfl ?_
  refine v_iconst (v := (1 : Int32)) g d_Mo_lists_8 (by decide +kernel) ?_
  refine v_putI g fp_Mo_202 rfl rfl d_Mo_lists_9 ?_
  refine v_nlet (fun σ1 eσ1 => ?_)
  rw [← eσ1]
  refine v_lconst (v := (0 : Int64)) g d_Mo_lists_12 (by decide +kernel) ?_
  refine v_lstore [(4, .long (0 : Int64)), (0, .ref (E.2.1 48)), (1, .int a1), (2, .long a2)] g d_Mo_lists_13 (by decide) rfl ?_
  refine v_iconst (v := (0 : Int32)) g d_Mo_lists_15 (by decide +kernel) ?_
  refine v_istore [(6, .int (0 : Int32)), (4, .long (0 : Int64)), (0, .ref (E.2.1 48)), (1, .int a1), (2, .long a2)] g d_Mo_lists_16 (by decide) rfl ?_
  exact v_sub [2,3,4,1,0] rfl (vL_Mo_lists_18 g LF a1 a2 (0 : Int64) (0 : Int32) σ1)
def f_Mo_lists (a1 : Int32) (a2 : Int64) (σ : Sto) : Option (Unit × Sto) := B_Mo_lists_0 a1 a2 σ
theorem sp_Mo_lists {l : Launch} {E : En} (hE : Dj E) {a1 : Int32} {a2 : Int64} {σ : Sto} {r : Unit} {σ' : Sto} (h : f_Mo_lists a1 a2 σ = some (r, σ')) : Ct l E y_Mo_lists (wsM y_Mo_lists b_Mo_lists 11 (none)) 4 [.ref (E.2.1 48), .int a1, .long a2] σ (eU r) σ' :=
  ct_of hE (by decide +kernel) (Nat.le_of_ble_eq_true rfl) (fun _ => Or.inr (Or.inr (Or.inr (Or.inl ⟨rfl, rfl⟩)))) (fun X _ g => vB_Mo_lists_0 g a1 a2 σ) r σ' h
/-! method FittingRingsModel.isMuch(J)Z -/
theorem ys_Mo_isMuch : YS y_Mo_isMuch b_Mo_isMuch 2 (some .boolean) 1 := ⟨m1 1328 (by decide +kernel) (by decide +kernel), ini_Mo, m1 1329 (by decide +kernel) (by decide +kernel), ⟨by decide +kernel, by decide +kernel, by decide +kernel⟩, by decide⟩
theorem d_Mo_isMuch_0 : decode b_Mo_isMuch 0 = .ok (.lload_n 0, 1) := by decide +kernel
theorem d_Mo_isMuch_1 : decode b_Mo_isMuch 1 = .ok (.invokestatic 96, 3) := by decide +kernel
theorem d_Mo_isMuch_4 : decode b_Mo_isMuch 4 = .ok (.bipush 16, 2) := by decide +kernel
theorem d_Mo_isMuch_6 : decode b_Mo_isMuch 6 = .ok (.if_icmp .le 7, 3) := by decide +kernel
theorem d_Mo_isMuch_9 : decode b_Mo_isMuch 9 = .ok (.iconst 1, 1) := by decide +kernel
theorem d_Mo_isMuch_10 : decode b_Mo_isMuch 10 = .ok (.goto 4, 3) := by decide +kernel
theorem d_Mo_isMuch_13 : decode b_Mo_isMuch 13 = .ok (.iconst 0, 1) := by decide +kernel
theorem d_Mo_isMuch_14 : decode b_Mo_isMuch 14 = .ok (.ireturn, 1) := by decide +kernel
def B_Mo_isMuch_0 (a0 : Int64) (σ : Sto) : Option (Bool × Sto) :=
  ((f_Mo_many a0 σ).bind fun q1 => (if q1.1 ≤ (16 : Int32) then some (false, q1.2)
 else some (true, q1.2)))
set_option maxHeartbeats 4000000 in
set_option maxRecDepth 100000 in
theorem vB_Mo_isMuch_0 {X : Xt} {E : En} (g : GG X E 2 b_Mo_isMuch R_Mo 2) (a0 : Int64) (σ : Sto) : VV X E b_Mo_isMuch 2 eB 0 [(0, .long a0)] [] σ (B_Mo_isMuch_0 a0 σ) := by
  unfold B_Mo_isMuch_0
  refine v_lload_n 0 g d_Mo_isMuch_0 rfl ?_
  refine v_callI (r_S (rest := []) [.long a0] g (m1 1188 (by decide +kernel) (by decide +kernel)) ys_Mo_many (fun r σ1 h => sp_Mo_many g.2.2.1  h) rfl rfl (by decide) (Nat.le_of_ble_eq_true rfl) d_Mo_isMuch_1) (fun q1 => ?_)
  refine v_bipush (v := (16 : Int32)) g d_Mo_isMuch_4 (by decide +kernel) ?_
  refine v_icmp_le 13 g d_Mo_isMuch_6 (by decide) (fun _ => ?_) (fun _ => ?_)
  · refine v_iconst (v := (0 : Int32)) g d_Mo_isMuch_13 (by decide +kernel) ?_
    exact v_ret d_Mo_isMuch_14 rfl
  · refine v_iconst (v := (1 : Int32)) g d_Mo_isMuch_9 (by decide +kernel) ?_
    refine v_goto 14 g d_Mo_isMuch_10 (by decide) ?_
    exact v_ret d_Mo_isMuch_14 rfl
def f_Mo_isMuch (a0 : Int64) (σ : Sto) : Option (Bool × Sto) := B_Mo_isMuch_0 a0 σ
theorem sp_Mo_isMuch {l : Launch} {E : En} (hE : Dj E) {a0 : Int64} {σ : Sto} {r : Bool} {σ' : Sto} (h : f_Mo_isMuch a0 σ = some (r, σ')) : Ct l E y_Mo_isMuch (wsM y_Mo_isMuch b_Mo_isMuch 2 (some .boolean)) 2 [.long a0] σ (eB r) σ' :=
  ct_of hE (by decide +kernel) (Nat.le_of_ble_eq_true rfl) (fun b => Or.inr (Or.inl ⟨rfl, b, rfl⟩)) (fun X _ g => vB_Mo_isMuch_0 g a0 σ) r σ' h
/-! method FittingRingsModel.greatestOf(IIJ)J -/
theorem yv_Mo_greatestOf : YV y_Mo_greatestOf b_Mo_greatestOf 10 (some .long) 3 10 := ⟨m1 1333 (by decide +kernel) (by decide +kernel), m1 43 (by decide +kernel) (by decide +kernel), ini_Mo, m1 1334 (by decide +kernel) (by decide +kernel), ⟨by decide +kernel, by decide +kernel, by decide +kernel⟩, by decide, by decide, T_Mo, 39, rfl⟩
theorem d_Mo_greatestOf_0 : decode b_Mo_greatestOf 0 = .ok (.aload_n 0, 1) := by decide +kernel
theorem d_Mo_greatestOf_1 : decode b_Mo_greatestOf 1 = .ok (.iload_n 1, 1) := by decide +kernel
theorem d_Mo_greatestOf_2 : decode b_Mo_greatestOf 2 = .ok (.lload_n 3, 1) := by decide +kernel
theorem d_Mo_greatestOf_3 : decode b_Mo_greatestOf 3 = .ok (.invokevirtual 213, 3) := by decide +kernel
theorem d_Mo_greatestOf_6 : decode b_Mo_greatestOf 6 = .ok (.aload_n 0, 1) := by decide +kernel
theorem d_Mo_greatestOf_7 : decode b_Mo_greatestOf 7 = .ok (.getfield 35, 3) := by decide +kernel
theorem d_Mo_greatestOf_10 : decode b_Mo_greatestOf 10 = .ok (.iconst 0, 1) := by decide +kernel
theorem d_Mo_greatestOf_11 : decode b_Mo_greatestOf 11 = .ok (.laload, 1) := by decide +kernel
theorem d_Mo_greatestOf_12 : decode b_Mo_greatestOf 12 = .ok (.lstore 5, 2) := by decide +kernel
theorem d_Mo_greatestOf_14 : decode b_Mo_greatestOf 14 = .ok (.iconst 1, 1) := by decide +kernel
theorem d_Mo_greatestOf_15 : decode b_Mo_greatestOf 15 = .ok (.istore 7, 2) := by decide +kernel
theorem d_Mo_greatestOf_17 : decode b_Mo_greatestOf 17 = .ok (.iload 7, 2) := by decide +kernel
theorem d_Mo_greatestOf_19 : decode b_Mo_greatestOf 19 = .ok (.aload_n 0, 1) := by decide +kernel
theorem d_Mo_greatestOf_20 : decode b_Mo_greatestOf 20 = .ok (.getfield 202, 3) := by decide +kernel
theorem d_Mo_greatestOf_23 : decode b_Mo_greatestOf 23 = .ok (.if_icmp .ge 73, 3) := by decide +kernel
theorem d_Mo_greatestOf_26 : decode b_Mo_greatestOf 26 = .ok (.aload_n 0, 1) := by decide +kernel
theorem d_Mo_greatestOf_27 : decode b_Mo_greatestOf 27 = .ok (.iload_n 2, 1) := by decide +kernel
theorem d_Mo_greatestOf_28 : decode b_Mo_greatestOf 28 = .ok (.aload_n 0, 1) := by decide +kernel
theorem d_Mo_greatestOf_29 : decode b_Mo_greatestOf 29 = .ok (.getfield 35, 3) := by decide +kernel
theorem d_Mo_greatestOf_32 : decode b_Mo_greatestOf 32 = .ok (.iload 7, 2) := by decide +kernel
theorem d_Mo_greatestOf_34 : decode b_Mo_greatestOf 34 = .ok (.laload, 1) := by decide +kernel
theorem d_Mo_greatestOf_35 : decode b_Mo_greatestOf 35 = .ok (.invokevirtual 144, 3) := by decide +kernel
theorem d_Mo_greatestOf_38 : decode b_Mo_greatestOf 38 = .ok (.istore 8, 2) := by decide +kernel
theorem d_Mo_greatestOf_40 : decode b_Mo_greatestOf 40 = .ok (.aload_n 0, 1) := by decide +kernel
theorem d_Mo_greatestOf_41 : decode b_Mo_greatestOf 41 = .ok (.iload_n 2, 1) := by decide +kernel
theorem d_Mo_greatestOf_42 : decode b_Mo_greatestOf 42 = .ok (.lload 5, 2) := by decide +kernel
theorem d_Mo_greatestOf_44 : decode b_Mo_greatestOf 44 = .ok (.invokevirtual 144, 3) := by decide +kernel
theorem d_Mo_greatestOf_47 : decode b_Mo_greatestOf 47 = .ok (.istore 9, 2) := by decide +kernel
theorem d_Mo_greatestOf_49 : decode b_Mo_greatestOf 49 = .ok (.iload 8, 2) := by decide +kernel
theorem d_Mo_greatestOf_51 : decode b_Mo_greatestOf 51 = .ok (.iload 9, 2) := by decide +kernel
theorem d_Mo_greatestOf_53 : decode b_Mo_greatestOf 53 = .ok (.if_icmp .gt 23, 3) := by decide +kernel
theorem d_Mo_greatestOf_56 : decode b_Mo_greatestOf 56 = .ok (.iload 8, 2) := by decide +kernel
theorem d_Mo_greatestOf_58 : decode b_Mo_greatestOf 58 = .ok (.iload 9, 2) := by decide +kernel
theorem d_Mo_greatestOf_60 : decode b_Mo_greatestOf 60 = .ok (.if_icmp .ne 26, 3) := by decide +kernel
theorem d_Mo_greatestOf_63 : decode b_Mo_greatestOf 63 = .ok (.aload_n 0, 1) := by decide +kernel
theorem d_Mo_greatestOf_64 : decode b_Mo_greatestOf 64 = .ok (.getfield 35, 3) := by decide +kernel
theorem d_Mo_greatestOf_67 : decode b_Mo_greatestOf 67 = .ok (.iload 7, 2) := by decide +kernel
theorem d_Mo_greatestOf_69 : decode b_Mo_greatestOf 69 = .ok (.laload, 1) := by decide +kernel
theorem d_Mo_greatestOf_70 : decode b_Mo_greatestOf 70 = .ok (.lload 5, 2) := by decide +kernel
theorem d_Mo_greatestOf_72 : decode b_Mo_greatestOf 72 = .ok (.lcmp, 1) := by decide +kernel
theorem d_Mo_greatestOf_73 : decode b_Mo_greatestOf 73 = .ok (.ifCond .ge 13, 3) := by decide +kernel
theorem d_Mo_greatestOf_76 : decode b_Mo_greatestOf 76 = .ok (.aload_n 0, 1) := by decide +kernel
theorem d_Mo_greatestOf_77 : decode b_Mo_greatestOf 77 = .ok (.getfield 35, 3) := by decide +kernel
theorem d_Mo_greatestOf_80 : decode b_Mo_greatestOf 80 = .ok (.iload 7, 2) := by decide +kernel
theorem d_Mo_greatestOf_82 : decode b_Mo_greatestOf 82 = .ok (.laload, 1) := by decide +kernel
theorem d_Mo_greatestOf_83 : decode b_Mo_greatestOf 83 = .ok (.goto 5, 3) := by decide +kernel
theorem d_Mo_greatestOf_86 : decode b_Mo_greatestOf 86 = .ok (.lload 5, 2) := by decide +kernel
theorem d_Mo_greatestOf_88 : decode b_Mo_greatestOf 88 = .ok (.lstore 5, 2) := by decide +kernel
theorem d_Mo_greatestOf_90 : decode b_Mo_greatestOf 90 = .ok (.iinc 7 1, 3) := by decide +kernel
theorem d_Mo_greatestOf_93 : decode b_Mo_greatestOf 93 = .ok (.goto (-76), 3) := by decide +kernel
theorem d_Mo_greatestOf_96 : decode b_Mo_greatestOf 96 = .ok (.lload 5, 2) := by decide +kernel
theorem d_Mo_greatestOf_98 : decode b_Mo_greatestOf 98 = .ok (.lreturn, 1) := by decide +kernel
def B_Mo_greatestOf_17 (k17 : Int32 → Int64 → Int32 → Sto → Option (Int64 × Sto)) (v2 : Int32) (v5 : Int64) (v7 : Int32) (σ : Sto) : Option (Int64 × Sto) :=
  (if (gI σ 48 15) ≤ v7 then some (v5, σ)
 else (if inb v7 400 = true then ((f_Mo_measureOf v2 (gL σ 57 (Int32.toNatClampNeg v7)) σ).bind fun q3 => ((f_Mo_measureOf v2 v5 q3.2).bind fun q4 => (if q4.1 < q3.1 then (if inb v7 400 = true then (lt1 (gL q4.2 57 (Int32.toNatClampNeg v7)) fun x5 => k17 v2 x5 (v7 + (1 : Int32)) q4.2) else none)
  else (if q3.1 = q4.1 then (if inb v7 400 = true then (if v5 ≤ (gL q4.2 57 (Int32.toNatClampNeg v7)) then k17 v2 v5 (v7 + (1 : Int32)) q4.2
    else (if inb v7 400 = true then (lt1 (gL q4.2 57 (Int32.toNatClampNeg v7)) fun x6 => k17 v2 x6 (v7 + (1 : Int32)) q4.2) else none)) else none)
   else k17 v2 v5 (v7 + (1 : Int32)) q4.2)))) else none))
set_option maxHeartbeats 4000000 in
set_option maxRecDepth 100000 in
theorem vB_Mo_greatestOf_17 {X : Xt} {E : En} (g : GG X E 5 b_Mo_greatestOf R_Mo 10) {k17 : Int32 → Int64 → Int32 → Sto → Option (Int64 × Sto)} (hk17 : ∀ (v2 : Int32) (v5 : Int64) (v7 : Int32) (σ : Sto), VV X E b_Mo_greatestOf 10 eL 17 [(0, .ref (E.2.1 48)), (2, .int v2), (5, .long v5), (7, .int v7)] [] σ (k17 v2 v5 v7 σ)) (v2 : Int32) (v5 : Int64) (v7 : Int32) (σ : Sto) : VV X E b_Mo_greatestOf 10 eL 17 [(0, .ref (E.2.1 48)), (2, .int v2), (5, .long v5), (7, .int v7)] [] σ (B_Mo_greatestOf_17 k17 v2 v5 v7 σ) := by
  unfold B_Mo_greatestOf_17
  refine v_iload 3 g d_Mo_greatestOf_17 rfl ?_
  refine v_aload_n 0 g d_Mo_greatestOf_19 rfl ?_
  refine v_getI g ff_Mo_202 rfl rfl d_Mo_greatestOf_20 ?_
  refine v_icmp_ge 96 g d_Mo_greatestOf_23 (by decide) (fun _ => ?_) (fun _ => ?_)
  · refine v_lload 2 g d_Mo_greatestOf_96 rfl ?_
    exact v_ret d_Mo_greatestOf_98 rfl
  · refine v_aload_n 0 g d_Mo_greatestOf_26 rfl ?_
    refine v_iload_n 1 g d_Mo_greatestOf_27 rfl ?_
    refine v_aload_n 0 g d_Mo_greatestOf_28 rfl ?_
    refine v_getR 57 g ff_Mo_35 rfl rfl rfl d_Mo_greatestOf_29 ?_
    refine v_iload 3 g d_Mo_greatestOf_32 rfl ?_
    refine v_lald g rfl rfl d_Mo_greatestOf_34 (fun _ => ?_)
    refine v_callI (r_V (rest := []) [.int v2, .long (gL σ 57 (Int32.toNatClampNeg v7))] g (m1 1242 (by decide +kernel) (by decide +kernel)) yv_Mo_measureOf rfl (fun r σ1 h => sp_Mo_measureOf g.2.2.1  h) rfl rfl (by decide) (Nat.le_of_ble_eq_true rfl) d_Mo_greatestOf_35) (fun q3 => ?_)
    refine v_istore [(8, .int q3.1), (0, .ref (E.2.1 48)), (2, .int v2), (5, .long v5), (7, .int v7)] g d_Mo_greatestOf_38 (by decide) rfl ?_
    refine v_aload_n 1 g d_Mo_greatestOf_40 rfl ?_
    refine v_iload_n 2 g d_Mo_greatestOf_41 rfl ?_
    refine v_lload 3 g d_Mo_greatestOf_42 rfl ?_
    refine v_callI (r_V (rest := []) [.int v2, .long v5] g (m1 1242 (by decide +kernel) (by decide +kernel)) yv_Mo_measureOf rfl (fun r σ1 h => sp_Mo_measureOf g.2.2.1  h) rfl rfl (by decide) (Nat.le_of_ble_eq_true rfl) d_Mo_greatestOf_44) (fun q4 => ?_)
    refine v_istore [(9, .int q4.1), (8, .int q3.1), (0, .ref (E.2.1 48)), (2, .int v2), (5, .long v5), (7, .int v7)] g d_Mo_greatestOf_47 (by decide) rfl ?_
    refine v_iload 1 g d_Mo_greatestOf_49 rfl ?_
    refine v_iload 0 g d_Mo_greatestOf_51 rfl ?_
    refine v_icmp_gt 76 g d_Mo_greatestOf_53 (by decide) (fun _ => ?_) (fun _ => ?_)
    · refine v_aload_n 2 g d_Mo_greatestOf_76 rfl ?_
      refine v_getR 57 g ff_Mo_35 rfl rfl rfl d_Mo_greatestOf_77 ?_
      refine v_iload 5 g d_Mo_greatestOf_80 rfl ?_
      refine v_lald g rfl rfl d_Mo_greatestOf_82 (fun _ => ?_)
      refine v_goto 88 g d_Mo_greatestOf_83 (by decide) ?_
      refine v_nlet (fun x5 ex5 => ?_)
      rw [← ex5]
      refine v_lstore [(5, .long x5), (9, .int q4.1), (8, .int q3.1), (0, .ref (E.2.1 48)), (2, .int v2), (7, .int v7)] g d_Mo_greatestOf_88 (by decide) rfl ?_
      refine v_iinc 5 [(7, .int (v7 + (1 : Int32))), (5, .long x5), (9, .int q4.1), (8, .int q3.1), (0, .ref (E.2.1 48)), (2, .int v2)] g d_Mo_greatestOf_90 rfl (v := (1 : Int32)) (by decide +kernel) (by decide) rfl ?_
      refine v_goto 17 g d_Mo_greatestOf_93 (by decide) ?_
      exact v_sub [4,5,1,0] rfl (hk17 v2 x5 (v7 + (1 : Int32)) q4.2)
    · refine v_iload 1 g d_Mo_greatestOf_56 rfl ?_
      refine v_iload 0 g d_Mo_greatestOf_58 rfl ?_
      refine v_icmp_ne 86 g d_Mo_greatestOf_60 (by decide) (fun _ => ?_) (fun _ => ?_)
      · refine v_lload 4 g d_Mo_greatestOf_86 rfl ?_
        refine v_lstore [(5, .long v5), (9, .int q4.1), (8, .int q3.1), (0, .ref (E.2.1 48)), (2, .int v2), (7, .int v7)] g d_Mo_greatestOf_88 (by decide) rfl ?_
        refine v_iinc 5 [(7, .int (v7 + (1 : Int32))), (5, .long v5), (9, .int q4.1), (8, .int q3.1), (0, .ref (E.2.1 48)), (2, .int v2)] g d_Mo_greatestOf_90 rfl (v := (1 : Int32)) (by decide +kernel) (by decide) rfl ?_
        refine v_goto 17 g d_Mo_greatestOf_93 (by decide) ?_
        exact v_sub [4,5,1,0] rfl (hk17 v2 v5 (v7 + (1 : Int32)) q4.2)
      · refine v_aload_n 2 g d_Mo_greatestOf_63 rfl ?_
        refine v_getR 57 g ff_Mo_35 rfl rfl rfl d_Mo_greatestOf_64 ?_
        refine v_iload 5 g d_Mo_greatestOf_67 rfl ?_
        refine v_lald g rfl rfl d_Mo_greatestOf_69 (fun _ => ?_)
        refine v_lload 4 g d_Mo_greatestOf_70 rfl ?_
        refine v_lcmp_ge 86 g d_Mo_greatestOf_72 d_Mo_greatestOf_73 (by decide) (fun _ => ?_) (fun _ => ?_)
        · refine v_lload 4 g d_Mo_greatestOf_86 rfl ?_
          refine v_lstore [(5, .long v5), (9, .int q4.1), (8, .int q3.1), (0, .ref (E.2.1 48)), (2, .int v2), (7, .int v7)] g d_Mo_greatestOf_88 (by decide) rfl ?_
          refine v_iinc 5 [(7, .int (v7 + (1 : Int32))), (5, .long v5), (9, .int q4.1), (8, .int q3.1), (0, .ref (E.2.1 48)), (2, .int v2)] g d_Mo_greatestOf_90 rfl (v := (1 : Int32)) (by decide +kernel) (by decide) rfl ?_
          refine v_goto 17 g d_Mo_greatestOf_93 (by decide) ?_
          exact v_sub [4,5,1,0] rfl (hk17 v2 v5 (v7 + (1 : Int32)) q4.2)
        · refine v_aload_n 2 g d_Mo_greatestOf_76 rfl ?_
          refine v_getR 57 g ff_Mo_35 rfl rfl rfl d_Mo_greatestOf_77 ?_
          refine v_iload 5 g d_Mo_greatestOf_80 rfl ?_
          refine v_lald g rfl rfl d_Mo_greatestOf_82 (fun _ => ?_)
          refine v_goto 88 g d_Mo_greatestOf_83 (by decide) ?_
          refine v_nlet (fun x6 ex6 => ?_)
          rw [← ex6]
          refine v_lstore [(5, .long x6), (9, .int q4.1), (8, .int q3.1), (0, .ref (E.2.1 48)), (2, .int v2), (7, .int v7)] g d_Mo_greatestOf_88 (by decide) rfl ?_
          refine v_iinc 5 [(7, .int (v7 + (1 : Int32))), (5, .long x6), (9, .int q4.1), (8, .int q3.1), (0, .ref (E.2.1 48)), (2, .int v2)] g d_Mo_greatestOf_90 rfl (v := (1 : Int32)) (by decide +kernel) (by decide) rfl ?_
          refine v_goto 17 g d_Mo_greatestOf_93 (by decide) ?_
          exact v_sub [4,5,1,0] rfl (hk17 v2 x6 (v7 + (1 : Int32)) q4.2)
def L_Mo_greatestOf_17 : Nat → Int32 → Int64 → Int32 → Sto → Option (Int64 × Sto)
  | 0, _, _, _, _ => none
  | fu + 1, v2, v5, v7, σ => B_Mo_greatestOf_17 (L_Mo_greatestOf_17 fu) v2 v5 v7 σ
theorem vL_Mo_greatestOf_17 {X : Xt} {E : En} (g : GG X E 5 b_Mo_greatestOf R_Mo 10) (fu : Nat) : ∀ (v2 : Int32) (v5 : Int64) (v7 : Int32) (σ : Sto), VV X E b_Mo_greatestOf 10 eL 17 [(0, .ref (E.2.1 48)), (2, .int v2), (5, .long v5), (7, .int v7)] [] σ (L_Mo_greatestOf_17 fu v2 v5 v7 σ) := by
  induction fu with
  | zero => intros; exact v_none
  | succ fu ih =>
    intro v2 v5 v7 σ
    exact vB_Mo_greatestOf_17 g ih v2 v5 v7 σ
def B_Mo_greatestOf_0 (a1 : Int32) (a2 : Int32) (a3 : Int64) (σ : Sto) : Option (Int64 × Sto) :=
  ((f_Mo_lists a1 a3 σ).bind fun q1 => (if inb (0 : Int32) 400 = true then (lt1 (gL q1.2 57 (Int32.toNatClampNeg (0 : Int32))) fun x2 => L_Mo_greatestOf_17 LF a2 x2 (1 : Int32) q1.2) else none))
set_option maxHeartbeats 4000000 in
set_option maxRecDepth 100000 in
theorem vB_Mo_greatestOf_0 {X : Xt} {E : En} (g : GG X E 5 b_Mo_greatestOf R_Mo 10) (a1 : Int32) (a2 : Int32) (a3 : Int64) (σ : Sto) : VV X E b_Mo_greatestOf 10 eL 0 [(0, .ref (E.2.1 48)), (1, .int a1), (2, .int a2), (3, .long a3)] [] σ (B_Mo_greatestOf_0 a1 a2 a3 σ) := by
  unfold B_Mo_greatestOf_0
  refine v_aload_n 0 g d_Mo_greatestOf_0 rfl ?_
  refine v_iload_n 1 g d_Mo_greatestOf_1 rfl ?_
  refine v_lload_n 3 g d_Mo_greatestOf_2 rfl ?_
  refine v_callU (r_V (rest := []) [.int a1, .long a3] g (m1 1335 (by decide +kernel) (by decide +kernel)) yv_Mo_lists rfl (fun r σ1 h => sp_Mo_lists g.2.2.1  h) rfl rfl (by decide) (Nat.le_of_ble_eq_true rfl) d_Mo_greatestOf_3) (fun q1 => ?_)
  refine v_aload_n 0 g d_Mo_greatestOf_6 rfl ?_
  refine v_getR 57 g ff_Mo_35 rfl rfl rfl d_Mo_greatestOf_7 ?_
  refine v_iconst (v := (0 : Int32)) g d_Mo_greatestOf_10 (by decide +kernel) ?_
  refine v_lald g rfl rfl d_Mo_greatestOf_11 (fun _ => ?_)
  refine v_nlet (fun x2 ex2 => ?_)
  rw [← ex2]
  refine v_lstore [(5, .long x2), (0, .ref (E.2.1 48)), (1, .int a1), (2, .int a2), (3, .long a3)] g d_Mo_greatestOf_12 (by decide) rfl ?_
  refine v_iconst (v := (1 : Int32)) g d_Mo_greatestOf_14 (by decide +kernel) ?_
  refine v_istore [(7, .int (1 : Int32)), (5, .long x2), (0, .ref (E.2.1 48)), (1, .int a1), (2, .int a2), (3, .long a3)] g d_Mo_greatestOf_15 (by decide) rfl ?_
  exact v_sub [2,4,1,0] rfl (vL_Mo_greatestOf_17 g LF a2 x2 (1 : Int32) q1.2)
def f_Mo_greatestOf (a1 : Int32) (a2 : Int32) (a3 : Int64) (σ : Sto) : Option (Int64 × Sto) := B_Mo_greatestOf_0 a1 a2 a3 σ
theorem sp_Mo_greatestOf {l : Launch} {E : En} (hE : Dj E) {a1 : Int32} {a2 : Int32} {a3 : Int64} {σ : Sto} {r : Int64} {σ' : Sto} (h : f_Mo_greatestOf a1 a2 a3 σ = some (r, σ')) : Ct l E y_Mo_greatestOf (wsM y_Mo_greatestOf b_Mo_greatestOf 10 (some .long)) 5 [.ref (E.2.1 48), .int a1, .int a2, .long a3] σ (eL r) σ' :=
  ct_of hE (by decide +kernel) (Nat.le_of_ble_eq_true rfl) (fun x => Or.inr (Or.inr (Or.inl ⟨rfl, x, rfl⟩))) (fun X _ g => vB_Mo_greatestOf_0 g a1 a2 a3 σ) r σ' h
/-! method FittingRingsModel.greatest(IIJ)J -/
theorem yv_Mo_greatest : YV y_Mo_greatest b_Mo_greatest 5 (some .long) 3 10 := ⟨m1 1324 (by decide +kernel) (by decide +kernel), m1 1325 (by decide +kernel) (by decide +kernel), ini_Mo, m1 1326 (by decide +kernel) (by decide +kernel), ⟨by decide +kernel, by decide +kernel, by decide +kernel⟩, by decide, by decide, T_Mo, 39, rfl⟩
theorem d_Mo_greatest_0 : decode b_Mo_greatest 0 = .ok (.iload_n 1, 1) := by decide +kernel
theorem d_Mo_greatest_1 : decode b_Mo_greatest 1 = .ok (.invokestatic 116, 3) := by decide +kernel
theorem d_Mo_greatest_4 : decode b_Mo_greatest 4 = .ok (.ifCond .eq 18, 3) := by decide +kernel
theorem d_Mo_greatest_7 : decode b_Mo_greatest 7 = .ok (.iload_n 2, 1) := by decide +kernel
theorem d_Mo_greatest_8 : decode b_Mo_greatest 8 = .ok (.invokestatic 116, 3) := by decide +kernel
theorem d_Mo_greatest_11 : decode b_Mo_greatest 11 = .ok (.ifCond .eq 11, 3) := by decide +kernel
theorem d_Mo_greatest_14 : decode b_Mo_greatest 14 = .ok (.aload_n 0, 1) := by decide +kernel
theorem d_Mo_greatest_15 : decode b_Mo_greatest 15 = .ok (.lload_n 3, 1) := by decide +kernel
theorem d_Mo_greatest_16 : decode b_Mo_greatest 16 = .ok (.invokevirtual 127, 3) := by decide +kernel
theorem d_Mo_greatest_19 : decode b_Mo_greatest 19 = .ok (.ifCond .ne 7, 3) := by decide +kernel
theorem d_Mo_greatest_22 : decode b_Mo_greatest 22 = .ok (.ldc2_w 139, 3) := by decide +kernel
theorem d_Mo_greatest_25 : decode b_Mo_greatest 25 = .ok (.lreturn, 1) := by decide +kernel
theorem d_Mo_greatest_26 : decode b_Mo_greatest 26 = .ok (.lload_n 3, 1) := by decide +kernel
theorem d_Mo_greatest_27 : decode b_Mo_greatest 27 = .ok (.invokestatic 216, 3) := by decide +kernel
theorem d_Mo_greatest_30 : decode b_Mo_greatest 30 = .ok (.ifCond .eq 9, 3) := by decide +kernel
theorem d_Mo_greatest_33 : decode b_Mo_greatest 33 = .ok (.ldc2_w 219, 3) := by decide +kernel
theorem d_Mo_greatest_36 : decode b_Mo_greatest 36 = .ok (.goto 10, 3) := by decide +kernel
theorem d_Mo_greatest_39 : decode b_Mo_greatest 39 = .ok (.aload_n 0, 1) := by decide +kernel
theorem d_Mo_greatest_40 : decode b_Mo_greatest 40 = .ok (.iload_n 1, 1) := by decide +kernel
theorem d_Mo_greatest_41 : decode b_Mo_greatest 41 = .ok (.iload_n 2, 1) := by decide +kernel
theorem d_Mo_greatest_42 : decode b_Mo_greatest 42 = .ok (.lload_n 3, 1) := by decide +kernel
theorem d_Mo_greatest_43 : decode b_Mo_greatest 43 = .ok (.invokevirtual 221, 3) := by decide +kernel
theorem d_Mo_greatest_46 : decode b_Mo_greatest 46 = .ok (.lreturn, 1) := by decide +kernel
def B_Mo_greatest_0 (a1 : Int32) (a2 : Int32) (a3 : Int64) (σ : Sto) : Option (Int64 × Sto) :=
  ((f_Mo_isOne a1 σ).bind fun q1 => (if (b2i q1.1) = 0 then some ((-2 : Int64), q1.2)
 else ((f_Mo_isOne a2 q1.2).bind fun q2 => (if (b2i q2.1) = 0 then some ((-2 : Int64), q2.2)
  else ((f_Mo_isSet a3 q2.2).bind fun q3 => (if (b2i q3.1) = 0 then some ((-2 : Int64), q3.2)
   else ((f_Mo_isMuch a3 q3.2).bind fun q4 => (if (b2i q4.1) = 0 then ((f_Mo_greatestOf a1 a2 a3 q4.2).bind fun q5 => some (q5.1, q5.2))
    else some ((-5 : Int64), q4.2)))))))))
set_option maxHeartbeats 4000000 in
set_option maxRecDepth 100000 in
theorem vB_Mo_greatest_0 {X : Xt} {E : En} (g : GG X E 6 b_Mo_greatest R_Mo 5) (a1 : Int32) (a2 : Int32) (a3 : Int64) (σ : Sto) : VV X E b_Mo_greatest 5 eL 0 [(0, .ref (E.2.1 48)), (1, .int a1), (2, .int a2), (3, .long a3)] [] σ (B_Mo_greatest_0 a1 a2 a3 σ) := by
  unfold B_Mo_greatest_0
  refine v_iload_n 1 g d_Mo_greatest_0 rfl ?_
  refine v_callB (r_S (rest := []) [.int a1] g (m1 1203 (by decide +kernel) (by decide +kernel)) ys_Mo_isOne (fun r σ1 h => sp_Mo_isOne g.2.2.1  h) rfl rfl (by decide) (Nat.le_of_ble_eq_true rfl) d_Mo_greatest_1) (fun q1 => ?_)
  refine v_if_eq 22 g d_Mo_greatest_4 (by decide) (fun _ => ?_) (fun _ => ?_)
  · refine v_ldc2 (v := (-2 : Int64)) g (m1 1237 (by decide +kernel) (by decide +kernel)) d_Mo_greatest_22 ?_
    exact v_ret d_Mo_greatest_25 rfl
  · refine v_iload_n 2 g d_Mo_greatest_7 rfl ?_
    refine v_callB (r_S (rest := []) [.int a2] g (m1 1203 (by decide +kernel) (by decide +kernel)) ys_Mo_isOne (fun r σ1 h => sp_Mo_isOne g.2.2.1  h) rfl rfl (by decide) (Nat.le_of_ble_eq_true rfl) d_Mo_greatest_8) (fun q2 => ?_)
    refine v_if_eq 22 g d_Mo_greatest_11 (by decide) (fun _ => ?_) (fun _ => ?_)
    · refine v_ldc2 (v := (-2 : Int64)) g (m1 1237 (by decide +kernel) (by decide +kernel)) d_Mo_greatest_22 ?_
      exact v_ret d_Mo_greatest_25 rfl
    · refine v_aload_n 0 g d_Mo_greatest_14 rfl ?_
      refine v_lload_n 3 g d_Mo_greatest_15 rfl ?_
      refine v_callB (r_V (rest := []) [.long a3] g (m1 1221 (by decide +kernel) (by decide +kernel)) yv_Mo_isSet rfl (fun r σ1 h => sp_Mo_isSet g.2.2.1  h) rfl rfl (by decide) (Nat.le_of_ble_eq_true rfl) d_Mo_greatest_16) (fun q3 => ?_)
      refine v_if_ne 26 g d_Mo_greatest_19 (by decide) (fun _ => ?_) (fun _ => ?_)
      · refine v_lload_n 3 g d_Mo_greatest_26 rfl ?_
        refine v_callB (r_S (rest := []) [.long a3] g (m1 1327 (by decide +kernel) (by decide +kernel)) ys_Mo_isMuch (fun r σ1 h => sp_Mo_isMuch g.2.2.1  h) rfl rfl (by decide) (Nat.le_of_ble_eq_true rfl) d_Mo_greatest_27) (fun q4 => ?_)
        refine v_if_eq 39 g d_Mo_greatest_30 (by decide) (fun _ => ?_) (fun _ => ?_)
        · refine v_aload_n 0 g d_Mo_greatest_39 rfl ?_
          refine v_iload_n 1 g d_Mo_greatest_40 rfl ?_
          refine v_iload_n 2 g d_Mo_greatest_41 rfl ?_
          refine v_lload_n 3 g d_Mo_greatest_42 rfl ?_
          refine v_callL (r_V (rest := []) [.int a1, .int a2, .long a3] g (m1 1331 (by decide +kernel) (by decide +kernel)) yv_Mo_greatestOf rfl (fun r σ1 h => sp_Mo_greatestOf g.2.2.1  h) rfl rfl (by decide) (Nat.le_of_ble_eq_true rfl) d_Mo_greatest_43) (fun q5 => ?_)
          exact v_ret d_Mo_greatest_46 rfl
        · refine v_ldc2 (v := (-5 : Int64)) g (m1 1330 (by decide +kernel) (by decide +kernel)) d_Mo_greatest_33 ?_
          refine v_goto 46 g d_Mo_greatest_36 (by decide) ?_
          exact v_ret d_Mo_greatest_46 rfl
      · refine v_ldc2 (v := (-2 : Int64)) g (m1 1237 (by decide +kernel) (by decide +kernel)) d_Mo_greatest_22 ?_
        exact v_ret d_Mo_greatest_25 rfl
def f_Mo_greatest (a1 : Int32) (a2 : Int32) (a3 : Int64) (σ : Sto) : Option (Int64 × Sto) := B_Mo_greatest_0 a1 a2 a3 σ
theorem sp_Mo_greatest {l : Launch} {E : En} (hE : Dj E) {a1 : Int32} {a2 : Int32} {a3 : Int64} {σ : Sto} {r : Int64} {σ' : Sto} (h : f_Mo_greatest a1 a2 a3 σ = some (r, σ')) : Ct l E y_Mo_greatest (wsM y_Mo_greatest b_Mo_greatest 5 (some .long)) 6 [.ref (E.2.1 48), .int a1, .int a2, .long a3] σ (eL r) σ' :=
  ct_of hE (by decide +kernel) (Nat.le_of_ble_eq_true rfl) (fun x => Or.inr (Or.inr (Or.inl ⟨rfl, x, rfl⟩))) (fun X _ g => vB_Mo_greatest_0 g a1 a2 a3 σ) r σ' h
/-! method FittingRingsModel.grown(IJI)J -/
theorem yv_Mo_grown : YV y_Mo_grown b_Mo_grown 8 (some .long) 3 10 := ⟨m1 1348 (by decide +kernel) (by decide +kernel), m1 1349 (by decide +kernel) (by decide +kernel), ini_Mo, m1 1350 (by decide +kernel) (by decide +kernel), ⟨by decide +kernel, by decide +kernel, by decide +kernel⟩, by decide, by decide, T_Mo, 39, rfl⟩
theorem d_Mo_grown_0 : decode b_Mo_grown 0 = .ok (.iload_n 1, 1) := by decide +kernel
theorem d_Mo_grown_1 : decode b_Mo_grown 1 = .ok (.invokestatic 116, 3) := by decide +kernel
theorem d_Mo_grown_4 : decode b_Mo_grown 4 = .ok (.ifCond .eq 11, 3) := by decide +kernel
theorem d_Mo_grown_7 : decode b_Mo_grown 7 = .ok (.aload_n 0, 1) := by decide +kernel
theorem d_Mo_grown_8 : decode b_Mo_grown 8 = .ok (.lload_n 2, 1) := by decide +kernel
theorem d_Mo_grown_9 : decode b_Mo_grown 9 = .ok (.invokevirtual 127, 3) := by decide +kernel
theorem d_Mo_grown_12 : decode b_Mo_grown 12 = .ok (.ifCond .ne 7, 3) := by decide +kernel
theorem d_Mo_grown_15 : decode b_Mo_grown 15 = .ok (.ldc2_w 139, 3) := by decide +kernel
theorem d_Mo_grown_18 : decode b_Mo_grown 18 = .ok (.lreturn, 1) := by decide +kernel
theorem d_Mo_grown_19 : decode b_Mo_grown 19 = .ok (.lload_n 2, 1) := by decide +kernel
theorem d_Mo_grown_20 : decode b_Mo_grown 20 = .ok (.invokestatic 216, 3) := by decide +kernel
theorem d_Mo_grown_23 : decode b_Mo_grown 23 = .ok (.ifCond .eq 7, 3) := by decide +kernel
theorem d_Mo_grown_26 : decode b_Mo_grown 26 = .ok (.ldc2_w 219, 3) := by decide +kernel
theorem d_Mo_grown_29 : decode b_Mo_grown 29 = .ok (.lreturn, 1) := by decide +kernel
theorem d_Mo_grown_30 : decode b_Mo_grown 30 = .ok (.aload_n 0, 1) := by decide +kernel
theorem d_Mo_grown_31 : decode b_Mo_grown 31 = .ok (.iload_n 1, 1) := by decide +kernel
theorem d_Mo_grown_32 : decode b_Mo_grown 32 = .ok (.lload_n 2, 1) := by decide +kernel
theorem d_Mo_grown_33 : decode b_Mo_grown 33 = .ok (.invokevirtual 213, 3) := by decide +kernel
theorem d_Mo_grown_36 : decode b_Mo_grown 36 = .ok (.iload 4, 2) := by decide +kernel
theorem d_Mo_grown_38 : decode b_Mo_grown 38 = .ok (.iconst (-1), 1) := by decide +kernel
theorem d_Mo_grown_39 : decode b_Mo_grown 39 = .ok (.if_icmp .ne 9, 3) := by decide +kernel
theorem d_Mo_grown_42 : decode b_Mo_grown 42 = .ok (.aload_n 0, 1) := by decide +kernel
theorem d_Mo_grown_43 : decode b_Mo_grown 43 = .ok (.getfield 202, 3) := by decide +kernel
theorem d_Mo_grown_46 : decode b_Mo_grown 46 = .ok (.i2l, 1) := by decide +kernel
theorem d_Mo_grown_47 : decode b_Mo_grown 47 = .ok (.lreturn, 1) := by decide +kernel
theorem d_Mo_grown_48 : decode b_Mo_grown 48 = .ok (.iload 4, 2) := by decide +kernel
theorem d_Mo_grown_50 : decode b_Mo_grown 50 = .ok (.i2l, 1) := by decide +kernel
theorem d_Mo_grown_51 : decode b_Mo_grown 51 = .ok (.lconst 0, 1) := by decide +kernel
theorem d_Mo_grown_52 : decode b_Mo_grown 52 = .ok (.aload_n 0, 1) := by decide +kernel
theorem d_Mo_grown_53 : decode b_Mo_grown 53 = .ok (.getfield 202, 3) := by decide +kernel
theorem d_Mo_grown_56 : decode b_Mo_grown 56 = .ok (.iconst 1, 1) := by decide +kernel
theorem d_Mo_grown_57 : decode b_Mo_grown 57 = .ok (.isub, 1) := by decide +kernel
theorem d_Mo_grown_58 : decode b_Mo_grown 58 = .ok (.i2l, 1) := by decide +kernel
theorem d_Mo_grown_59 : decode b_Mo_grown 59 = .ok (.invokestatic 84, 3) := by decide +kernel
theorem d_Mo_grown_62 : decode b_Mo_grown 62 = .ok (.ifCond .ne 7, 3) := by decide +kernel
theorem d_Mo_grown_65 : decode b_Mo_grown 65 = .ok (.ldc2_w 175, 3) := by decide +kernel
theorem d_Mo_grown_68 : decode b_Mo_grown 68 = .ok (.lreturn, 1) := by decide +kernel
theorem d_Mo_grown_69 : decode b_Mo_grown 69 = .ok (.iconst 0, 1) := by decide +kernel
theorem d_Mo_grown_70 : decode b_Mo_grown 70 = .ok (.istore 5, 2) := by decide +kernel
theorem d_Mo_grown_72 : decode b_Mo_grown 72 = .ok (.iload 5, 2) := by decide +kernel
theorem d_Mo_grown_74 : decode b_Mo_grown 74 = .ok (.aload_n 0, 1) := by decide +kernel
theorem d_Mo_grown_75 : decode b_Mo_grown 75 = .ok (.getfield 202, 3) := by decide +kernel
theorem d_Mo_grown_78 : decode b_Mo_grown 78 = .ok (.if_icmp .ge 73, 3) := by decide +kernel
theorem d_Mo_grown_81 : decode b_Mo_grown 81 = .ok (.iconst 0, 1) := by decide +kernel
theorem d_Mo_grown_82 : decode b_Mo_grown 82 = .ok (.istore 6, 2) := by decide +kernel
theorem d_Mo_grown_84 : decode b_Mo_grown 84 = .ok (.iconst 0, 1) := by decide +kernel
theorem d_Mo_grown_85 : decode b_Mo_grown 85 = .ok (.istore 7, 2) := by decide +kernel
theorem d_Mo_grown_87 : decode b_Mo_grown 87 = .ok (.iload 7, 2) := by decide +kernel
theorem d_Mo_grown_89 : decode b_Mo_grown 89 = .ok (.aload_n 0, 1) := by decide +kernel
theorem d_Mo_grown_90 : decode b_Mo_grown 90 = .ok (.getfield 202, 3) := by decide +kernel
theorem d_Mo_grown_93 : decode b_Mo_grown 93 = .ok (.if_icmp .ge 37, 3) := by decide +kernel
theorem d_Mo_grown_96 : decode b_Mo_grown 96 = .ok (.iload 6, 2) := by decide +kernel
theorem d_Mo_grown_98 : decode b_Mo_grown 98 = .ok (.aload_n 0, 1) := by decide +kernel
theorem d_Mo_grown_99 : decode b_Mo_grown 99 = .ok (.getfield 35, 3) := by decide +kernel
theorem d_Mo_grown_102 : decode b_Mo_grown 102 = .ok (.iload 7, 2) := by decide +kernel
theorem d_Mo_grown_104 : decode b_Mo_grown 104 = .ok (.laload, 1) := by decide +kernel
theorem d_Mo_grown_105 : decode b_Mo_grown 105 = .ok (.aload_n 0, 1) := by decide +kernel
theorem d_Mo_grown_106 : decode b_Mo_grown 106 = .ok (.getfield 35, 3) := by decide +kernel
theorem d_Mo_grown_109 : decode b_Mo_grown 109 = .ok (.iload 5, 2) := by decide +kernel
theorem d_Mo_grown_111 : decode b_Mo_grown 111 = .ok (.laload, 1) := by decide +kernel
theorem d_Mo_grown_112 : decode b_Mo_grown 112 = .ok (.lcmp, 1) := by decide +kernel
theorem d_Mo_grown_113 : decode b_Mo_grown 113 = .ok (.ifCond .ge 7, 3) := by decide +kernel
theorem d_Mo_grown_116 : decode b_Mo_grown 116 = .ok (.iconst 1, 1) := by decide +kernel
theorem d_Mo_grown_117 : decode b_Mo_grown 117 = .ok (.goto 4, 3) := by decide +kernel
theorem d_Mo_grown_120 : decode b_Mo_grown 120 = .ok (.iconst 0, 1) := by decide +kernel
theorem d_Mo_grown_121 : decode b_Mo_grown 121 = .ok (.iadd, 1) := by decide +kernel
theorem d_Mo_grown_122 : decode b_Mo_grown 122 = .ok (.istore 6, 2) := by decide +kernel
theorem d_Mo_grown_124 : decode b_Mo_grown 124 = .ok (.iinc 7 1, 3) := by decide +kernel
theorem d_Mo_grown_127 : decode b_Mo_grown 127 = .ok (.goto (-40), 3) := by decide +kernel
theorem d_Mo_grown_130 : decode b_Mo_grown 130 = .ok (.iload 6, 2) := by decide +kernel
theorem d_Mo_grown_132 : decode b_Mo_grown 132 = .ok (.iload 4, 2) := by decide +kernel
theorem d_Mo_grown_134 : decode b_Mo_grown 134 = .ok (.if_icmp .ne 11, 3) := by decide +kernel
theorem d_Mo_grown_137 : decode b_Mo_grown 137 = .ok (.aload_n 0, 1) := by decide +kernel
theorem d_Mo_grown_138 : decode b_Mo_grown 138 = .ok (.getfield 35, 3) := by decide +kernel
theorem d_Mo_grown_141 : decode b_Mo_grown 141 = .ok (.iload 5, 2) := by decide +kernel
theorem d_Mo_grown_143 : decode b_Mo_grown 143 = .ok (.laload, 1) := by decide +kernel
theorem d_Mo_grown_144 : decode b_Mo_grown 144 = .ok (.lreturn, 1) := by decide +kernel
theorem d_Mo_grown_145 : decode b_Mo_grown 145 = .ok (.iinc 5 1, 3) := by decide +kernel
theorem d_Mo_grown_148 : decode b_Mo_grown 148 = .ok (.goto (-76), 3) := by decide +kernel
theorem d_Mo_grown_151 : decode b_Mo_grown 151 = .ok (.ldc2_w 175, 3) := by decide +kernel
theorem d_Mo_grown_154 : decode b_Mo_grown 154 = .ok (.lreturn, 1) := by decide +kernel
def B_Mo_grown_87 (k72 : Int32 → Int32 → Sto → Option (Int64 × Sto)) (k87 : Int32 → Int32 → Int32 → Int32 → Sto → Option (Int64 × Sto)) (v4 : Int32) (v5 : Int32) (v6 : Int32) (v7 : Int32) (σ : Sto) : Option (Int64 × Sto) :=
  (if (gI σ 48 15) ≤ v7 then (if v6 = v4 then (if inb v5 400 = true then some ((gL σ 57 (Int32.toNatClampNeg v5)), σ) else none)
  else k72 v4 (v5 + (1 : Int32)) σ)
 else (if inb v7 400 = true then (if inb v5 400 = true then (if (gL σ 57 (Int32.toNatClampNeg v5)) ≤ (gL σ 57 (Int32.toNatClampNeg v7)) then k87 v4 v5 (v6 + (0 : Int32)) (v7 + (1 : Int32)) σ
  else k87 v4 v5 (v6 + (1 : Int32)) (v7 + (1 : Int32)) σ) else none) else none))
set_option maxHeartbeats 4000000 in
set_option maxRecDepth 100000 in
theorem vB_Mo_grown_87 {X : Xt} {E : En} (g : GG X E 5 b_Mo_grown R_Mo 8) {k72 : Int32 → Int32 → Sto → Option (Int64 × Sto)} {k87 : Int32 → Int32 → Int32 → Int32 → Sto → Option (Int64 × Sto)} (hk72 : ∀ (v4 : Int32) (v5 : Int32) (σ : Sto), VV X E b_Mo_grown 8 eL 72 [(0, .ref (E.2.1 48)), (4, .int v4), (5, .int v5)] [] σ (k72 v4 v5 σ)) (hk87 : ∀ (v4 : Int32) (v5 : Int32) (v6 : Int32) (v7 : Int32) (σ : Sto), VV X E b_Mo_grown 8 eL 87 [(0, .ref (E.2.1 48)), (4, .int v4), (5, .int v5), (6, .int v6), (7, .int v7)] [] σ (k87 v4 v5 v6 v7 σ)) (v4 : Int32) (v5 : Int32) (v6 : Int32) (v7 : Int32) (σ : Sto) : VV X E b_Mo_grown 8 eL 87 [(0, .ref (E.2.1 48)), (4, .int v4), (5, .int v5), (6, .int v6), (7, .int v7)] [] σ (B_Mo_grown_87 k72 k87 v4 v5 v6 v7 σ) := by
  unfold B_Mo_grown_87
  refine v_iload 4 g d_Mo_grown_87 rfl ?_
  refine v_aload_n 0 g d_Mo_grown_89 rfl ?_
  refine v_getI g ff_Mo_202 rfl rfl d_Mo_grown_90 ?_
  refine v_icmp_ge 130 g d_Mo_grown_93 (by decide) (fun _ => ?_) (fun _ => ?_)
  · refine v_iload 3 g d_Mo_grown_130 rfl ?_
    refine v_iload 1 g d_Mo_grown_132 rfl ?_
    refine v_icmp_ne 145 g d_Mo_grown_134 (by decide) (fun _ => ?_) (fun _ => ?_)
    · refine v_iinc 2 [(5, .int (v5 + (1 : Int32))), (0, .ref (E.2.1 48)), (4, .int v4), (6, .int v6), (7, .int v7)] g d_Mo_grown_145 rfl (v := (1 : Int32)) (by decide +kernel) (by decide) rfl ?_
      refine v_goto 72 g d_Mo_grown_148 (by decide) ?_
      exact v_sub [1,2,0] rfl (hk72 v4 (v5 + (1 : Int32)) σ)
    · refine v_aload_n 0 g d_Mo_grown_137 rfl ?_
      refine v_getR 57 g ff_Mo_35 rfl rfl rfl d_Mo_grown_138 ?_
      refine v_iload 2 g d_Mo_grown_141 rfl ?_
      refine v_lald g rfl rfl d_Mo_grown_143 (fun _ => ?_)
      exact v_ret d_Mo_grown_144 rfl
  · refine v_iload 3 g d_Mo_grown_96 rfl ?_
    refine v_aload_n 0 g d_Mo_grown_98 rfl ?_
    refine v_getR 57 g ff_Mo_35 rfl rfl rfl d_Mo_grown_99 ?_
    refine v_iload 4 g d_Mo_grown_102 rfl ?_
    refine v_lald g rfl rfl d_Mo_grown_104 (fun _ => ?_)
    refine v_aload_n 0 g d_Mo_grown_105 rfl ?_
    refine v_getR 57 g ff_Mo_35 rfl rfl rfl d_Mo_grown_106 ?_
    refine v_iload 2 g d_Mo_grown_109 rfl ?_
    refine v_lald g rfl rfl d_Mo_grown_111 (fun _ => ?_)
    refine v_lcmp_ge 120 g d_Mo_grown_112 d_Mo_grown_113 (by decide) (fun _ => ?_) (fun _ => ?_)
    · refine v_iconst (v := (0 : Int32)) g d_Mo_grown_120 (by decide +kernel) ?_
      refine v_iadd g d_Mo_grown_121 ?_
      refine v_istore [(6, .int (v6 + (0 : Int32))), (0, .ref (E.2.1 48)), (4, .int v4), (5, .int v5), (7, .int v7)] g d_Mo_grown_122 (by decide) rfl ?_
      refine v_iinc 4 [(7, .int (v7 + (1 : Int32))), (6, .int (v6 + (0 : Int32))), (0, .ref (E.2.1 48)), (4, .int v4), (5, .int v5)] g d_Mo_grown_124 rfl (v := (1 : Int32)) (by decide +kernel) (by decide) rfl ?_
      refine v_goto 87 g d_Mo_grown_127 (by decide) ?_
      exact v_sub [2,3,4,1,0] rfl (hk87 v4 v5 (v6 + (0 : Int32)) (v7 + (1 : Int32)) σ)
    · refine v_iconst (v := (1 : Int32)) g d_Mo_grown_116 (by decide +kernel) ?_
      refine v_goto 121 g d_Mo_grown_117 (by decide) ?_
      refine v_iadd g d_Mo_grown_121 ?_
      refine v_istore [(6, .int (v6 + (1 : Int32))), (0, .ref (E.2.1 48)), (4, .int v4), (5, .int v5), (7, .int v7)] g d_Mo_grown_122 (by decide) rfl ?_
      refine v_iinc 4 [(7, .int (v7 + (1 : Int32))), (6, .int (v6 + (1 : Int32))), (0, .ref (E.2.1 48)), (4, .int v4), (5, .int v5)] g d_Mo_grown_124 rfl (v := (1 : Int32)) (by decide +kernel) (by decide) rfl ?_
      refine v_goto 87 g d_Mo_grown_127 (by decide) ?_
      exact v_sub [2,3,4,1,0] rfl (hk87 v4 v5 (v6 + (1 : Int32)) (v7 + (1 : Int32)) σ)
def L_Mo_grown_87 (k72 : Int32 → Int32 → Sto → Option (Int64 × Sto)) : Nat → Int32 → Int32 → Int32 → Int32 → Sto → Option (Int64 × Sto)
  | 0, _, _, _, _, _ => none
  | fu + 1, v4, v5, v6, v7, σ => B_Mo_grown_87 k72 (L_Mo_grown_87 k72 fu) v4 v5 v6 v7 σ
theorem vL_Mo_grown_87 {X : Xt} {E : En} (g : GG X E 5 b_Mo_grown R_Mo 8) {k72 : Int32 → Int32 → Sto → Option (Int64 × Sto)} (hk72 : ∀ (v4 : Int32) (v5 : Int32) (σ : Sto), VV X E b_Mo_grown 8 eL 72 [(0, .ref (E.2.1 48)), (4, .int v4), (5, .int v5)] [] σ (k72 v4 v5 σ)) (fu : Nat) : ∀ (v4 : Int32) (v5 : Int32) (v6 : Int32) (v7 : Int32) (σ : Sto), VV X E b_Mo_grown 8 eL 87 [(0, .ref (E.2.1 48)), (4, .int v4), (5, .int v5), (6, .int v6), (7, .int v7)] [] σ (L_Mo_grown_87 k72 fu v4 v5 v6 v7 σ) := by
  induction fu with
  | zero => intros; exact v_none
  | succ fu ih =>
    intro v4 v5 v6 v7 σ
    exact vB_Mo_grown_87 g hk72 ih v4 v5 v6 v7 σ
def B_Mo_grown_72 (k72 : Int32 → Int32 → Sto → Option (Int64 × Sto)) (v4 : Int32) (v5 : Int32) (σ : Sto) : Option (Int64 × Sto) :=
  (if (gI σ 48 15) ≤ v5 then some ((-12 : Int64), σ)
 else L_Mo_grown_87 k72 LF v4 v5 (0 : Int32) (0 : Int32) σ)
set_option maxHeartbeats 4000000 in
set_option maxRecDepth 100000 in
theorem vB_Mo_grown_72 {X : Xt} {E : En} (g : GG X E 5 b_Mo_grown R_Mo 8) {k72 : Int32 → Int32 → Sto → Option (Int64 × Sto)} (hk72 : ∀ (v4 : Int32) (v5 : Int32) (σ : Sto), VV X E b_Mo_grown 8 eL 72 [(0, .ref (E.2.1 48)), (4, .int v4), (5, .int v5)] [] σ (k72 v4 v5 σ)) (v4 : Int32) (v5 : Int32) (σ : Sto) : VV X E b_Mo_grown 8 eL 72 [(0, .ref (E.2.1 48)), (4, .int v4), (5, .int v5)] [] σ (B_Mo_grown_72 k72 v4 v5 σ) := by
  unfold B_Mo_grown_72
  refine v_iload 2 g d_Mo_grown_72 rfl ?_
  refine v_aload_n 0 g d_Mo_grown_74 rfl ?_
  refine v_getI g ff_Mo_202 rfl rfl d_Mo_grown_75 ?_
  refine v_icmp_ge 151 g d_Mo_grown_78 (by decide) (fun _ => ?_) (fun _ => ?_)
  · refine v_ldc2 (v := (-12 : Int64)) g (m1 1281 (by decide +kernel) (by decide +kernel)) d_Mo_grown_151 ?_
    exact v_ret d_Mo_grown_154 rfl
  · refine v_iconst (v := (0 : Int32)) g d_Mo_grown_81 (by decide +kernel) ?_
    refine v_istore [(6, .int (0 : Int32)), (0, .ref (E.2.1 48)), (4, .int v4), (5, .int v5)] g d_Mo_grown_82 (by decide) rfl ?_
    refine v_iconst (v := (0 : Int32)) g d_Mo_grown_84 (by decide +kernel) ?_
    refine v_istore [(7, .int (0 : Int32)), (6, .int (0 : Int32)), (0, .ref (E.2.1 48)), (4, .int v4), (5, .int v5)] g d_Mo_grown_85 (by decide) rfl ?_
    exact v_sub [2,3,4,1,0] rfl (vL_Mo_grown_87 g hk72 LF v4 v5 (0 : Int32) (0 : Int32) σ)
def L_Mo_grown_72 : Nat → Int32 → Int32 → Sto → Option (Int64 × Sto)
  | 0, _, _, _ => none
  | fu + 1, v4, v5, σ => B_Mo_grown_72 (L_Mo_grown_72 fu) v4 v5 σ
theorem vL_Mo_grown_72 {X : Xt} {E : En} (g : GG X E 5 b_Mo_grown R_Mo 8) (fu : Nat) : ∀ (v4 : Int32) (v5 : Int32) (σ : Sto), VV X E b_Mo_grown 8 eL 72 [(0, .ref (E.2.1 48)), (4, .int v4), (5, .int v5)] [] σ (L_Mo_grown_72 fu v4 v5 σ) := by
  induction fu with
  | zero => intros; exact v_none
  | succ fu ih =>
    intro v4 v5 σ
    exact vB_Mo_grown_72 g ih v4 v5 σ
def B_Mo_grown_0 (a1 : Int32) (a2 : Int64) (a4 : Int32) (σ : Sto) : Option (Int64 × Sto) :=
  ((f_Mo_isOne a1 σ).bind fun q1 => (if (b2i q1.1) = 0 then some ((-2 : Int64), q1.2)
 else ((f_Mo_isSet a2 q1.2).bind fun q2 => (if (b2i q2.1) = 0 then some ((-2 : Int64), q2.2)
  else ((f_Mo_isMuch a2 q2.2).bind fun q3 => (if (b2i q3.1) = 0 then ((f_Mo_lists a1 a2 q3.2).bind fun q4 => (if a4 = (-1 : Int32) then some ((Int32.toInt64 (gI q4.2 48 15)), q4.2)
    else ((f_Mo_in (Int32.toInt64 a4) (0 : Int64) (Int32.toInt64 ((gI q4.2 48 15) - (1 : Int32))) q4.2).bind fun q5 => (if (b2i q5.1) = 0 then some ((-12 : Int64), q5.2)
     else L_Mo_grown_72 LF a4 (0 : Int32) q5.2))))
   else some ((-5 : Int64), q3.2)))))))
set_option maxHeartbeats 4000000 in
set_option maxRecDepth 100000 in
theorem vB_Mo_grown_0 {X : Xt} {E : En} (g : GG X E 5 b_Mo_grown R_Mo 8) (a1 : Int32) (a2 : Int64) (a4 : Int32) (σ : Sto) : VV X E b_Mo_grown 8 eL 0 [(0, .ref (E.2.1 48)), (1, .int a1), (2, .long a2), (4, .int a4)] [] σ (B_Mo_grown_0 a1 a2 a4 σ) := by
  unfold B_Mo_grown_0
  refine v_iload_n 1 g d_Mo_grown_0 rfl ?_
  refine v_callB (r_S (rest := []) [.int a1] g (m1 1203 (by decide +kernel) (by decide +kernel)) ys_Mo_isOne (fun r σ1 h => sp_Mo_isOne g.2.2.1  h) rfl rfl (by decide) (Nat.le_of_ble_eq_true rfl) d_Mo_grown_1) (fun q1 => ?_)
  refine v_if_eq 15 g d_Mo_grown_4 (by decide) (fun _ => ?_) (fun _ => ?_)
  · refine v_ldc2 (v := (-2 : Int64)) g (m1 1237 (by decide +kernel) (by decide +kernel)) d_Mo_grown_15 ?_
    exact v_ret d_Mo_grown_18 rfl
  · refine v_aload_n 0 g d_Mo_grown_7 rfl ?_
    refine v_lload_n 2 g d_Mo_grown_8 rfl ?_
    refine v_callB (r_V (rest := []) [.long a2] g (m1 1221 (by decide +kernel) (by decide +kernel)) yv_Mo_isSet rfl (fun r σ1 h => sp_Mo_isSet g.2.2.1  h) rfl rfl (by decide) (Nat.le_of_ble_eq_true rfl) d_Mo_grown_9) (fun q2 => ?_)
    refine v_if_ne 19 g d_Mo_grown_12 (by decide) (fun _ => ?_) (fun _ => ?_)
    · refine v_lload_n 2 g d_Mo_grown_19 rfl ?_
      refine v_callB (r_S (rest := []) [.long a2] g (m1 1327 (by decide +kernel) (by decide +kernel)) ys_Mo_isMuch (fun r σ1 h => sp_Mo_isMuch g.2.2.1  h) rfl rfl (by decide) (Nat.le_of_ble_eq_true rfl) d_Mo_grown_20) (fun q3 => ?_)
      refine v_if_eq 30 g d_Mo_grown_23 (by decide) (fun _ => ?_) (fun _ => ?_)
      · refine v_aload_n 0 g d_Mo_grown_30 rfl ?_
        refine v_iload_n 1 g d_Mo_grown_31 rfl ?_
        refine v_lload_n 2 g d_Mo_grown_32 rfl ?_
        refine v_callU (r_V (rest := []) [.int a1, .long a2] g (m1 1335 (by decide +kernel) (by decide +kernel)) yv_Mo_lists rfl (fun r σ1 h => sp_Mo_lists g.2.2.1  h) rfl rfl (by decide) (Nat.le_of_ble_eq_true rfl) d_Mo_grown_33) (fun q4 => ?_)
        refine v_iload 3 g d_Mo_grown_36 rfl ?_
        refine v_iconst (v := (-1 : Int32)) g d_Mo_grown_38 (by decide +kernel) ?_
        refine v_icmp_ne 48 g d_Mo_grown_39 (by decide) (fun _ => ?_) (fun _ => ?_)
        · refine v_iload 3 g d_Mo_grown_48 rfl ?_
          refine v_i2l g d_Mo_grown_50 ?_
          refine v_lconst (v := (0 : Int64)) g d_Mo_grown_51 (by decide +kernel) ?_
          refine v_aload_n 0 g d_Mo_grown_52 rfl ?_
          refine v_getI g ff_Mo_202 rfl rfl d_Mo_grown_53 ?_
          refine v_iconst (v := (1 : Int32)) g d_Mo_grown_56 (by decide +kernel) ?_
          refine v_isub g d_Mo_grown_57 ?_
          refine v_i2l g d_Mo_grown_58 ?_
          refine v_callB (r_S (rest := []) [.long (Int32.toInt64 a4), .long (0 : Int64), .long (Int32.toInt64 ((gI q4.2 48 15) - (1 : Int32)))] g (m1 1167 (by decide +kernel) (by decide +kernel)) ys_Mo_in (fun r σ1 h => sp_Mo_in g.2.2.1  h) rfl rfl (by decide) (Nat.le_of_ble_eq_true rfl) d_Mo_grown_59) (fun q5 => ?_)
          refine v_if_ne 69 g d_Mo_grown_62 (by decide) (fun _ => ?_) (fun _ => ?_)
          · refine v_iconst (v := (0 : Int32)) g d_Mo_grown_69 (by decide +kernel) ?_
            refine v_istore [(5, .int (0 : Int32)), (0, .ref (E.2.1 48)), (1, .int a1), (2, .long a2), (4, .int a4)] g d_Mo_grown_70 (by decide) rfl ?_
            exact v_sub [1,4,0] rfl (vL_Mo_grown_72 g LF a4 (0 : Int32) q5.2)
          · refine v_ldc2 (v := (-12 : Int64)) g (m1 1281 (by decide +kernel) (by decide +kernel)) d_Mo_grown_65 ?_
            exact v_ret d_Mo_grown_68 rfl
        · refine v_aload_n 0 g d_Mo_grown_42 rfl ?_
          refine v_getI g ff_Mo_202 rfl rfl d_Mo_grown_43 ?_
          refine v_i2l g d_Mo_grown_46 ?_
          exact v_ret d_Mo_grown_47 rfl
      · refine v_ldc2 (v := (-5 : Int64)) g (m1 1330 (by decide +kernel) (by decide +kernel)) d_Mo_grown_26 ?_
        exact v_ret d_Mo_grown_29 rfl
    · refine v_ldc2 (v := (-2 : Int64)) g (m1 1237 (by decide +kernel) (by decide +kernel)) d_Mo_grown_15 ?_
      exact v_ret d_Mo_grown_18 rfl
def f_Mo_grown (a1 : Int32) (a2 : Int64) (a4 : Int32) (σ : Sto) : Option (Int64 × Sto) := B_Mo_grown_0 a1 a2 a4 σ
theorem sp_Mo_grown {l : Launch} {E : En} (hE : Dj E) {a1 : Int32} {a2 : Int64} {a4 : Int32} {σ : Sto} {r : Int64} {σ' : Sto} (h : f_Mo_grown a1 a2 a4 σ = some (r, σ')) : Ct l E y_Mo_grown (wsM y_Mo_grown b_Mo_grown 8 (some .long)) 5 [.ref (E.2.1 48), .int a1, .long a2, .int a4] σ (eL r) σ' :=
  ct_of hE (by decide +kernel) (Nat.le_of_ble_eq_true rfl) (fun x => Or.inr (Or.inr (Or.inl ⟨rfl, x, rfl⟩))) (fun X _ g => vB_Mo_grown_0 g a1 a2 a4 σ) r σ' h
