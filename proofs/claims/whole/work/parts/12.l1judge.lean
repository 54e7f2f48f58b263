theorem ff_Judge_12 : FF R_Judge 12 2 1 := ⟨R_Judge, T_Judge, 2, rfl, in_Judge, by decide, rfl, by decide, m1 172 (by decide +kernel) (by decide +kernel)⟩
theorem ff_Judge_18 : FF R_Judge 18 2 0 := ⟨R_Judge, T_Judge, 2, rfl, in_Judge, by decide, rfl, by decide, m1 171 (by decide +kernel) (by decide +kernel)⟩
theorem ff_Judge_64 : FF R_Judge 64 6 4 := ⟨R_Ranking, T_Ranking, 6, rfl, in_Ranking, by decide, rfl, by decide, m1 155 (by decide +kernel) (by decide +kernel)⟩
theorem ff_Judge_68 : FF R_Judge 68 6 3 := ⟨R_Ranking, T_Ranking, 6, rfl, in_Ranking, by decide, rfl, by decide, m1 152 (by decide +kernel) (by decide +kernel)⟩
theorem ff_Judge_75 : FF R_Judge 75 6 1 := ⟨R_Ranking, T_Ranking, 6, rfl, in_Ranking, by decide, rfl, by decide, m1 147 (by decide +kernel) (by decide +kernel)⟩
theorem ff_Judge_78 : FF R_Judge 78 6 0 := ⟨R_Ranking, T_Ranking, 6, rfl, in_Ranking, by decide, rfl, by decide, m1 144 (by decide +kernel) (by decide +kernel)⟩
theorem ff_Judge_86 : FF R_Judge 86 4 0 := ⟨R_Net, T_Net, 5, rfl, in_Net, by decide, rfl, by decide, m1 108 (by decide +kernel) (by decide +kernel)⟩
theorem ff_Ranking_15 : FF R_Ranking 15 6 1 := ⟨R_Ranking, T_Ranking, 6, rfl, in_Ranking, by decide, rfl, by decide, m1 146 (by decide +kernel) (by decide +kernel)⟩
theorem ff_Ranking_19 : FF R_Ranking 19 6 2 := ⟨R_Ranking, T_Ranking, 6, rfl, in_Ranking, by decide, rfl, by decide, m1 149 (by decide +kernel) (by decide +kernel)⟩
theorem ff_Ranking_22 : FF R_Ranking 22 6 3 := ⟨R_Ranking, T_Ranking, 6, rfl, in_Ranking, by decide, rfl, by decide, m1 151 (by decide +kernel) (by decide +kernel)⟩
theorem ff_Ranking_26 : FF R_Ranking 26 6 4 := ⟨R_Ranking, T_Ranking, 6, rfl, in_Ranking, by decide, rfl, by decide, m1 154 (by decide +kernel) (by decide +kernel)⟩
theorem ff_Ranking_29 : FF R_Ranking 29 6 5 := ⟨R_Ranking, T_Ranking, 6, rfl, in_Ranking, by decide, rfl, by decide, m1 157 (by decide +kernel) (by decide +kernel)⟩
theorem ff_Ranking_32 : FF R_Ranking 32 4 0 := ⟨R_Net, T_Net, 5, rfl, in_Net, by decide, rfl, by decide, m1 105 (by decide +kernel) (by decide +kernel)⟩
theorem ff_Ranking_9 : FF R_Ranking 9 6 0 := ⟨R_Ranking, T_Ranking, 6, rfl, in_Ranking, by decide, rfl, by decide, m1 143 (by decide +kernel) (by decide +kernel)⟩
theorem fp_Ranking_15 : FP R_Ranking 15 6 1 (.int) := ⟨R_Ranking, T_Ranking, 6, rfl, in_Ranking, by decide, rfl, by decide, m1 146 (by decide +kernel) (by decide +kernel), ⟨ty_Ranking, tyok_Ranking⟩, nm_Ranking, rfl, by decide +kernel⟩
theorem fp_Ranking_19 : FP R_Ranking 19 6 2 (.int) := ⟨R_Ranking, T_Ranking, 6, rfl, in_Ranking, by decide, rfl, by decide, m1 149 (by decide +kernel) (by decide +kernel), ⟨ty_Ranking, tyok_Ranking⟩, nm_Ranking, rfl, by decide +kernel⟩
theorem fp_Ranking_26 : FP R_Ranking 26 6 4 (.int) := ⟨R_Ranking, T_Ranking, 6, rfl, in_Ranking, by decide, rfl, by decide, m1 154 (by decide +kernel) (by decide +kernel), ⟨ty_Ranking, tyok_Ranking⟩, nm_Ranking, rfl, by decide +kernel⟩
/-! method FittingRings$Ranking.barestOf(J)I -/
theorem yv_Ranking_barestOf : YV y_Ranking_barestOf b_Ranking_barestOf 5 (some .int) 1 6 := ⟨m1 498 (by decide +kernel) (by decide +kernel), m1 1 (by decide +kernel) (by decide +kernel), ini_Ranking, m1 499 (by decide +kernel) (by decide +kernel), ⟨by decide +kernel, by decide +kernel, by decide +kernel⟩, by decide, by decide, T_Ranking, 6, rfl⟩
theorem d_Ranking_barestOf_0 : decode b_Ranking_barestOf 0 = .ok (.iconst (-1), 1) := by decide +kernel
theorem d_Ranking_barestOf_1 : decode b_Ranking_barestOf 1 = .ok (.istore_n 3, 1) := by decide +kernel
theorem d_Ranking_barestOf_2 : decode b_Ranking_barestOf 2 = .ok (.iconst 0, 1) := by decide +kernel
theorem d_Ranking_barestOf_3 : decode b_Ranking_barestOf 3 = .ok (.istore 4, 2) := by decide +kernel
theorem d_Ranking_barestOf_5 : decode b_Ranking_barestOf 5 = .ok (.iload 4, 2) := by decide +kernel
theorem d_Ranking_barestOf_7 : decode b_Ranking_barestOf 7 = .ok (.bipush 40, 2) := by decide +kernel
theorem d_Ranking_barestOf_9 : decode b_Ranking_barestOf 9 = .ok (.if_icmp .ge 41, 3) := by decide +kernel
theorem d_Ranking_barestOf_12 : decode b_Ranking_barestOf 12 = .ok (.lload_n 1, 1) := by decide +kernel
theorem d_Ranking_barestOf_13 : decode b_Ranking_barestOf 13 = .ok (.iload 4, 2) := by decide +kernel
theorem d_Ranking_barestOf_15 : decode b_Ranking_barestOf 15 = .ok (.invokestatic 62, 3) := by decide +kernel
theorem d_Ranking_barestOf_18 : decode b_Ranking_barestOf 18 = .ok (.ifCond .eq 26, 3) := by decide +kernel
theorem d_Ranking_barestOf_21 : decode b_Ranking_barestOf 21 = .ok (.iload_n 3, 1) := by decide +kernel
theorem d_Ranking_barestOf_22 : decode b_Ranking_barestOf 22 = .ok (.ifCond .lt 19, 3) := by decide +kernel
theorem d_Ranking_barestOf_25 : decode b_Ranking_barestOf 25 = .ok (.aload_n 0, 1) := by decide +kernel
theorem d_Ranking_barestOf_26 : decode b_Ranking_barestOf 26 = .ok (.getfield 29, 3) := by decide +kernel
theorem d_Ranking_barestOf_29 : decode b_Ranking_barestOf 29 = .ok (.iload 4, 2) := by decide +kernel
theorem d_Ranking_barestOf_31 : decode b_Ranking_barestOf 31 = .ok (.iaload, 1) := by decide +kernel
theorem d_Ranking_barestOf_32 : decode b_Ranking_barestOf 32 = .ok (.aload_n 0, 1) := by decide +kernel
theorem d_Ranking_barestOf_33 : decode b_Ranking_barestOf 33 = .ok (.getfield 29, 3) := by decide +kernel
theorem d_Ranking_barestOf_36 : decode b_Ranking_barestOf 36 = .ok (.iload_n 3, 1) := by decide +kernel
theorem d_Ranking_barestOf_37 : decode b_Ranking_barestOf 37 = .ok (.iaload, 1) := by decide +kernel
theorem d_Ranking_barestOf_38 : decode b_Ranking_barestOf 38 = .ok (.if_icmp .ge 6, 3) := by decide +kernel
theorem d_Ranking_barestOf_41 : decode b_Ranking_barestOf 41 = .ok (.iload 4, 2) := by decide +kernel
theorem d_Ranking_barestOf_43 : decode b_Ranking_barestOf 43 = .ok (.istore_n 3, 1) := by decide +kernel
theorem d_Ranking_barestOf_44 : decode b_Ranking_barestOf 44 = .ok (.iinc 4 1, 3) := by decide +kernel
theorem d_Ranking_barestOf_47 : decode b_Ranking_barestOf 47 = .ok (.goto (-42), 3) := by decide +kernel
theorem d_Ranking_barestOf_50 : decode b_Ranking_barestOf 50 = .ok (.iload_n 3, 1) := by decide +kernel
theorem d_Ranking_barestOf_51 : decode b_Ranking_barestOf 51 = .ok (.ireturn, 1) := by decide +kernel
def B_Ranking_barestOf_5 (k5 : Int64 → Int32 → Int32 → Sto → Option (Int32 × Sto)) (v1 : Int64) (v3 : Int32) (v4 : Int32) (σ : Sto) : Option (Int32 × Sto) :=
  (if (40 : Int32) ≤ v4 then some (v3, σ)
 else ((f_FR_isOf v1 v4 σ).bind fun q1 => (if (b2i q1.1) = 0 then k5 v1 v3 (v4 + (1 : Int32)) q1.2
  else (if v3 < 0 then k5 v1 v4 (v4 + (1 : Int32)) q1.2
   else (if inb v4 40 = true then (if inb v3 40 = true then (if (gI q1.2 20 (Int32.toNatClampNeg v3)) ≤ (gI q1.2 20 (Int32.toNatClampNeg v4)) then k5 v1 v3 (v4 + (1 : Int32)) q1.2
    else k5 v1 v4 (v4 + (1 : Int32)) q1.2) else none) else none)))))
set_option maxHeartbeats 4000000 in
set_option maxRecDepth 100000 in
theorem vB_Ranking_barestOf_5 {X : Xt} {E : En} (g : GG X E 2 b_Ranking_barestOf R_Ranking 5) {k5 : Int64 → Int32 → Int32 → Sto → Option (Int32 × Sto)} (hk5 : ∀ (v1 : Int64) (v3 : Int32) (v4 : Int32) (σ : Sto), VV X E b_Ranking_barestOf 5 eI 5 [(0, .ref (E.2.1 17)), (1, .long v1), (3, .int v3), (4, .int v4)] [] σ (k5 v1 v3 v4 σ)) (v1 : Int64) (v3 : Int32) (v4 : Int32) (σ : Sto) : VV X E b_Ranking_barestOf 5 eI 5 [(0, .ref (E.2.1 17)), (1, .long v1), (3, .int v3), (4, .int v4)] [] σ (B_Ranking_barestOf_5 k5 v1 v3 v4 σ) := by
  unfold B_Ranking_barestOf_5
  refine v_iload 3 g d_Ranking_barestOf_5 rfl ?_
  refine v_bipush (v := (40 : Int32)) g d_Ranking_barestOf_7 (by decide +kernel) ?_
  refine v_icmp_ge 50 g d_Ranking_barestOf_9 (by decide) (fun _ => ?_) (fun _ => ?_)
  · refine v_iload_n 2 g d_Ranking_barestOf_50 rfl ?_
    exact v_ret d_Ranking_barestOf_51 rfl
  · refine v_lload_n 1 g d_Ranking_barestOf_12 rfl ?_
    refine v_iload 3 g d_Ranking_barestOf_13 rfl ?_
    refine v_callB (r_SN (rest := []) (host := R_FR) [.long v1, .int v4] g (by decide +kernel) ys_FR_isOf (fun r σ1 h => sp_FR_isOf g.2.2.1  h) rfl rfl (by decide) (Nat.le_of_ble_eq_true rfl) d_Ranking_barestOf_15) (fun q1 => ?_)
    refine v_if_eq 44 g d_Ranking_barestOf_18 (by decide) (fun _ => ?_) (fun _ => ?_)
    · refine v_iinc 3 [(4, .int (v4 + (1 : Int32))), (0, .ref (E.2.1 17)), (1, .long v1), (3, .int v3)] g d_Ranking_barestOf_44 rfl (v := (1 : Int32)) (by decide +kernel) (by decide) rfl ?_
      refine v_goto 5 g d_Ranking_barestOf_47 (by decide) ?_
      exact v_sub [1,2,3,0] rfl (hk5 v1 v3 (v4 + (1 : Int32)) q1.2)
    · refine v_iload_n 2 g d_Ranking_barestOf_21 rfl ?_
      refine v_if_lt 41 g d_Ranking_barestOf_22 (by decide) (fun _ => ?_) (fun _ => ?_)
      · refine v_iload 3 g d_Ranking_barestOf_41 rfl ?_
        refine v_istore_n [(3, .int v4), (0, .ref (E.2.1 17)), (1, .long v1), (4, .int v4)] g d_Ranking_barestOf_43 (by decide) rfl ?_
        refine v_iinc 3 [(4, .int (v4 + (1 : Int32))), (3, .int v4), (0, .ref (E.2.1 17)), (1, .long v1)] g d_Ranking_barestOf_44 rfl (v := (1 : Int32)) (by decide +kernel) (by decide) rfl ?_
        refine v_goto 5 g d_Ranking_barestOf_47 (by decide) ?_
        exact v_sub [2,3,1,0] rfl (hk5 v1 v4 (v4 + (1 : Int32)) q1.2)
      · refine v_aload_n 0 g d_Ranking_barestOf_25 rfl ?_
        refine v_getR 20 g ff_Ranking_29 rfl rfl rfl d_Ranking_barestOf_26 ?_
        refine v_iload 3 g d_Ranking_barestOf_29 rfl ?_
        refine v_iald g rfl rfl d_Ranking_barestOf_31 (fun _ => ?_)
        refine v_aload_n 0 g d_Ranking_barestOf_32 rfl ?_
        refine v_getR 20 g ff_Ranking_29 rfl rfl rfl d_Ranking_barestOf_33 ?_
        refine v_iload_n 2 g d_Ranking_barestOf_36 rfl ?_
        refine v_iald g rfl rfl d_Ranking_barestOf_37 (fun _ => ?_)
        refine v_icmp_ge 44 g d_Ranking_barestOf_38 (by decide) (fun _ => ?_) (fun _ => ?_)
        · refine v_iinc 3 [(4, .int (v4 + (1 : Int32))), (0, .ref (E.2.1 17)), (1, .long v1), (3, .int v3)] g d_Ranking_barestOf_44 rfl (v := (1 : Int32)) (by decide +kernel) (by decide) rfl ?_
          refine v_goto 5 g d_Ranking_barestOf_47 (by decide) ?_
          exact v_sub [1,2,3,0] rfl (hk5 v1 v3 (v4 + (1 : Int32)) q1.2)
        · refine v_iload 3 g d_Ranking_barestOf_41 rfl ?_
          refine v_istore_n [(3, .int v4), (0, .ref (E.2.1 17)), (1, .long v1), (4, .int v4)] g d_Ranking_barestOf_43 (by decide) rfl ?_
          refine v_iinc 3 [(4, .int (v4 + (1 : Int32))), (3, .int v4), (0, .ref (E.2.1 17)), (1, .long v1)] g d_Ranking_barestOf_44 rfl (v := (1 : Int32)) (by decide +kernel) (by decide) rfl ?_
          refine v_goto 5 g d_Ranking_barestOf_47 (by decide) ?_
          exact v_sub [2,3,1,0] rfl (hk5 v1 v4 (v4 + (1 : Int32)) q1.2)
def L_Ranking_barestOf_5 : Nat → Int64 → Int32 → Int32 → Sto → Option (Int32 × Sto)
  | 0, _, _, _, _ => none
  | fu + 1, v1, v3, v4, σ => B_Ranking_barestOf_5 (L_Ranking_barestOf_5 fu) v1 v3 v4 σ
theorem vL_Ranking_barestOf_5 {X : Xt} {E : En} (g : GG X E 2 b_Ranking_barestOf R_Ranking 5) (fu : Nat) : ∀ (v1 : Int64) (v3 : Int32) (v4 : Int32) (σ : Sto), VV X E b_Ranking_barestOf 5 eI 5 [(0, .ref (E.2.1 17)), (1, .long v1), (3, .int v3), (4, .int v4)] [] σ (L_Ranking_barestOf_5 fu v1 v3 v4 σ) := by
  induction fu with
  | zero => intros; exact v_none
  | succ fu ih =>
    intro v1 v3 v4 σ
    exact vB_Ranking_barestOf_5 g ih v1 v3 v4 σ
def B_Ranking_barestOf_0 (a1 : Int64) (σ : Sto) : Option (Int32 × Sto) :=
  L_Ranking_barestOf_5 LF a1 (-1 : Int32) (0 : Int32) σ
set_option maxHeartbeats 4000000 in
set_option maxRecDepth 100000 in
theorem vB_Ranking_barestOf_0 {X : Xt} {E : En} (g : GG X E 2 b_Ranking_barestOf R_Ranking 5) (a1 : Int64) (σ : Sto) : VV X E b_Ranking_barestOf 5 eI 0 [(0, .ref (E.2.1 17)), (1, .long a1)] [] σ (B_Ranking_barestOf_0 a1 σ) := by
  unfold B_Ranking_barestOf_0
  refine v_iconst (v := (-1 : Int32)) g d_Ranking_barestOf_0 (by decide +kernel) ?_
  refine v_istore_n [(3, .int (-1 : Int32)), (0, .ref (E.2.1 17)), (1, .long a1)] g d_Ranking_barestOf_1 (by decide) rfl ?_
  refine v_iconst (v := (0 : Int32)) g d_Ranking_barestOf_2 (by decide +kernel) ?_
  refine v_istore [(4, .int (0 : Int32)), (3, .int (-1 : Int32)), (0, .ref (E.2.1 17)), (1, .long a1)] g d_Ranking_barestOf_3 (by decide) rfl ?_
  exact v_sub [2,3,1,0] rfl (vL_Ranking_barestOf_5 g LF a1 (-1 : Int32) (0 : Int32) σ)
def f_Ranking_barestOf (a1 : Int64) (σ : Sto) : Option (Int32 × Sto) := B_Ranking_barestOf_0 a1 σ
theorem sp_Ranking_barestOf {l : Launch} {E : En} (hE : Dj E) {a1 : Int64} {σ : Sto} {r : Int32} {σ' : Sto} (h : f_Ranking_barestOf a1 σ = some (r, σ')) : Ct l E y_Ranking_barestOf (wsM y_Ranking_barestOf b_Ranking_barestOf 5 (some .int)) 2 [.ref (E.2.1 17), .long a1] σ (eI r) σ' :=
  ct_of hE (by decide +kernel) (Nat.le_of_ble_eq_true rfl) (fun x => Or.inl ⟨rfl, x, rfl⟩) (fun X _ g => vB_Ranking_barestOf_0 g a1 σ) r σ' h
/-! method FittingRings$Ranking.rank(LFittingRings$Net;IJ)V -/
theorem yv_Ranking_rank : YV y_Ranking_rank b_Ranking_rank 12 (none) 3 6 := ⟨m1 491 (by decide +kernel) (by decide +kernel), m1 492 (by decide +kernel) (by decide +kernel), ini_Ranking, m1 493 (by decide +kernel) (by decide +kernel), ⟨by decide +kernel, by decide +kernel, by decide +kernel⟩, by decide, by decide, T_Ranking, 6, rfl⟩
theorem d_Ranking_rank_0 : decode b_Ranking_rank 0 = .ok (.iconst 0, 1) := by decide +kernel
theorem d_Ranking_rank_1 : decode b_Ranking_rank 1 = .ok (.istore 5, 2) := by decide +kernel
theorem d_Ranking_rank_3 : decode b_Ranking_rank 3 = .ok (.iload 5, 2) := by decide +kernel
theorem d_Ranking_rank_5 : decode b_Ranking_rank 5 = .ok (.aload_n 1, 1) := by decide +kernel
theorem d_Ranking_rank_6 : decode b_Ranking_rank 6 = .ok (.getfield 32, 3) := by decide +kernel
theorem d_Ranking_rank_9 : decode b_Ranking_rank 9 = .ok (.if_icmp .ge 27, 3) := by decide +kernel
theorem d_Ranking_rank_12 : decode b_Ranking_rank 12 = .ok (.aload_n 0, 1) := by decide +kernel
theorem d_Ranking_rank_13 : decode b_Ranking_rank 13 = .ok (.getfield 29, 3) := by decide +kernel
theorem d_Ranking_rank_16 : decode b_Ranking_rank 16 = .ok (.iload 5, 2) := by decide +kernel
theorem d_Ranking_rank_18 : decode b_Ranking_rank 18 = .ok (.aload_n 1, 1) := by decide +kernel
theorem d_Ranking_rank_19 : decode b_Ranking_rank 19 = .ok (.iload_n 2, 1) := by decide +kernel
theorem d_Ranking_rank_20 : decode b_Ranking_rank 20 = .ok (.iload 5, 2) := by decide +kernel
theorem d_Ranking_rank_22 : decode b_Ranking_rank 22 = .ok (.lload_n 3, 1) := by decide +kernel
theorem d_Ranking_rank_23 : decode b_Ranking_rank 23 = .ok (.invokevirtual 37, 3) := by decide +kernel
theorem d_Ranking_rank_26 : decode b_Ranking_rank 26 = .ok (.invokestatic 41, 3) := by decide +kernel
theorem d_Ranking_rank_29 : decode b_Ranking_rank 29 = .ok (.iastore, 1) := by decide +kernel
theorem d_Ranking_rank_30 : decode b_Ranking_rank 30 = .ok (.iinc 5 1, 3) := by decide +kernel
theorem d_Ranking_rank_33 : decode b_Ranking_rank 33 = .ok (.goto (-30), 3) := by decide +kernel
theorem d_Ranking_rank_36 : decode b_Ranking_rank 36 = .ok (.aload_n 0, 1) := by decide +kernel
theorem d_Ranking_rank_37 : decode b_Ranking_rank 37 = .ok (.iconst 0, 1) := by decide +kernel
theorem d_Ranking_rank_38 : decode b_Ranking_rank 38 = .ok (.putfield 15, 3) := by decide +kernel
theorem d_Ranking_rank_41 : decode b_Ranking_rank 41 = .ok (.aload_n 0, 1) := by decide +kernel
theorem d_Ranking_rank_42 : decode b_Ranking_rank 42 = .ok (.iconst 0, 1) := by decide +kernel
theorem d_Ranking_rank_43 : decode b_Ranking_rank 43 = .ok (.putfield 19, 3) := by decide +kernel
theorem d_Ranking_rank_46 : decode b_Ranking_rank 46 = .ok (.lload_n 3, 1) := by decide +kernel
theorem d_Ranking_rank_47 : decode b_Ranking_rank 47 = .ok (.lstore 5, 2) := by decide +kernel
theorem d_Ranking_rank_49 : decode b_Ranking_rank 49 = .ok (.iconst 0, 1) := by decide +kernel
theorem d_Ranking_rank_50 : decode b_Ranking_rank 50 = .ok (.istore 7, 2) := by decide +kernel
theorem d_Ranking_rank_52 : decode b_Ranking_rank 52 = .ok (.iload 7, 2) := by decide +kernel
theorem d_Ranking_rank_54 : decode b_Ranking_rank 54 = .ok (.bipush 40, 2) := by decide +kernel
theorem d_Ranking_rank_56 : decode b_Ranking_rank 56 = .ok (.if_icmp .ge 135, 3) := by decide +kernel
theorem d_Ranking_rank_59 : decode b_Ranking_rank 59 = .ok (.lload 5, 2) := by decide +kernel
theorem d_Ranking_rank_61 : decode b_Ranking_rank 61 = .ok (.lconst 0, 1) := by decide +kernel
theorem d_Ranking_rank_62 : decode b_Ranking_rank 62 = .ok (.lcmp, 1) := by decide +kernel
theorem d_Ranking_rank_63 : decode b_Ranking_rank 63 = .ok (.ifCond .eq 128, 3) := by decide +kernel
theorem d_Ranking_rank_66 : decode b_Ranking_rank 66 = .ok (.aload_n 0, 1) := by decide +kernel
theorem d_Ranking_rank_67 : decode b_Ranking_rank 67 = .ok (.lload 5, 2) := by decide +kernel
theorem d_Ranking_rank_69 : decode b_Ranking_rank 69 = .ok (.invokevirtual 47, 3) := by decide +kernel
theorem d_Ranking_rank_72 : decode b_Ranking_rank 72 = .ok (.istore 8, 2) := by decide +kernel
theorem d_Ranking_rank_74 : decode b_Ranking_rank 74 = .ok (.aload_n 1, 1) := by decide +kernel
theorem d_Ranking_rank_75 : decode b_Ranking_rank 75 = .ok (.iload 8, 2) := by decide +kernel
theorem d_Ranking_rank_77 : decode b_Ranking_rank 77 = .ok (.i2l, 1) := by decide +kernel
theorem d_Ranking_rank_78 : decode b_Ranking_rank 78 = .ok (.invokevirtual 50, 3) := by decide +kernel
theorem d_Ranking_rank_81 : decode b_Ranking_rank 81 = .ok (.ifCond .ne 6, 3) := by decide +kernel
theorem d_Ranking_rank_84 : decode b_Ranking_rank 84 = .ok (.goto 107, 3) := by decide +kernel
theorem d_Ranking_rank_87 : decode b_Ranking_rank 87 = .ok (.aload_n 0, 1) := by decide +kernel
theorem d_Ranking_rank_88 : decode b_Ranking_rank 88 = .ok (.getfield 9, 3) := by decide +kernel
theorem d_Ranking_rank_91 : decode b_Ranking_rank 91 = .ok (.iload 7, 2) := by decide +kernel
theorem d_Ranking_rank_93 : decode b_Ranking_rank 93 = .ok (.iload 8, 2) := by decide +kernel
theorem d_Ranking_rank_95 : decode b_Ranking_rank 95 = .ok (.iastore, 1) := by decide +kernel
theorem d_Ranking_rank_96 : decode b_Ranking_rank 96 = .ok (.aload_n 0, 1) := by decide +kernel
theorem d_Ranking_rank_97 : decode b_Ranking_rank 97 = .ok (.iload 7, 2) := by decide +kernel
theorem d_Ranking_rank_99 : decode b_Ranking_rank 99 = .ok (.iconst 1, 1) := by decide +kernel
theorem d_Ranking_rank_100 : decode b_Ranking_rank 100 = .ok (.iadd, 1) := by decide +kernel
theorem d_Ranking_rank_101 : decode b_Ranking_rank 101 = .ok (.putfield 15, 3) := by decide +kernel
theorem d_Ranking_rank_104 : decode b_Ranking_rank 104 = .ok (.aload_n 0, 1) := by decide +kernel
theorem d_Ranking_rank_105 : decode b_Ranking_rank 105 = .ok (.aload_n 0, 1) := by decide +kernel
theorem d_Ranking_rank_106 : decode b_Ranking_rank 106 = .ok (.getfield 19, 3) := by decide +kernel
theorem d_Ranking_rank_109 : decode b_Ranking_rank 109 = .ok (.aload_n 0, 1) := by decide +kernel
theorem d_Ranking_rank_110 : decode b_Ranking_rank 110 = .ok (.getfield 29, 3) := by decide +kernel
theorem d_Ranking_rank_113 : decode b_Ranking_rank 113 = .ok (.iload 8, 2) := by decide +kernel
theorem d_Ranking_rank_115 : decode b_Ranking_rank 115 = .ok (.iaload, 1) := by decide +kernel
theorem d_Ranking_rank_116 : decode b_Ranking_rank 116 = .ok (.invokestatic 54, 3) := by decide +kernel
theorem d_Ranking_rank_119 : decode b_Ranking_rank 119 = .ok (.putfield 19, 3) := by decide +kernel
theorem d_Ranking_rank_122 : decode b_Ranking_rank 122 = .ok (.lload 5, 2) := by decide +kernel
theorem d_Ranking_rank_124 : decode b_Ranking_rank 124 = .ok (.lconst 1, 1) := by decide +kernel
theorem d_Ranking_rank_125 : decode b_Ranking_rank 125 = .ok (.iload 8, 2) := by decide +kernel
theorem d_Ranking_rank_127 : decode b_Ranking_rank 127 = .ok (.lshl, 1) := by decide +kernel
theorem d_Ranking_rank_128 : decode b_Ranking_rank 128 = .ok (.ldc2_w 60, 3) := by decide +kernel
theorem d_Ranking_rank_131 : decode b_Ranking_rank 131 = .ok (.lxor, 1) := by decide +kernel
theorem d_Ranking_rank_132 : decode b_Ranking_rank 132 = .ok (.land, 1) := by decide +kernel
theorem d_Ranking_rank_133 : decode b_Ranking_rank 133 = .ok (.lstore 5, 2) := by decide +kernel
theorem d_Ranking_rank_135 : decode b_Ranking_rank 135 = .ok (.aload_n 1, 1) := by decide +kernel
theorem d_Ranking_rank_136 : decode b_Ranking_rank 136 = .ok (.iload_n 2, 1) := by decide +kernel
theorem d_Ranking_rank_137 : decode b_Ranking_rank 137 = .ok (.iload 8, 2) := by decide +kernel
theorem d_Ranking_rank_139 : decode b_Ranking_rank 139 = .ok (.lload 5, 2) := by decide +kernel
theorem d_Ranking_rank_141 : decode b_Ranking_rank 141 = .ok (.invokevirtual 37, 3) := by decide +kernel
theorem d_Ranking_rank_144 : decode b_Ranking_rank 144 = .ok (.lstore 9, 2) := by decide +kernel
theorem d_Ranking_rank_146 : decode b_Ranking_rank 146 = .ok (.iconst 0, 1) := by decide +kernel
theorem d_Ranking_rank_147 : decode b_Ranking_rank 147 = .ok (.istore 11, 2) := by decide +kernel
theorem d_Ranking_rank_149 : decode b_Ranking_rank 149 = .ok (.iload 11, 2) := by decide +kernel
theorem d_Ranking_rank_151 : decode b_Ranking_rank 151 = .ok (.aload_n 1, 1) := by decide +kernel
theorem d_Ranking_rank_152 : decode b_Ranking_rank 152 = .ok (.getfield 32, 3) := by decide +kernel
theorem d_Ranking_rank_155 : decode b_Ranking_rank 155 = .ok (.if_icmp .ge 30, 3) := by decide +kernel
theorem d_Ranking_rank_158 : decode b_Ranking_rank 158 = .ok (.lload 9, 2) := by decide +kernel
theorem d_Ranking_rank_160 : decode b_Ranking_rank 160 = .ok (.iload 11, 2) := by decide +kernel
theorem d_Ranking_rank_162 : decode b_Ranking_rank 162 = .ok (.invokestatic 62, 3) := by decide +kernel
theorem d_Ranking_rank_165 : decode b_Ranking_rank 165 = .ok (.ifCond .eq 14, 3) := by decide +kernel
theorem d_Ranking_rank_168 : decode b_Ranking_rank 168 = .ok (.aload_n 0, 1) := by decide +kernel
theorem d_Ranking_rank_169 : decode b_Ranking_rank 169 = .ok (.getfield 29, 3) := by decide +kernel
theorem d_Ranking_rank_172 : decode b_Ranking_rank 172 = .ok (.iload 11, 2) := by decide +kernel
theorem d_Ranking_rank_174 : decode b_Ranking_rank 174 = .ok (.dup2, 1) := by decide +kernel
theorem d_Ranking_rank_175 : decode b_Ranking_rank 175 = .ok (.iaload, 1) := by decide +kernel
theorem d_Ranking_rank_176 : decode b_Ranking_rank 176 = .ok (.iconst 1, 1) := by decide +kernel
theorem d_Ranking_rank_177 : decode b_Ranking_rank 177 = .ok (.isub, 1) := by decide +kernel
theorem d_Ranking_rank_178 : decode b_Ranking_rank 178 = .ok (.iastore, 1) := by decide +kernel
theorem d_Ranking_rank_179 : decode b_Ranking_rank 179 = .ok (.iinc 11 1, 3) := by decide +kernel
theorem d_Ranking_rank_182 : decode b_Ranking_rank 182 = .ok (.goto (-33), 3) := by decide +kernel
theorem d_Ranking_rank_185 : decode b_Ranking_rank 185 = .ok (.iinc 7 1, 3) := by decide +kernel
theorem d_Ranking_rank_188 : decode b_Ranking_rank 188 = .ok (.goto (-136), 3) := by decide +kernel
theorem d_Ranking_rank_191 : decode b_Ranking_rank 191 = .ok (.return_, 1) := by decide +kernel
def B_Ranking_rank_149 (k52 : Nat → Int32 → Int64 → Int32 → Sto → Option (Unit × Sto)) (k149 : Nat → Int32 → Int64 → Int32 → Int64 → Int32 → Sto → Option (Unit × Sto)) (v1 : Nat) (v2 : Int32) (v5 : Int64) (v7 : Int32) (v9 : Int64) (v11 : Int32) (σ : Sto) : Option (Unit × Sto) :=
  (if (gI σ v1 0) ≤ v11 then k52 v1 v2 v5 (v7 + (1 : Int32)) σ
 else ((f_FR_isOf v9 v11 σ).bind fun q9 => (if (b2i q9.1) = 0 then k149 v1 v2 v5 v7 v9 (v11 + (1 : Int32)) q9.2
  else (if inb v11 40 = true then (if inb v11 40 = true then (lt1 (sI q9.2 20 (Int32.toNatClampNeg v11) ((gI q9.2 20 (Int32.toNatClampNeg v11)) - (1 : Int32))) fun σ10 => k149 v1 v2 v5 v7 v9 (v11 + (1 : Int32)) σ10) else none) else none))))
set_option maxHeartbeats 4000000 in
set_option maxRecDepth 100000 in
theorem vB_Ranking_rank_149 {X : Xt} {E : En} (g : GG X E 3 b_Ranking_rank R_Ranking 12) {k52 : Nat → Int32 → Int64 → Int32 → Sto → Option (Unit × Sto)} {k149 : Nat → Int32 → Int64 → Int32 → Int64 → Int32 → Sto → Option (Unit × Sto)} (hk52 : ∀ (v1 : Nat) (v2 : Int32) (v5 : Int64) (v7 : Int32) (hv1 : cls v1 = 4) (σ : Sto), VV X E b_Ranking_rank 12 eU 52 [(0, .ref (E.2.1 17)), (1, .ref (E.2.1 v1)), (2, .int v2), (5, .long v5), (7, .int v7)] [] σ (k52 v1 v2 v5 v7 σ)) (hk149 : ∀ (v1 : Nat) (v2 : Int32) (v5 : Int64) (v7 : Int32) (v9 : Int64) (v11 : Int32) (hv1 : cls v1 = 4) (σ : Sto), VV X E b_Ranking_rank 12 eU 149 [(0, .ref (E.2.1 17)), (1, .ref (E.2.1 v1)), (2, .int v2), (5, .long v5), (7, .int v7), (9, .long v9), (11, .int v11)] [] σ (k149 v1 v2 v5 v7 v9 v11 σ)) (v1 : Nat) (v2 : Int32) (v5 : Int64) (v7 : Int32) (v9 : Int64) (v11 : Int32) (hv1 : cls v1 = 4) (σ : Sto) : VV X E b_Ranking_rank 12 eU 149 [(0, .ref (E.2.1 17)), (1, .ref (E.2.1 v1)), (2, .int v2), (5, .long v5), (7, .int v7), (9, .long v9), (11, .int v11)] [] σ (B_Ranking_rank_149 k52 k149 v1 v2 v5 v7 v9 v11 σ) := by
  unfold B_Ranking_rank_149
  refine v_iload 6 g d_Ranking_rank_149 rfl ?_
  refine v_aload_n 1 g d_Ranking_rank_151 rfl ?_
  refine v_getI g ff_Ranking_32 hv1 rfl d_Ranking_rank_152 ?_
  refine v_icmp_ge 185 g d_Ranking_rank_155 (by decide) (fun _ => ?_) (fun _ => ?_)
  · refine v_iinc 4 [(7, .int (v7 + (1 : Int32))), (0, .ref (E.2.1 17)), (1, .ref (E.2.1 v1)), (2, .int v2), (5, .long v5), (9, .long v9), (11, .int v11)] g d_Ranking_rank_185 rfl (v := (1 : Int32)) (by decide +kernel) (by decide) rfl ?_
    refine v_goto 52 g d_Ranking_rank_188 (by decide) ?_
    exact v_sub [1,2,3,4,0] rfl (hk52 v1 v2 v5 (v7 + (1 : Int32)) hv1 σ)
  · refine v_lload 5 g d_Ranking_rank_158 rfl ?_
    refine v_iload 6 g d_Ranking_rank_160 rfl ?_
    refine v_callB (r_SN (rest := []) (host := R_FR) [.long v9, .int v11] g (by decide +kernel) ys_FR_isOf (fun r σ1 h => sp_FR_isOf g.2.2.1  h) rfl rfl (by decide) (Nat.le_of_ble_eq_true rfl) d_Ranking_rank_162) (fun q9 => ?_)
    refine v_if_eq 179 g d_Ranking_rank_165 (by decide) (fun _ => ?_) (fun _ => ?_)
    · refine v_iinc 6 [(11, .int (v11 + (1 : Int32))), (0, .ref (E.2.1 17)), (1, .ref (E.2.1 v1)), (2, .int v2), (5, .long v5), (7, .int v7), (9, .long v9)] g d_Ranking_rank_179 rfl (v := (1 : Int32)) (by decide +kernel) (by decide) rfl ?_
      refine v_goto 149 g d_Ranking_rank_182 (by decide) ?_
      exact v_sub [1,2,3,4,5,6,0] rfl (hk149 v1 v2 v5 v7 v9 (v11 + (1 : Int32)) hv1 q9.2)
    · refine v_aload_n 0 g d_Ranking_rank_168 rfl ?_
      refine v_getR 20 g ff_Ranking_29 rfl rfl rfl d_Ranking_rank_169 ?_
      refine v_iload 6 g d_Ranking_rank_172 rfl ?_
      refine v_dup2_11 g d_Ranking_rank_174 rfl rfl ?_
      refine v_iald g rfl rfl d_Ranking_rank_175 (fun _ => ?_)
      refine v_iconst (v := (1 : Int32)) g d_Ranking_rank_176 (by decide +kernel) ?_
      refine v_isub g d_Ranking_rank_177 ?_
      refine v_iast g rfl rfl d_Ranking_rank_178 (fun _ => ?_)
      refine v_nlet (fun σ10 eσ10 => ?_)
      rw [← eσ10]
      refine v_iinc 6 [(11, .int (v11 + (1 : Int32))), (0, .ref (E.2.1 17)), (1, .ref (E.2.1 v1)), (2, .int v2), (5, .long v5), (7, .int v7), (9, .long v9)] g d_Ranking_rank_179 rfl (v := (1 : Int32)) (by decide +kernel) (by decide) rfl ?_
      refine v_goto 149 g d_Ranking_rank_182 (by decide) ?_
      exact v_sub [1,2,3,4,5,6,0] rfl (hk149 v1 v2 v5 v7 v9 (v11 + (1 : Int32)) hv1 σ10)
def L_Ranking_rank_149 (k52 : Nat → Int32 → Int64 → Int32 → Sto → Option (Unit × Sto)) : Nat → Nat → Int32 → Int64 → Int32 → Int64 → Int32 → Sto → Option (Unit × Sto)
  | 0, _, _, _, _, _, _, _ => none
  | fu + 1, v1, v2, v5, v7, v9, v11, σ => B_Ranking_rank_149 k52 (L_Ranking_rank_149 k52 fu) v1 v2 v5 v7 v9 v11 σ
theorem vL_Ranking_rank_149 {X : Xt} {E : En} (g : GG X E 3 b_Ranking_rank R_Ranking 12) {k52 : Nat → Int32 → Int64 → Int32 → Sto → Option (Unit × Sto)} (hk52 : ∀ (v1 : Nat) (v2 : Int32) (v5 : Int64) (v7 : Int32) (hv1 : cls v1 = 4) (σ : Sto), VV X E b_Ranking_rank 12 eU 52 [(0, .ref (E.2.1 17)), (1, .ref (E.2.1 v1)), (2, .int v2), (5, .long v5), (7, .int v7)] [] σ (k52 v1 v2 v5 v7 σ)) (fu : Nat) : ∀ (v1 : Nat) (v2 : Int32) (v5 : Int64) (v7 : Int32) (v9 : Int64) (v11 : Int32) (hv1 : cls v1 = 4) (σ : Sto), VV X E b_Ranking_rank 12 eU 149 [(0, .ref (E.2.1 17)), (1, .ref (E.2.1 v1)), (2, .int v2), (5, .long v5), (7, .int v7), (9, .long v9), (11, .int v11)] [] σ (L_Ranking_rank_149 k52 fu v1 v2 v5 v7 v9 v11 σ) := by
  induction fu with
  | zero => intros; exact v_none
  | succ fu ih =>
    intro v1 v2 v5 v7 v9 v11 hv1 σ
    exact vB_Ranking_rank_149 g hk52 ih v1 v2 v5 v7 v9 v11 hv1 σ
def B_Ranking_rank_52 (k52 : Nat → Int32 → Int64 → Int32 → Sto → Option (Unit × Sto)) (v1 : Nat) (v2 : Int32) (v5 : Int64) (v7 : Int32) (σ : Sto) : Option (Unit × Sto) :=
  (if (40 : Int32) ≤ v7 then some ((), σ)
 else (if v5 = (0 : Int64) then some ((), σ)
  else ((f_Ranking_barestOf v5 σ).bind fun q3 => ((f_Net_has v1 (Int32.toInt64 q3.1) q3.2).bind fun q4 => (if (b2i q4.1) = 0 then some ((), q4.2)
   else (if inb v7 40 = true then (lt1 (sI (sI q4.2 18 (Int32.toNatClampNeg v7) q3.1) 17 1 (v7 + (1 : Int32))) fun σ5 => (if inb q3.1 40 = true then (lt1 (sI σ5 17 2 (mxI (gI σ5 17 2) (gI σ5 20 (Int32.toNatClampNeg q3.1)))) fun σ6 => (lt1 (v5 &&& ((lsh (1 : Int64) q3.1) ^^^ (-1 : Int64))) fun x7 => ((f_Net_fitting v1 v2 q3.1 x7 σ6).bind fun q8 => L_Ranking_rank_149 k52 LF v1 v2 x7 v7 q8.1 (0 : Int32) q8.2))) else none)) else none))))))
set_option maxHeartbeats 4000000 in
set_option maxRecDepth 100000 in
theorem vB_Ranking_rank_52 {X : Xt} {E : En} (g : GG X E 3 b_Ranking_rank R_Ranking 12) {k52 : Nat → Int32 → Int64 → Int32 → Sto → Option (Unit × Sto)} (hk52 : ∀ (v1 : Nat) (v2 : Int32) (v5 : Int64) (v7 : Int32) (hv1 : cls v1 = 4) (σ : Sto), VV X E b_Ranking_rank 12 eU 52 [(0, .ref (E.2.1 17)), (1, .ref (E.2.1 v1)), (2, .int v2), (5, .long v5), (7, .int v7)] [] σ (k52 v1 v2 v5 v7 σ)) (v1 : Nat) (v2 : Int32) (v5 : Int64) (v7 : Int32) (hv1 : cls v1 = 4) (σ : Sto) : VV X E b_Ranking_rank 12 eU 52 [(0, .ref (E.2.1 17)), (1, .ref (E.2.1 v1)), (2, .int v2), (5, .long v5), (7, .int v7)] [] σ (B_Ranking_rank_52 k52 v1 v2 v5 v7 σ) := by
  unfold B_Ranking_rank_52
  refine v_iload 4 g d_Ranking_rank_52 rfl ?_
  refine v_bipush (v := (40 : Int32)) g d_Ranking_rank_54 (by decide +kernel) ?_
  refine v_icmp_ge 191 g d_Ranking_rank_56 (by decide) (fun _ => ?_) (fun _ => ?_)
  · exact v_ret d_Ranking_rank_191 rfl
  · refine v_lload 3 g d_Ranking_rank_59 rfl ?_
    refine v_lconst (v := (0 : Int64)) g d_Ranking_rank_61 (by decide +kernel) ?_
    refine v_lcmp_eq 191 g d_Ranking_rank_62 d_Ranking_rank_63 (by decide) (fun _ => ?_) (fun _ => ?_)
    · exact v_ret d_Ranking_rank_191 rfl
    · refine v_aload_n 0 g d_Ranking_rank_66 rfl ?_
      refine v_lload 3 g d_Ranking_rank_67 rfl ?_
      refine v_callI (r_V (rest := []) [.long v5] g (m1 496 (by decide +kernel) (by decide +kernel)) yv_Ranking_barestOf rfl (fun r σ1 h => sp_Ranking_barestOf g.2.2.1  h) rfl rfl (by decide) (Nat.le_of_ble_eq_true rfl) d_Ranking_rank_69) (fun q3 => ?_)
      refine v_istore [(8, .int q3.1), (0, .ref (E.2.1 17)), (1, .ref (E.2.1 v1)), (2, .int v2), (5, .long v5), (7, .int v7)] g d_Ranking_rank_72 (by decide) rfl ?_
      refine v_aload_n 2 g d_Ranking_rank_74 rfl ?_
      refine v_iload 0 g d_Ranking_rank_75 rfl ?_
      refine v_i2l g d_Ranking_rank_77 ?_
      refine v_callB (r_V (rest := []) [.long (Int32.toInt64 q3.1)] g (m1 501 (by decide +kernel) (by decide +kernel)) yv_Net_has hv1 (fun r σ1 h => sp_Net_has g.2.2.1 hv1 h) rfl rfl (by decide) (Nat.le_of_ble_eq_true rfl) d_Ranking_rank_78) (fun q4 => ?_)
      refine v_if_ne 87 g d_Ranking_rank_81 (by decide) (fun _ => ?_) (fun _ => ?_)
      · refine v_aload_n 1 g d_Ranking_rank_87 rfl ?_
        refine v_getR 18 g ff_Ranking_9 rfl rfl rfl d_Ranking_rank_88 ?_
        refine v_iload 5 g d_Ranking_rank_91 rfl ?_
        refine v_iload 0 g d_Ranking_rank_93 rfl ?_
        refine v_iast g rfl rfl d_Ranking_rank_95 (fun _ => ?_)
        refine v_aload_n 1 g d_Ranking_rank_96 rfl ?_
        refine v_iload 5 g d_Ranking_rank_97 rfl ?_
        refine v_iconst (v := (1 : Int32)) g d_Ranking_rank_99 (by decide +kernel) ?_
        refine v_iadd g d_Ranking_rank_100 ?_
        refine v_putI g fp_Ranking_15 rfl rfl d_Ranking_rank_101 ?_
        refine v_nlet (fun σ5 eσ5 => ?_)
        rw [← eσ5]
        refine v_aload_n 1 g d_Ranking_rank_104 rfl ?_
        refine v_aload_n 1 g d_Ranking_rank_105 rfl ?_
        refine v_getI g ff_Ranking_19 rfl rfl d_Ranking_rank_106 ?_
        refine v_aload_n 1 g d_Ranking_rank_109 rfl ?_
        refine v_getR 20 g ff_Ranking_29 rfl rfl rfl d_Ranking_rank_110 ?_
        refine v_iload 0 g d_Ranking_rank_113 rfl ?_
        refine v_iald g rfl rfl d_Ranking_rank_115 (fun _ => ?_)
        refine v_mmax g (m1 502 (by decide +kernel) (by decide +kernel)) (by decide) (Nat.le_of_ble_eq_true rfl) d_Ranking_rank_116 ?_
        refine v_putI g fp_Ranking_19 rfl rfl d_Ranking_rank_119 ?_
        refine v_nlet (fun σ6 eσ6 => ?_)
        rw [← eσ6]
        refine v_lload 4 g d_Ranking_rank_122 rfl ?_
        refine v_lconst (v := (1 : Int64)) g d_Ranking_rank_124 (by decide +kernel) ?_
        refine v_iload 0 g d_Ranking_rank_125 rfl ?_
        refine v_lshl g d_Ranking_rank_127 ?_
        refine v_ldc2 (v := (-1 : Int64)) g (m1 503 (by decide +kernel) (by decide +kernel)) d_Ranking_rank_128 ?_
        refine v_lxor g d_Ranking_rank_131 ?_
        refine v_land g d_Ranking_rank_132 ?_
        refine v_nlet (fun x7 ex7 => ?_)
        rw [← ex7]
        refine v_lstore [(5, .long x7), (8, .int q3.1), (0, .ref (E.2.1 17)), (1, .ref (E.2.1 v1)), (2, .int v2), (7, .int v7)] g d_Ranking_rank_133 (by decide) rfl ?_
        refine v_aload_n 3 g d_Ranking_rank_135 rfl ?_
        refine v_iload_n 4 g d_Ranking_rank_136 rfl ?_
        refine v_iload 1 g d_Ranking_rank_137 rfl ?_
        refine v_lload 0 g d_Ranking_rank_139 rfl ?_
        refine v_callL (r_V (rest := []) [.int v2, .int q3.1, .long x7] g (m1 494 (by decide +kernel) (by decide +kernel)) yv_Net_fitting hv1 (fun r σ1 h => sp_Net_fitting g.2.2.1 hv1 h) rfl rfl (by decide) (Nat.le_of_ble_eq_true rfl) d_Ranking_rank_141) (fun q8 => ?_)
        refine v_lstore [(9, .long q8.1), (5, .long x7), (8, .int q3.1), (0, .ref (E.2.1 17)), (1, .ref (E.2.1 v1)), (2, .int v2), (7, .int v7)] g d_Ranking_rank_144 (by decide) rfl ?_
        refine v_iconst (v := (0 : Int32)) g d_Ranking_rank_146 (by decide +kernel) ?_
        refine v_istore [(11, .int (0 : Int32)), (9, .long q8.1), (5, .long x7), (8, .int q3.1), (0, .ref (E.2.1 17)), (1, .ref (E.2.1 v1)), (2, .int v2), (7, .int v7)] g d_Ranking_rank_147 (by decide) rfl ?_
        exact v_sub [4,5,6,2,7,1,0] rfl (vL_Ranking_rank_149 g hk52 LF v1 v2 x7 v7 q8.1 (0 : Int32) hv1 q8.2)
      · refine v_goto 191 g d_Ranking_rank_84 (by decide) ?_
        exact v_ret d_Ranking_rank_191 rfl
def L_Ranking_rank_52 : Nat → Nat → Int32 → Int64 → Int32 → Sto → Option (Unit × Sto)
  | 0, _, _, _, _, _ => none
  | fu + 1, v1, v2, v5, v7, σ => B_Ranking_rank_52 (L_Ranking_rank_52 fu) v1 v2 v5 v7 σ
theorem vL_Ranking_rank_52 {X : Xt} {E : En} (g : GG X E 3 b_Ranking_rank R_Ranking 12) (fu : Nat) : ∀ (v1 : Nat) (v2 : Int32) (v5 : Int64) (v7 : Int32) (hv1 : cls v1 = 4) (σ : Sto), VV X E b_Ranking_rank 12 eU 52 [(0, .ref (E.2.1 17)), (1, .ref (E.2.1 v1)), (2, .int v2), (5, .long v5), (7, .int v7)] [] σ (L_Ranking_rank_52 fu v1 v2 v5 v7 σ) := by
  induction fu with
  | zero => intros; exact v_none
  | succ fu ih =>
    intro v1 v2 v5 v7 hv1 σ
    exact vB_Ranking_rank_52 g ih v1 v2 v5 v7 hv1 σ
def B_Ranking_rank_3 (k3 : Nat → Int32 → Int64 → Int32 → Sto → Option (Unit × Sto)) (v1 : Nat) (v2 : Int32) (v3 : Int64) (v5 : Int32) (σ : Sto) : Option (Unit × Sto) :=
  (if (gI σ v1 0) ≤ v5 then L_Ranking_rank_52 LF v1 v2 v3 (0 : Int32) (sI (sI σ 17 1 (0 : Int32)) 17 2 (0 : Int32))
 else ((f_Net_fitting v1 v2 v5 v3 σ).bind fun q1 => ((f_JLong_bitCount q1.1 q1.2).bind fun q2 => (if inb v5 40 = true then k3 v1 v2 v3 (v5 + (1 : Int32)) (sI q2.2 20 (Int32.toNatClampNeg v5) q2.1) else none))))
set_option maxHeartbeats 4000000 in
set_option maxRecDepth 100000 in
theorem vB_Ranking_rank_3 {X : Xt} {E : En} (g : GG X E 3 b_Ranking_rank R_Ranking 12) {k3 : Nat → Int32 → Int64 → Int32 → Sto → Option (Unit × Sto)} (hk3 : ∀ (v1 : Nat) (v2 : Int32) (v3 : Int64) (v5 : Int32) (hv1 : cls v1 = 4) (σ : Sto), VV X E b_Ranking_rank 12 eU 3 [(0, .ref (E.2.1 17)), (1, .ref (E.2.1 v1)), (2, .int v2), (3, .long v3), (5, .int v5)] [] σ (k3 v1 v2 v3 v5 σ)) (v1 : Nat) (v2 : Int32) (v3 : Int64) (v5 : Int32) (hv1 : cls v1 = 4) (σ : Sto) : VV X E b_Ranking_rank 12 eU 3 [(0, .ref (E.2.1 17)), (1, .ref (E.2.1 v1)), (2, .int v2), (3, .long v3), (5, .int v5)] [] σ (B_Ranking_rank_3 k3 v1 v2 v3 v5 σ) := by
  unfold B_Ranking_rank_3
  refine v_iload 4 g d_Ranking_rank_3 rfl ?_
  refine v_aload_n 1 g d_Ranking_rank_5 rfl ?_
  refine v_getI g ff_Ranking_32 hv1 rfl d_Ranking_rank_6 ?_
  refine v_icmp_ge 36 g d_Ranking_rank_9 (by decide) (fun _ => ?_) (fun _ => ?_)
  · refine v_aload_n 0 g d_Ranking_rank_36 rfl ?_
    refine v_iconst (v := (0 : Int32)) g d_Ranking_rank_37 (by decide +kernel) ?_
    refine v_putI g fp_Ranking_15 rfl rfl d_Ranking_rank_38 ?_
    refine v_aload_n 0 g d_Ranking_rank_41 rfl ?_
    refine v_iconst (v := (0 : Int32)) g d_Ranking_rank_42 (by decide +kernel) ?_
    refine v_putI g fp_Ranking_19 rfl rfl d_Ranking_rank_43 ?_
    refine v_lload_n 3 g d_Ranking_rank_46 rfl ?_
    refine v_lstore [(5, .long v3), (0, .ref (E.2.1 17)), (1, .ref (E.2.1 v1)), (2, .int v2), (3, .long v3)] g d_Ranking_rank_47 (by decide) rfl ?_
    refine v_iconst (v := (0 : Int32)) g d_Ranking_rank_49 (by decide +kernel) ?_
    refine v_istore [(7, .int (0 : Int32)), (5, .long v3), (0, .ref (E.2.1 17)), (1, .ref (E.2.1 v1)), (2, .int v2), (3, .long v3)] g d_Ranking_rank_50 (by decide) rfl ?_
    exact v_sub [2,3,4,1,0] rfl (vL_Ranking_rank_52 g LF v1 v2 v3 (0 : Int32) hv1 (sI (sI σ 17 1 (0 : Int32)) 17 2 (0 : Int32)))
  · refine v_aload_n 0 g d_Ranking_rank_12 rfl ?_
    refine v_getR 20 g ff_Ranking_29 rfl rfl rfl d_Ranking_rank_13 ?_
    refine v_iload 4 g d_Ranking_rank_16 rfl ?_
    refine v_aload_n 1 g d_Ranking_rank_18 rfl ?_
    refine v_iload_n 2 g d_Ranking_rank_19 rfl ?_
    refine v_iload 4 g d_Ranking_rank_20 rfl ?_
    refine v_lload_n 3 g d_Ranking_rank_22 rfl ?_
    refine v_callL (r_V (rest := [.int v5, .ref (E.2.1 20)]) [.int v2, .int v5, .long v3] g (m1 494 (by decide +kernel) (by decide +kernel)) yv_Net_fitting hv1 (fun r σ1 h => sp_Net_fitting g.2.2.1 hv1 h) rfl rfl (by decide) (Nat.le_of_ble_eq_true rfl) d_Ranking_rank_23) (fun q1 => ?_)
    refine v_callI (r_S (rest := [.int v5, .ref (E.2.1 20)]) [.long q1.1] g (m1 495 (by decide +kernel) (by decide +kernel)) ys_JLong_bitCount (fun r σ1 h => sp_JLong_bitCount g.2.2.1  h) rfl rfl (by decide) (Nat.le_of_ble_eq_true rfl) d_Ranking_rank_26) (fun q2 => ?_)
    refine v_iast g rfl rfl d_Ranking_rank_29 (fun _ => ?_)
    refine v_iinc 4 [(5, .int (v5 + (1 : Int32))), (0, .ref (E.2.1 17)), (1, .ref (E.2.1 v1)), (2, .int v2), (3, .long v3)] g d_Ranking_rank_30 rfl (v := (1 : Int32)) (by decide +kernel) (by decide) rfl ?_
    refine v_goto 3 g d_Ranking_rank_33 (by decide) ?_
    exact v_sub [1,2,3,4,0] rfl (hk3 v1 v2 v3 (v5 + (1 : Int32)) hv1 (sI q2.2 20 (Int32.toNatClampNeg v5) q2.1))
def L_Ranking_rank_3 : Nat → Nat → Int32 → Int64 → Int32 → Sto → Option (Unit × Sto)
  | 0, _, _, _, _, _ => none
  | fu + 1, v1, v2, v3, v5, σ => B_Ranking_rank_3 (L_Ranking_rank_3 fu) v1 v2 v3 v5 σ
theorem vL_Ranking_rank_3 {X : Xt} {E : En} (g : GG X E 3 b_Ranking_rank R_Ranking 12) (fu : Nat) : ∀ (v1 : Nat) (v2 : Int32) (v3 : Int64) (v5 : Int32) (hv1 : cls v1 = 4) (σ : Sto), VV X E b_Ranking_rank 12 eU 3 [(0, .ref (E.2.1 17)), (1, .ref (E.2.1 v1)), (2, .int v2), (3, .long v3), (5, .int v5)] [] σ (L_Ranking_rank_3 fu v1 v2 v3 v5 σ) := by
  induction fu with
  | zero => intros; exact v_none
  | succ fu ih =>
    intro v1 v2 v3 v5 hv1 σ
    exact vB_Ranking_rank_3 g ih v1 v2 v3 v5 hv1 σ
def B_Ranking_rank_0 (a1 : Nat) (a2 : Int32) (a3 : Int64) (σ : Sto) : Option (Unit × Sto) :=
  L_Ranking_rank_3 LF a1 a2 a3 (0 : Int32) σ
set_option maxHeartbeats 4000000 in
set_option maxRecDepth 100000 in
theorem vB_Ranking_rank_0 {X : Xt} {E : En} (g : GG X E 3 b_Ranking_rank R_Ranking 12) (a1 : Nat) (a2 : Int32) (a3 : Int64) (ha1 : cls a1 = 4) (σ : Sto) : VV X E b_Ranking_rank 12 eU 0 [(0, .ref (E.2.1 17)), (1, .ref (E.2.1 a1)), (2, .int a2), (3, .long a3)] [] σ (B_Ranking_rank_0 a1 a2 a3 σ) := by
  unfold B_Ranking_rank_0
  refine v_iconst (v := (0 : Int32)) g d_Ranking_rank_0 (by decide +kernel) ?_
  refine v_istore [(5, .int (0 : Int32)), (0, .ref (E.2.1 17)), (1, .ref (E.2.1 a1)), (2, .int a2), (3, .long a3)] g d_Ranking_rank_1 (by decide) rfl ?_
  exact v_sub [1,2,3,4,0] rfl (vL_Ranking_rank_3 g LF a1 a2 a3 (0 : Int32) ha1 σ)
def f_Ranking_rank (a1 : Nat) (a2 : Int32) (a3 : Int64) (σ : Sto) : Option (Unit × Sto) := B_Ranking_rank_0 a1 a2 a3 σ
theorem sp_Ranking_rank {l : Launch} {E : En} (hE : Dj E) {a1 : Nat} {a2 : Int32} {a3 : Int64} (ha1 : cls a1 = 4) {σ : Sto} {r : Unit} {σ' : Sto} (h : f_Ranking_rank a1 a2 a3 σ = some (r, σ')) : Ct l E y_Ranking_rank (wsM y_Ranking_rank b_Ranking_rank 12 (none)) 3 [.ref (E.2.1 17), .ref (E.2.1 a1), .int a2, .long a3] σ (eU r) σ' :=
  ct_of hE (by decide +kernel) (Nat.le_of_ble_eq_true rfl) (fun _ => Or.inr (Or.inr (Or.inr (Or.inl ⟨rfl, rfl⟩)))) (fun X _ g => vB_Ranking_rank_0 g a1 a2 a3 ha1 σ) r σ' h
/-! method FittingRings$Judge.ranked(IJ)LFittingRings$Ranking; -/
theorem yv_Judge_ranked : YV y_Judge_ranked b_Judge_ranked 4 (some (.object "FittingRings$Ranking")) 2 2 := ⟨m1 487 (by decide +kernel) (by decide +kernel), m1 488 (by decide +kernel) (by decide +kernel), ini_Judge, m1 489 (by decide +kernel) (by decide +kernel), ⟨by decide +kernel, by decide +kernel, by decide +kernel⟩, by decide, by decide, T_Judge, 2, rfl⟩
theorem d_Judge_ranked_0 : decode b_Judge_ranked 0 = .ok (.aload_n 0, 1) := by decide +kernel
theorem d_Judge_ranked_1 : decode b_Judge_ranked 1 = .ok (.getfield 12, 3) := by decide +kernel
theorem d_Judge_ranked_4 : decode b_Judge_ranked 4 = .ok (.aload_n 0, 1) := by decide +kernel
theorem d_Judge_ranked_5 : decode b_Judge_ranked 5 = .ok (.getfield 18, 3) := by decide +kernel
theorem d_Judge_ranked_8 : decode b_Judge_ranked 8 = .ok (.iload_n 1, 1) := by decide +kernel
theorem d_Judge_ranked_9 : decode b_Judge_ranked 9 = .ok (.lload_n 2, 1) := by decide +kernel
theorem d_Judge_ranked_10 : decode b_Judge_ranked 10 = .ok (.invokevirtual 22, 3) := by decide +kernel
theorem d_Judge_ranked_13 : decode b_Judge_ranked 13 = .ok (.aload_n 0, 1) := by decide +kernel
theorem d_Judge_ranked_14 : decode b_Judge_ranked 14 = .ok (.getfield 12, 3) := by decide +kernel
theorem d_Judge_ranked_17 : decode b_Judge_ranked 17 = .ok (.areturn, 1) := by decide +kernel
def B_Judge_ranked_0 (a1 : Int32) (a2 : Int64) (σ : Sto) : Option (Unit × Sto) :=
  ((f_Ranking_rank 1 a1 a2 σ).bind fun q1 => some ((), q1.2))
set_option maxHeartbeats 4000000 in
set_option maxRecDepth 100000 in
theorem vB_Judge_ranked_0 {X : Xt} {E : En} (g : GG X E 4 b_Judge_ranked R_Judge 4) (a1 : Int32) (a2 : Int64) (σ : Sto) : VV X E b_Judge_ranked 4 (eC E 17) 0 [(0, .ref (E.2.1 16)), (1, .int a1), (2, .long a2)] [] σ (B_Judge_ranked_0 a1 a2 σ) := by
  unfold B_Judge_ranked_0
  refine v_aload_n 0 g d_Judge_ranked_0 rfl ?_
  refine v_getR 17 g ff_Judge_12 rfl rfl rfl d_Judge_ranked_1 ?_
  refine v_aload_n 0 g d_Judge_ranked_4 rfl ?_
  refine v_getR 1 g ff_Judge_18 rfl rfl rfl d_Judge_ranked_5 ?_
  refine v_iload_n 1 g d_Judge_ranked_8 rfl ?_
  refine v_lload_n 2 g d_Judge_ranked_9 rfl ?_
  refine v_callU (r_V (rest := []) [.ref (E.2.1 1), .int a1, .long a2] g (m1 490 (by decide +kernel) (by decide +kernel)) yv_Ranking_rank rfl (fun r σ1 h => sp_Ranking_rank g.2.2.1 rfl h) rfl rfl (by decide) (Nat.le_of_ble_eq_true rfl) d_Judge_ranked_10) (fun q1 => ?_)
  refine v_aload_n 0 g d_Judge_ranked_13 rfl ?_
  refine v_getR 17 g ff_Judge_12 rfl rfl rfl d_Judge_ranked_14 ?_
  exact v_ret d_Judge_ranked_17 rfl
def f_Judge_ranked (a1 : Int32) (a2 : Int64) (σ : Sto) : Option (Unit × Sto) := B_Judge_ranked_0 a1 a2 σ
theorem sp_Judge_ranked {l : Launch} {E : En} (hE : Dj E) {a1 : Int32} {a2 : Int64} {σ : Sto} {r : Unit} {σ' : Sto} (h : f_Judge_ranked a1 a2 σ = some (r, σ')) : Ct l E y_Judge_ranked (wsM y_Judge_ranked b_Judge_ranked 4 (some (.object "FittingRings$Ranking"))) 4 [.ref (E.2.1 16), .int a1, .long a2] σ ((eC E 17) r) σ' :=
  ct_of hE (by decide +kernel) (Nat.le_of_ble_eq_true rfl) (fun x => Or.inr (Or.inr (Or.inr (Or.inr ⟨⟨_, rfl⟩, _, rfl⟩)))) (fun X _ g => vB_Judge_ranked_0 g a1 a2 σ) r σ' h
/-! method FittingRings$Ranking.group(LFittingRings$Net;I)V -/
theorem yv_Ranking_group : YV y_Ranking_group b_Ranking_group 6 (none) 2 6 := ⟨m1 513 (by decide +kernel) (by decide +kernel), m1 514 (by decide +kernel) (by decide +kernel), ini_Ranking, m1 515 (by decide +kernel) (by decide +kernel), ⟨by decide +kernel, by decide +kernel, by decide +kernel⟩, by decide, by decide, T_Ranking, 6, rfl⟩
theorem d_Ranking_group_0 : decode b_Ranking_group 0 = .ok (.aload_n 0, 1) := by decide +kernel
theorem d_Ranking_group_1 : decode b_Ranking_group 1 = .ok (.iconst 0, 1) := by decide +kernel
theorem d_Ranking_group_2 : decode b_Ranking_group 2 = .ok (.putfield 26, 3) := by decide +kernel
theorem d_Ranking_group_5 : decode b_Ranking_group 5 = .ok (.aload_n 0, 1) := by decide +kernel
theorem d_Ranking_group_6 : decode b_Ranking_group 6 = .ok (.getfield 15, 3) := by decide +kernel
theorem d_Ranking_group_9 : decode b_Ranking_group 9 = .ok (.iconst 1, 1) := by decide +kernel
theorem d_Ranking_group_10 : decode b_Ranking_group 10 = .ok (.isub, 1) := by decide +kernel
theorem d_Ranking_group_11 : decode b_Ranking_group 11 = .ok (.istore_n 3, 1) := by decide +kernel
theorem d_Ranking_group_12 : decode b_Ranking_group 12 = .ok (.iload_n 3, 1) := by decide +kernel
theorem d_Ranking_group_13 : decode b_Ranking_group 13 = .ok (.ifCond .lt 107, 3) := by decide +kernel
theorem d_Ranking_group_16 : decode b_Ranking_group 16 = .ok (.aload_n 0, 1) := by decide +kernel
theorem d_Ranking_group_17 : decode b_Ranking_group 17 = .ok (.getfield 9, 3) := by decide +kernel
theorem d_Ranking_group_20 : decode b_Ranking_group 20 = .ok (.iload_n 3, 1) := by decide +kernel
theorem d_Ranking_group_21 : decode b_Ranking_group 21 = .ok (.iaload, 1) := by decide +kernel
theorem d_Ranking_group_22 : decode b_Ranking_group 22 = .ok (.istore 4, 2) := by decide +kernel
theorem d_Ranking_group_24 : decode b_Ranking_group 24 = .ok (.iconst 0, 1) := by decide +kernel
theorem d_Ranking_group_25 : decode b_Ranking_group 25 = .ok (.istore 5, 2) := by decide +kernel
theorem d_Ranking_group_27 : decode b_Ranking_group 27 = .ok (.iload 5, 2) := by decide +kernel
theorem d_Ranking_group_29 : decode b_Ranking_group 29 = .ok (.aload_n 0, 1) := by decide +kernel
theorem d_Ranking_group_30 : decode b_Ranking_group 30 = .ok (.getfield 26, 3) := by decide +kernel
theorem d_Ranking_group_33 : decode b_Ranking_group 33 = .ok (.if_icmp .ge 28, 3) := by decide +kernel
theorem d_Ranking_group_36 : decode b_Ranking_group 36 = .ok (.aload_n 1, 1) := by decide +kernel
theorem d_Ranking_group_37 : decode b_Ranking_group 37 = .ok (.iload_n 2, 1) := by decide +kernel
theorem d_Ranking_group_38 : decode b_Ranking_group 38 = .ok (.iload 4, 2) := by decide +kernel
theorem d_Ranking_group_40 : decode b_Ranking_group 40 = .ok (.aload_n 0, 1) := by decide +kernel
theorem d_Ranking_group_41 : decode b_Ranking_group 41 = .ok (.getfield 22, 3) := by decide +kernel
theorem d_Ranking_group_44 : decode b_Ranking_group 44 = .ok (.iload 5, 2) := by decide +kernel
theorem d_Ranking_group_46 : decode b_Ranking_group 46 = .ok (.laload, 1) := by decide +kernel
theorem d_Ranking_group_47 : decode b_Ranking_group 47 = .ok (.invokevirtual 37, 3) := by decide +kernel
theorem d_Ranking_group_50 : decode b_Ranking_group 50 = .ok (.lconst 0, 1) := by decide +kernel
theorem d_Ranking_group_51 : decode b_Ranking_group 51 = .ok (.lcmp, 1) := by decide +kernel
theorem d_Ranking_group_52 : decode b_Ranking_group 52 = .ok (.ifCond .eq 9, 3) := by decide +kernel
theorem d_Ranking_group_55 : decode b_Ranking_group 55 = .ok (.iinc 5 1, 3) := by decide +kernel
theorem d_Ranking_group_58 : decode b_Ranking_group 58 = .ok (.goto (-31), 3) := by decide +kernel
theorem d_Ranking_group_61 : decode b_Ranking_group 61 = .ok (.iload 5, 2) := by decide +kernel
theorem d_Ranking_group_63 : decode b_Ranking_group 63 = .ok (.aload_n 0, 1) := by decide +kernel
theorem d_Ranking_group_64 : decode b_Ranking_group 64 = .ok (.getfield 26, 3) := by decide +kernel
theorem d_Ranking_group_67 : decode b_Ranking_group 67 = .ok (.if_icmp .lt 26, 3) := by decide +kernel
theorem d_Ranking_group_70 : decode b_Ranking_group 70 = .ok (.iload 5, 2) := by decide +kernel
theorem d_Ranking_group_72 : decode b_Ranking_group 72 = .ok (.bipush 40, 2) := by decide +kernel
theorem d_Ranking_group_74 : decode b_Ranking_group 74 = .ok (.if_icmp .ge 19, 3) := by decide +kernel
theorem d_Ranking_group_77 : decode b_Ranking_group 77 = .ok (.aload_n 0, 1) := by decide +kernel
theorem d_Ranking_group_78 : decode b_Ranking_group 78 = .ok (.getfield 22, 3) := by decide +kernel
theorem d_Ranking_group_81 : decode b_Ranking_group 81 = .ok (.iload 5, 2) := by decide +kernel
theorem d_Ranking_group_83 : decode b_Ranking_group 83 = .ok (.lconst 0, 1) := by decide +kernel
theorem d_Ranking_group_84 : decode b_Ranking_group 84 = .ok (.lastore, 1) := by decide +kernel
theorem d_Ranking_group_85 : decode b_Ranking_group 85 = .ok (.aload_n 0, 1) := by decide +kernel
theorem d_Ranking_group_86 : decode b_Ranking_group 86 = .ok (.iload 5, 2) := by decide +kernel
theorem d_Ranking_group_88 : decode b_Ranking_group 88 = .ok (.iconst 1, 1) := by decide +kernel
theorem d_Ranking_group_89 : decode b_Ranking_group 89 = .ok (.iadd, 1) := by decide +kernel
theorem d_Ranking_group_90 : decode b_Ranking_group 90 = .ok (.putfield 26, 3) := by decide +kernel
theorem d_Ranking_group_93 : decode b_Ranking_group 93 = .ok (.iload 5, 2) := by decide +kernel
theorem d_Ranking_group_95 : decode b_Ranking_group 95 = .ok (.bipush 40, 2) := by decide +kernel
theorem d_Ranking_group_97 : decode b_Ranking_group 97 = .ok (.if_icmp .ge 17, 3) := by decide +kernel
theorem d_Ranking_group_100 : decode b_Ranking_group 100 = .ok (.aload_n 0, 1) := by decide +kernel
theorem d_Ranking_group_101 : decode b_Ranking_group 101 = .ok (.getfield 22, 3) := by decide +kernel
theorem d_Ranking_group_104 : decode b_Ranking_group 104 = .ok (.iload 5, 2) := by decide +kernel
theorem d_Ranking_group_106 : decode b_Ranking_group 106 = .ok (.dup2, 1) := by decide +kernel
theorem d_Ranking_group_107 : decode b_Ranking_group 107 = .ok (.laload, 1) := by decide +kernel
theorem d_Ranking_group_108 : decode b_Ranking_group 108 = .ok (.lconst 1, 1) := by decide +kernel
theorem d_Ranking_group_109 : decode b_Ranking_group 109 = .ok (.iload 4, 2) := by decide +kernel
theorem d_Ranking_group_111 : decode b_Ranking_group 111 = .ok (.lshl, 1) := by decide +kernel
theorem d_Ranking_group_112 : decode b_Ranking_group 112 = .ok (.lor, 1) := by decide +kernel
theorem d_Ranking_group_113 : decode b_Ranking_group 113 = .ok (.lastore, 1) := by decide +kernel
theorem d_Ranking_group_114 : decode b_Ranking_group 114 = .ok (.iinc 3 (-1), 3) := by decide +kernel
theorem d_Ranking_group_117 : decode b_Ranking_group 117 = .ok (.goto (-105), 3) := by decide +kernel
theorem d_Ranking_group_120 : decode b_Ranking_group 120 = .ok (.return_, 1) := by decide +kernel
def B_Ranking_group_61 (k12 : Nat → Int32 → Int32 → Sto → Option (Unit × Sto)) (v1 : Nat) (v2 : Int32) (v3 : Int32) (v4 : Int32) (v5 : Int32) (σ : Sto) : Option (Unit × Sto) :=
  (if v5 < (gI σ 17 4) then (if (40 : Int32) ≤ v5 then k12 v1 v2 (v3 + (-1 : Int32)) σ
  else (if inb v5 40 = true then (if inb v5 40 = true then (lt1 (sL σ 19 (Int32.toNatClampNeg v5) ((gL σ 19 (Int32.toNatClampNeg v5)) ||| (lsh (1 : Int64) v4))) fun σ4 => k12 v1 v2 (v3 + (-1 : Int32)) σ4) else none) else none))
 else (if (40 : Int32) ≤ v5 then (if (40 : Int32) ≤ v5 then k12 v1 v2 (v3 + (-1 : Int32)) σ
   else (if inb v5 40 = true then (if inb v5 40 = true then (lt1 (sL σ 19 (Int32.toNatClampNeg v5) ((gL σ 19 (Int32.toNatClampNeg v5)) ||| (lsh (1 : Int64) v4))) fun σ5 => k12 v1 v2 (v3 + (-1 : Int32)) σ5) else none) else none))
  else (if inb v5 40 = true then (lt1 (sI (sL σ 19 (Int32.toNatClampNeg v5) (0 : Int64)) 17 4 (v5 + (1 : Int32))) fun σ6 => (if (40 : Int32) ≤ v5 then k12 v1 v2 (v3 + (-1 : Int32)) σ6
   else (if inb v5 40 = true then (if inb v5 40 = true then (lt1 (sL σ6 19 (Int32.toNatClampNeg v5) ((gL σ6 19 (Int32.toNatClampNeg v5)) ||| (lsh (1 : Int64) v4))) fun σ7 => k12 v1 v2 (v3 + (-1 : Int32)) σ7) else none) else none))) else none)))
set_option maxHeartbeats 4000000 in
set_option maxRecDepth 100000 in
theorem vB_Ranking_group_61 {X : Xt} {E : En} (g : GG X E 3 b_Ranking_group R_Ranking 6) {k12 : Nat → Int32 → Int32 → Sto → Option (Unit × Sto)} (hk12 : ∀ (v1 : Nat) (v2 : Int32) (v3 : Int32) (hv1 : cls v1 = 4) (σ : Sto), VV X E b_Ranking_group 6 eU 12 [(0, .ref (E.2.1 17)), (1, .ref (E.2.1 v1)), (2, .int v2), (3, .int v3)] [] σ (k12 v1 v2 v3 σ)) (v1 : Nat) (v2 : Int32) (v3 : Int32) (v4 : Int32) (v5 : Int32) (hv1 : cls v1 = 4) (σ : Sto) : VV X E b_Ranking_group 6 eU 61 [(0, .ref (E.2.1 17)), (1, .ref (E.2.1 v1)), (2, .int v2), (3, .int v3), (4, .int v4), (5, .int v5)] [] σ (B_Ranking_group_61 k12 v1 v2 v3 v4 v5 σ) := by
  unfold B_Ranking_group_61
  refine v_iload 5 g d_Ranking_group_61 rfl ?_
  refine v_aload_n 0 g d_Ranking_group_63 rfl ?_
  refine v_getI g ff_Ranking_26 rfl rfl d_Ranking_group_64 ?_
  refine v_icmp_lt 93 g d_Ranking_group_67 (by decide) (fun _ => ?_) (fun _ => ?_)
  · refine v_iload 5 g d_Ranking_group_93 rfl ?_
    refine v_bipush (v := (40 : Int32)) g d_Ranking_group_95 (by decide +kernel) ?_
    refine v_icmp_ge 114 g d_Ranking_group_97 (by decide) (fun _ => ?_) (fun _ => ?_)
    · refine v_iinc 3 [(3, .int (v3 + (-1 : Int32))), (0, .ref (E.2.1 17)), (1, .ref (E.2.1 v1)), (2, .int v2), (4, .int v4), (5, .int v5)] g d_Ranking_group_114 rfl (v := (-1 : Int32)) (by decide +kernel) (by decide) rfl ?_
      refine v_goto 12 g d_Ranking_group_117 (by decide) ?_
      exact v_sub [1,2,3,0] rfl (hk12 v1 v2 (v3 + (-1 : Int32)) hv1 σ)
    · refine v_aload_n 0 g d_Ranking_group_100 rfl ?_
      refine v_getR 19 g ff_Ranking_22 rfl rfl rfl d_Ranking_group_101 ?_
      refine v_iload 5 g d_Ranking_group_104 rfl ?_
      refine v_dup2_11 g d_Ranking_group_106 rfl rfl ?_
      refine v_lald g rfl rfl d_Ranking_group_107 (fun _ => ?_)
      refine v_lconst (v := (1 : Int64)) g d_Ranking_group_108 (by decide +kernel) ?_
      refine v_iload 4 g d_Ranking_group_109 rfl ?_
      refine v_lshl g d_Ranking_group_111 ?_
      refine v_lor g d_Ranking_group_112 ?_
      refine v_last g rfl rfl d_Ranking_group_113 (fun _ => ?_)
      refine v_nlet (fun σ4 eσ4 => ?_)
      rw [← eσ4]
      refine v_iinc 3 [(3, .int (v3 + (-1 : Int32))), (0, .ref (E.2.1 17)), (1, .ref (E.2.1 v1)), (2, .int v2), (4, .int v4), (5, .int v5)] g d_Ranking_group_114 rfl (v := (-1 : Int32)) (by decide +kernel) (by decide) rfl ?_
      refine v_goto 12 g d_Ranking_group_117 (by decide) ?_
      exact v_sub [1,2,3,0] rfl (hk12 v1 v2 (v3 + (-1 : Int32)) hv1 σ4)
  · refine v_iload 5 g d_Ranking_group_70 rfl ?_
    refine v_bipush (v := (40 : Int32)) g d_Ranking_group_72 (by decide +kernel) ?_
    refine v_icmp_ge 93 g d_Ranking_group_74 (by decide) (fun _ => ?_) (fun _ => ?_)
    · refine v_iload 5 g d_Ranking_group_93 rfl ?_
      refine v_bipush (v := (40 : Int32)) g d_Ranking_group_95 (by decide +kernel) ?_
      refine v_icmp_ge 114 g d_Ranking_group_97 (by decide) (fun _ => ?_) (fun _ => ?_)
      · refine v_iinc 3 [(3, .int (v3 + (-1 : Int32))), (0, .ref (E.2.1 17)), (1, .ref (E.2.1 v1)), (2, .int v2), (4, .int v4), (5, .int v5)] g d_Ranking_group_114 rfl (v := (-1 : Int32)) (by decide +kernel) (by decide) rfl ?_
        refine v_goto 12 g d_Ranking_group_117 (by decide) ?_
        exact v_sub [1,2,3,0] rfl (hk12 v1 v2 (v3 + (-1 : Int32)) hv1 σ)
      · refine v_aload_n 0 g d_Ranking_group_100 rfl ?_
        refine v_getR 19 g ff_Ranking_22 rfl rfl rfl d_Ranking_group_101 ?_
        refine v_iload 5 g d_Ranking_group_104 rfl ?_
        refine v_dup2_11 g d_Ranking_group_106 rfl rfl ?_
        refine v_lald g rfl rfl d_Ranking_group_107 (fun _ => ?_)
        refine v_lconst (v := (1 : Int64)) g d_Ranking_group_108 (by decide +kernel) ?_
        refine v_iload 4 g d_Ranking_group_109 rfl ?_
        refine v_lshl g d_Ranking_group_111 ?_
        refine v_lor g d_Ranking_group_112 ?_
        refine v_last g rfl rfl d_Ranking_group_113 (fun _ => ?_)
        refine v_nlet (fun σ5 eσ5 => ?_)
        rw [← eσ5]
        refine v_iinc 3 [(3, .int (v3 + (-1 : Int32))), (0, .ref (E.2.1 17)), (1, .ref (E.2.1 v1)), (2, .int v2), (4, .int v4), (5, .int v5)] g d_Ranking_group_114 rfl (v := (-1 : Int32)) (by decide +kernel) (by decide) rfl ?_
        refine v_goto 12 g d_Ranking_group_117 (by decide) ?_
        exact v_sub [1,2,3,0] rfl (hk12 v1 v2 (v3 + (-1 : Int32)) hv1 σ5)
    · refine v_aload_n 0 g d_Ranking_group_77 rfl ?_
      refine v_getR 19 g ff_Ranking_22 rfl rfl rfl d_Ranking_group_78 ?_
      refine v_iload 5 g d_Ranking_group_81 rfl ?_
      refine v_lconst (v := (0 : Int64)) g d_Ranking_group_83 (by decide +kernel) ?_
      refine v_last g rfl rfl d_Ranking_group_84 (fun _ => ?_)
      refine v_aload_n 0 g d_Ranking_group_85 rfl ?_
      refine v_iload 5 g d_Ranking_group_86 rfl ?_
      refine v_iconst (v := (1 : Int32)) g d_Ranking_group_88 (by decide +kernel) ?_
      refine v_iadd g d_Ranking_group_89 ?_
      refine v_putI g fp_Ranking_26 rfl rfl d_Ranking_group_90 ?_
      refine v_nlet (fun σ6 eσ6 => ?_)
      rw [← eσ6]
      refine v_iload 5 g d_Ranking_group_93 rfl ?_
      refine v_bipush (v := (40 : Int32)) g d_Ranking_group_95 (by decide +kernel) ?_
      refine v_icmp_ge 114 g d_Ranking_group_97 (by decide) (fun _ => ?_) (fun _ => ?_)
      · refine v_iinc 3 [(3, .int (v3 + (-1 : Int32))), (0, .ref (E.2.1 17)), (1, .ref (E.2.1 v1)), (2, .int v2), (4, .int v4), (5, .int v5)] g d_Ranking_group_114 rfl (v := (-1 : Int32)) (by decide +kernel) (by decide) rfl ?_
        refine v_goto 12 g d_Ranking_group_117 (by decide) ?_
        exact v_sub [1,2,3,0] rfl (hk12 v1 v2 (v3 + (-1 : Int32)) hv1 σ6)
      · refine v_aload_n 0 g d_Ranking_group_100 rfl ?_
        refine v_getR 19 g ff_Ranking_22 rfl rfl rfl d_Ranking_group_101 ?_
        refine v_iload 5 g d_Ranking_group_104 rfl ?_
        refine v_dup2_11 g d_Ranking_group_106 rfl rfl ?_
        refine v_lald g rfl rfl d_Ranking_group_107 (fun _ => ?_)
        refine v_lconst (v := (1 : Int64)) g d_Ranking_group_108 (by decide +kernel) ?_
        refine v_iload 4 g d_Ranking_group_109 rfl ?_
        refine v_lshl g d_Ranking_group_111 ?_
        refine v_lor g d_Ranking_group_112 ?_
        refine v_last g rfl rfl d_Ranking_group_113 (fun _ => ?_)
        refine v_nlet (fun σ7 eσ7 => ?_)
        rw [← eσ7]
        refine v_iinc 3 [(3, .int (v3 + (-1 : Int32))), (0, .ref (E.2.1 17)), (1, .ref (E.2.1 v1)), (2, .int v2), (4, .int v4), (5, .int v5)] g d_Ranking_group_114 rfl (v := (-1 : Int32)) (by decide +kernel) (by decide) rfl ?_
        refine v_goto 12 g d_Ranking_group_117 (by decide) ?_
        exact v_sub [1,2,3,0] rfl (hk12 v1 v2 (v3 + (-1 : Int32)) hv1 σ7)
def B_Ranking_group_27 (k12 : Nat → Int32 → Int32 → Sto → Option (Unit × Sto)) (k27 : Nat → Int32 → Int32 → Int32 → Int32 → Sto → Option (Unit × Sto)) (v1 : Nat) (v2 : Int32) (v3 : Int32) (v4 : Int32) (v5 : Int32) (σ : Sto) : Option (Unit × Sto) :=
  (if (gI σ 17 4) ≤ v5 then B_Ranking_group_61 k12 v1 v2 v3 v4 v5 σ
 else (if inb v5 40 = true then ((f_Net_fitting v1 v2 v4 (gL σ 19 (Int32.toNatClampNeg v5)) σ).bind fun q3 => (if q3.1 = (0 : Int64) then B_Ranking_group_61 k12 v1 v2 v3 v4 v5 q3.2
  else k27 v1 v2 v3 v4 (v5 + (1 : Int32)) q3.2)) else none))
set_option maxHeartbeats 4000000 in
set_option maxRecDepth 100000 in
theorem vB_Ranking_group_27 {X : Xt} {E : En} (g : GG X E 3 b_Ranking_group R_Ranking 6) {k12 : Nat → Int32 → Int32 → Sto → Option (Unit × Sto)} {k27 : Nat → Int32 → Int32 → Int32 → Int32 → Sto → Option (Unit × Sto)} (hk12 : ∀ (v1 : Nat) (v2 : Int32) (v3 : Int32) (hv1 : cls v1 = 4) (σ : Sto), VV X E b_Ranking_group 6 eU 12 [(0, .ref (E.2.1 17)), (1, .ref (E.2.1 v1)), (2, .int v2), (3, .int v3)] [] σ (k12 v1 v2 v3 σ)) (hk27 : ∀ (v1 : Nat) (v2 : Int32) (v3 : Int32) (v4 : Int32) (v5 : Int32) (hv1 : cls v1 = 4) (σ : Sto), VV X E b_Ranking_group 6 eU 27 [(0, .ref (E.2.1 17)), (1, .ref (E.2.1 v1)), (2, .int v2), (3, .int v3), (4, .int v4), (5, .int v5)] [] σ (k27 v1 v2 v3 v4 v5 σ)) (v1 : Nat) (v2 : Int32) (v3 : Int32) (v4 : Int32) (v5 : Int32) (hv1 : cls v1 = 4) (σ : Sto) : VV X E b_Ranking_group 6 eU 27 [(0, .ref (E.2.1 17)), (1, .ref (E.2.1 v1)), (2, .int v2), (3, .int v3), (4, .int v4), (5, .int v5)] [] σ (B_Ranking_group_27 k12 k27 v1 v2 v3 v4 v5 σ) := by
  unfold B_Ranking_group_27
  refine v_iload 5 g d_Ranking_group_27 rfl ?_
  refine v_aload_n 0 g d_Ranking_group_29 rfl ?_
  refine v_getI g ff_Ranking_26 rfl rfl d_Ranking_group_30 ?_
  refine v_icmp_ge 61 g d_Ranking_group_33 (by decide) (fun _ => ?_) (fun _ => ?_)
  · exact v_sub [0,1,2,3,4,5] rfl (vB_Ranking_group_61 g hk12 v1 v2 v3 v4 v5 hv1 σ)
  · refine v_aload_n 1 g d_Ranking_group_36 rfl ?_
    refine v_iload_n 2 g d_Ranking_group_37 rfl ?_
    refine v_iload 4 g d_Ranking_group_38 rfl ?_
    refine v_aload_n 0 g d_Ranking_group_40 rfl ?_
    refine v_getR 19 g ff_Ranking_22 rfl rfl rfl d_Ranking_group_41 ?_
    refine v_iload 5 g d_Ranking_group_44 rfl ?_
    refine v_lald g rfl rfl d_Ranking_group_46 (fun _ => ?_)
    refine v_callL (r_V (rest := []) [.int v2, .int v4, .long (gL σ 19 (Int32.toNatClampNeg v5))] g (m1 494 (by decide +kernel) (by decide +kernel)) yv_Net_fitting hv1 (fun r σ1 h => sp_Net_fitting g.2.2.1 hv1 h) rfl rfl (by decide) (Nat.le_of_ble_eq_true rfl) d_Ranking_group_47) (fun q3 => ?_)
    refine v_lconst (v := (0 : Int64)) g d_Ranking_group_50 (by decide +kernel) ?_
    refine v_lcmp_eq 61 g d_Ranking_group_51 d_Ranking_group_52 (by decide) (fun _ => ?_) (fun _ => ?_)
    · exact v_sub [0,1,2,3,4,5] rfl (vB_Ranking_group_61 g hk12 v1 v2 v3 v4 v5 hv1 q3.2)
    · refine v_iinc 5 [(5, .int (v5 + (1 : Int32))), (0, .ref (E.2.1 17)), (1, .ref (E.2.1 v1)), (2, .int v2), (3, .int v3), (4, .int v4)] g d_Ranking_group_55 rfl (v := (1 : Int32)) (by decide +kernel) (by decide) rfl ?_
      refine v_goto 27 g d_Ranking_group_58 (by decide) ?_
      exact v_sub [1,2,3,4,5,0] rfl (hk27 v1 v2 v3 v4 (v5 + (1 : Int32)) hv1 q3.2)
def L_Ranking_group_27 (k12 : Nat → Int32 → Int32 → Sto → Option (Unit × Sto)) : Nat → Nat → Int32 → Int32 → Int32 → Int32 → Sto → Option (Unit × Sto)
  | 0, _, _, _, _, _, _ => none
  | fu + 1, v1, v2, v3, v4, v5, σ => B_Ranking_group_27 k12 (L_Ranking_group_27 k12 fu) v1 v2 v3 v4 v5 σ
theorem vL_Ranking_group_27 {X : Xt} {E : En} (g : GG X E 3 b_Ranking_group R_Ranking 6) {k12 : Nat → Int32 → Int32 → Sto → Option (Unit × Sto)} (hk12 : ∀ (v1 : Nat) (v2 : Int32) (v3 : Int32) (hv1 : cls v1 = 4) (σ : Sto), VV X E b_Ranking_group 6 eU 12 [(0, .ref (E.2.1 17)), (1, .ref (E.2.1 v1)), (2, .int v2), (3, .int v3)] [] σ (k12 v1 v2 v3 σ)) (fu : Nat) : ∀ (v1 : Nat) (v2 : Int32) (v3 : Int32) (v4 : Int32) (v5 : Int32) (hv1 : cls v1 = 4) (σ : Sto), VV X E b_Ranking_group 6 eU 27 [(0, .ref (E.2.1 17)), (1, .ref (E.2.1 v1)), (2, .int v2), (3, .int v3), (4, .int v4), (5, .int v5)] [] σ (L_Ranking_group_27 k12 fu v1 v2 v3 v4 v5 σ) := by
  induction fu with
  | zero => intros; exact v_none
  | succ fu ih =>
    intro v1 v2 v3 v4 v5 hv1 σ
    exact vB_Ranking_group_27 g hk12 ih v1 v2 v3 v4 v5 hv1 σ
def B_Ranking_group_12 (k12 : Nat → Int32 → Int32 → Sto → Option (Unit × Sto)) (v1 : Nat) (v2 : Int32) (v3 : Int32) (σ : Sto) : Option (Unit × Sto) :=
  (if v3 < 0 then some ((), σ)
 else (if inb v3 40 = true then (lt1 (gI σ 18 (Int32.toNatClampNeg v3)) fun x2 => L_Ranking_group_27 k12 LF v1 v2 v3 x2 (0 : Int32) σ) else none))
set_option maxHeartbeats 4000000 in
set_option maxRecDepth 100000 in
theorem vB_Ranking_group_12 {X : Xt} {E : En} (g : GG X E 3 b_Ranking_group R_Ranking 6) {k12 : Nat → Int32 → Int32 → Sto → Option (Unit × Sto)} (hk12 : ∀ (v1 : Nat) (v2 : Int32) (v3 : Int32) (hv1 : cls v1 = 4) (σ : Sto), VV X E b_Ranking_group 6 eU 12 [(0, .ref (E.2.1 17)), (1, .ref (E.2.1 v1)), (2, .int v2), (3, .int v3)] [] σ (k12 v1 v2 v3 σ)) (v1 : Nat) (v2 : Int32) (v3 : Int32) (hv1 : cls v1 = 4) (σ : Sto) : VV X E b_Ranking_group 6 eU 12 [(0, .ref (E.2.1 17)), (1, .ref (E.2.1 v1)), (2, .int v2), (3, .int v3)] [] σ (B_Ranking_group_12 k12 v1 v2 v3 σ) := by
  unfold B_Ranking_group_12
  refine v_iload_n 3 g d_Ranking_group_12 rfl ?_
  refine v_if_lt 120 g d_Ranking_group_13 (by decide) (fun _ => ?_) (fun _ => ?_)
  · exact v_ret d_Ranking_group_120 rfl
  · refine v_aload_n 0 g d_Ranking_group_16 rfl ?_
    refine v_getR 18 g ff_Ranking_9 rfl rfl rfl d_Ranking_group_17 ?_
    refine v_iload_n 3 g d_Ranking_group_20 rfl ?_
    refine v_iald g rfl rfl d_Ranking_group_21 (fun _ => ?_)
    refine v_nlet (fun x2 ex2 => ?_)
    rw [← ex2]
    refine v_istore [(4, .int x2), (0, .ref (E.2.1 17)), (1, .ref (E.2.1 v1)), (2, .int v2), (3, .int v3)] g d_Ranking_group_22 (by decide) rfl ?_
    refine v_iconst (v := (0 : Int32)) g d_Ranking_group_24 (by decide +kernel) ?_
    refine v_istore [(5, .int (0 : Int32)), (4, .int x2), (0, .ref (E.2.1 17)), (1, .ref (E.2.1 v1)), (2, .int v2), (3, .int v3)] g d_Ranking_group_25 (by decide) rfl ?_
    exact v_sub [2,3,4,5,1,0] rfl (vL_Ranking_group_27 g hk12 LF v1 v2 v3 x2 (0 : Int32) hv1 σ)
def L_Ranking_group_12 : Nat → Nat → Int32 → Int32 → Sto → Option (Unit × Sto)
  | 0, _, _, _, _ => none
  | fu + 1, v1, v2, v3, σ => B_Ranking_group_12 (L_Ranking_group_12 fu) v1 v2 v3 σ
theorem vL_Ranking_group_12 {X : Xt} {E : En} (g : GG X E 3 b_Ranking_group R_Ranking 6) (fu : Nat) : ∀ (v1 : Nat) (v2 : Int32) (v3 : Int32) (hv1 : cls v1 = 4) (σ : Sto), VV X E b_Ranking_group 6 eU 12 [(0, .ref (E.2.1 17)), (1, .ref (E.2.1 v1)), (2, .int v2), (3, .int v3)] [] σ (L_Ranking_group_12 fu v1 v2 v3 σ) := by
  induction fu with
  | zero => intros; exact v_none
  | succ fu ih =>
    intro v1 v2 v3 hv1 σ
    exact vB_Ranking_group_12 g ih v1 v2 v3 hv1 σ
def B_Ranking_group_0 (a1 : Nat) (a2 : Int32) (σ : Sto) : Option (Unit × Sto) :=
  (lt1 ((gI (sI σ 17 4 (0 : Int32)) 17 1) - (1 : Int32)) fun x1 => L_Ranking_group_12 LF a1 a2 x1 (sI σ 17 4 (0 : Int32)))
set_option maxHeartbeats 4000000 in
set_option maxRecDepth 100000 in
theorem vB_Ranking_group_0 {X : Xt} {E : En} (g : GG X E 3 b_Ranking_group R_Ranking 6) (a1 : Nat) (a2 : Int32) (ha1 : cls a1 = 4) (σ : Sto) : VV X E b_Ranking_group 6 eU 0 [(0, .ref (E.2.1 17)), (1, .ref (E.2.1 a1)), (2, .int a2)] [] σ (B_Ranking_group_0 a1 a2 σ) := by
  unfold B_Ranking_group_0
  refine v_aload_n 0 g d_Ranking_group_0 rfl ?_
  refine v_iconst (v := (0 : Int32)) g d_Ranking_group_1 (by decide +kernel) ?_
  refine v_putI g fp_Ranking_26 rfl rfl d_Ranking_group_2 ?_
  refine v_aload_n 0 g d_Ranking_group_5 rfl ?_
  refine v_getI g ff_Ranking_15 rfl rfl d_Ranking_group_6 ?_
  refine v_iconst (v := (1 : Int32)) g d_Ranking_group_9 (by decide +kernel) ?_
  refine v_isub g d_Ranking_group_10 ?_
  refine v_nlet (fun x1 ex1 => ?_)
  rw [← ex1]
  refine v_istore_n [(3, .int x1), (0, .ref (E.2.1 17)), (1, .ref (E.2.1 a1)), (2, .int a2)] g d_Ranking_group_11 (by decide) rfl ?_
  exact v_sub [1,2,3,0] rfl (vL_Ranking_group_12 g LF a1 a2 x1 ha1 (sI σ 17 4 (0 : Int32)))
def f_Ranking_group (a1 : Nat) (a2 : Int32) (σ : Sto) : Option (Unit × Sto) := B_Ranking_group_0 a1 a2 σ
theorem sp_Ranking_group {l : Launch} {E : En} (hE : Dj E) {a1 : Nat} {a2 : Int32} (ha1 : cls a1 = 4) {σ : Sto} {r : Unit} {σ' : Sto} (h : f_Ranking_group a1 a2 σ = some (r, σ')) : Ct l E y_Ranking_group (wsM y_Ranking_group b_Ranking_group 6 (none)) 3 [.ref (E.2.1 17), .ref (E.2.1 a1), .int a2] σ (eU r) σ' :=
  ct_of hE (by decide +kernel) (Nat.le_of_ble_eq_true rfl) (fun _ => Or.inr (Or.inr (Or.inr (Or.inl ⟨rfl, rfl⟩)))) (fun X _ g => vB_Ranking_group_0 g a1 a2 ha1 σ) r σ' h
/-! method FittingRings$Judge.grouped(IJ)LFittingRings$Ranking; -/
theorem yv_Judge_grouped : YV y_Judge_grouped b_Judge_grouped 4 (some (.object "FittingRings$Ranking")) 2 2 := ⟨m1 509 (by decide +kernel) (by decide +kernel), m1 510 (by decide +kernel) (by decide +kernel), ini_Judge, m1 511 (by decide +kernel) (by decide +kernel), ⟨by decide +kernel, by decide +kernel, by decide +kernel⟩, by decide, by decide, T_Judge, 2, rfl⟩
theorem d_Judge_grouped_0 : decode b_Judge_grouped 0 = .ok (.aload_n 0, 1) := by decide +kernel
theorem d_Judge_grouped_1 : decode b_Judge_grouped 1 = .ok (.getfield 12, 3) := by decide +kernel
theorem d_Judge_grouped_4 : decode b_Judge_grouped 4 = .ok (.aload_n 0, 1) := by decide +kernel
theorem d_Judge_grouped_5 : decode b_Judge_grouped 5 = .ok (.getfield 18, 3) := by decide +kernel
theorem d_Judge_grouped_8 : decode b_Judge_grouped 8 = .ok (.iload_n 1, 1) := by decide +kernel
theorem d_Judge_grouped_9 : decode b_Judge_grouped 9 = .ok (.lload_n 2, 1) := by decide +kernel
theorem d_Judge_grouped_10 : decode b_Judge_grouped 10 = .ok (.invokevirtual 22, 3) := by decide +kernel
theorem d_Judge_grouped_13 : decode b_Judge_grouped 13 = .ok (.aload_n 0, 1) := by decide +kernel
theorem d_Judge_grouped_14 : decode b_Judge_grouped 14 = .ok (.getfield 12, 3) := by decide +kernel
theorem d_Judge_grouped_17 : decode b_Judge_grouped 17 = .ok (.aload_n 0, 1) := by decide +kernel
theorem d_Judge_grouped_18 : decode b_Judge_grouped 18 = .ok (.getfield 18, 3) := by decide +kernel
theorem d_Judge_grouped_21 : decode b_Judge_grouped 21 = .ok (.iload_n 1, 1) := by decide +kernel
theorem d_Judge_grouped_22 : decode b_Judge_grouped 22 = .ok (.invokevirtual 26, 3) := by decide +kernel
theorem d_Judge_grouped_25 : decode b_Judge_grouped 25 = .ok (.aload_n 0, 1) := by decide +kernel
theorem d_Judge_grouped_26 : decode b_Judge_grouped 26 = .ok (.getfield 12, 3) := by decide +kernel
theorem d_Judge_grouped_29 : decode b_Judge_grouped 29 = .ok (.areturn, 1) := by decide +kernel
def B_Judge_grouped_0 (a1 : Int32) (a2 : Int64) (σ : Sto) : Option (Unit × Sto) :=
  ((f_Ranking_rank 1 a1 a2 σ).bind fun q1 => ((f_Ranking_group 1 a1 q1.2).bind fun q2 => some ((), q2.2)))
set_option maxHeartbeats 4000000 in
set_option maxRecDepth 100000 in
theorem vB_Judge_grouped_0 {X : Xt} {E : En} (g : GG X E 4 b_Judge_grouped R_Judge 4) (a1 : Int32) (a2 : Int64) (σ : Sto) : VV X E b_Judge_grouped 4 (eC E 17) 0 [(0, .ref (E.2.1 16)), (1, .int a1), (2, .long a2)] [] σ (B_Judge_grouped_0 a1 a2 σ) := by
  unfold B_Judge_grouped_0
  refine v_aload_n 0 g d_Judge_grouped_0 rfl ?_
  refine v_getR 17 g ff_Judge_12 rfl rfl rfl d_Judge_grouped_1 ?_
  refine v_aload_n 0 g d_Judge_grouped_4 rfl ?_
  refine v_getR 1 g ff_Judge_18 rfl rfl rfl d_Judge_grouped_5 ?_
  refine v_iload_n 1 g d_Judge_grouped_8 rfl ?_
  refine v_lload_n 2 g d_Judge_grouped_9 rfl ?_
  refine v_callU (r_V (rest := []) [.ref (E.2.1 1), .int a1, .long a2] g (m1 490 (by decide +kernel) (by decide +kernel)) yv_Ranking_rank rfl (fun r σ1 h => sp_Ranking_rank g.2.2.1 rfl h) rfl rfl (by decide) (Nat.le_of_ble_eq_true rfl) d_Judge_grouped_10) (fun q1 => ?_)
  refine v_aload_n 0 g d_Judge_grouped_13 rfl ?_
  refine v_getR 17 g ff_Judge_12 rfl rfl rfl d_Judge_grouped_14 ?_
  refine v_aload_n 0 g d_Judge_grouped_17 rfl ?_
  refine v_getR 1 g ff_Judge_18 rfl rfl rfl d_Judge_grouped_18 ?_
  refine v_iload_n 1 g d_Judge_grouped_21 rfl ?_
  refine v_callU (r_V (rest := []) [.ref (E.2.1 1), .int a1] g (m1 512 (by decide +kernel) (by decide +kernel)) yv_Ranking_group rfl (fun r σ1 h => sp_Ranking_group g.2.2.1 rfl h) rfl rfl (by decide) (Nat.le_of_ble_eq_true rfl) d_Judge_grouped_22) (fun q2 => ?_)
  refine v_aload_n 0 g d_Judge_grouped_25 rfl ?_
  refine v_getR 17 g ff_Judge_12 rfl rfl rfl d_Judge_grouped_26 ?_
  exact v_ret d_Judge_grouped_29 rfl
def f_Judge_grouped (a1 : Int32) (a2 : Int64) (σ : Sto) : Option (Unit × Sto) := B_Judge_grouped_0 a1 a2 σ
theorem sp_Judge_grouped {l : Launch} {E : En} (hE : Dj E) {a1 : Int32} {a2 : Int64} {σ : Sto} {r : Unit} {σ' : Sto} (h : f_Judge_grouped a1 a2 σ = some (r, σ')) : Ct l E y_Judge_grouped (wsM y_Judge_grouped b_Judge_grouped 4 (some (.object "FittingRings$Ranking"))) 4 [.ref (E.2.1 16), .int a1, .long a2] σ ((eC E 17) r) σ' :=
  ct_of hE (by decide +kernel) (Nat.le_of_ble_eq_true rfl) (fun x => Or.inr (Or.inr (Or.inr (Or.inr ⟨⟨_, rfl⟩, _, rfl⟩)))) (fun X _ g => vB_Judge_grouped_0 g a1 a2 σ) r σ' h
/-! method FittingRings$Ranking.greedyRing(LFittingRings$Net;I)J -/
theorem yv_Ranking_greedyRing : YV y_Ranking_greedyRing b_Ranking_greedyRing 6 (some .long) 2 6 := ⟨m1 522 (by decide +kernel) (by decide +kernel), m1 523 (by decide +kernel) (by decide +kernel), ini_Ranking, m1 524 (by decide +kernel) (by decide +kernel), ⟨by decide +kernel, by decide +kernel, by decide +kernel⟩, by decide, by decide, T_Ranking, 6, rfl⟩
theorem d_Ranking_greedyRing_0 : decode b_Ranking_greedyRing 0 = .ok (.lconst 0, 1) := by decide +kernel
theorem d_Ranking_greedyRing_1 : decode b_Ranking_greedyRing 1 = .ok (.lstore_n 3, 1) := by decide +kernel
theorem d_Ranking_greedyRing_2 : decode b_Ranking_greedyRing 2 = .ok (.aload_n 0, 1) := by decide +kernel
theorem d_Ranking_greedyRing_3 : decode b_Ranking_greedyRing 3 = .ok (.getfield 15, 3) := by decide +kernel
theorem d_Ranking_greedyRing_6 : decode b_Ranking_greedyRing 6 = .ok (.iconst 1, 1) := by decide +kernel
theorem d_Ranking_greedyRing_7 : decode b_Ranking_greedyRing 7 = .ok (.isub, 1) := by decide +kernel
theorem d_Ranking_greedyRing_8 : decode b_Ranking_greedyRing 8 = .ok (.istore 5, 2) := by decide +kernel
theorem d_Ranking_greedyRing_10 : decode b_Ranking_greedyRing 10 = .ok (.iload 5, 2) := by decide +kernel
theorem d_Ranking_greedyRing_12 : decode b_Ranking_greedyRing 12 = .ok (.ifCond .lt 39, 3) := by decide +kernel
theorem d_Ranking_greedyRing_15 : decode b_Ranking_greedyRing 15 = .ok (.aload_n 1, 1) := by decide +kernel
theorem d_Ranking_greedyRing_16 : decode b_Ranking_greedyRing 16 = .ok (.iload_n 2, 1) := by decide +kernel
theorem d_Ranking_greedyRing_17 : decode b_Ranking_greedyRing 17 = .ok (.aload_n 0, 1) := by decide +kernel
theorem d_Ranking_greedyRing_18 : decode b_Ranking_greedyRing 18 = .ok (.getfield 9, 3) := by decide +kernel
theorem d_Ranking_greedyRing_21 : decode b_Ranking_greedyRing 21 = .ok (.iload 5, 2) := by decide +kernel
theorem d_Ranking_greedyRing_23 : decode b_Ranking_greedyRing 23 = .ok (.iaload, 1) := by decide +kernel
theorem d_Ranking_greedyRing_24 : decode b_Ranking_greedyRing 24 = .ok (.lload_n 3, 1) := by decide +kernel
theorem d_Ranking_greedyRing_25 : decode b_Ranking_greedyRing 25 = .ok (.invokevirtual 37, 3) := by decide +kernel
theorem d_Ranking_greedyRing_28 : decode b_Ranking_greedyRing 28 = .ok (.lload_n 3, 1) := by decide +kernel
theorem d_Ranking_greedyRing_29 : decode b_Ranking_greedyRing 29 = .ok (.lcmp, 1) := by decide +kernel
theorem d_Ranking_greedyRing_30 : decode b_Ranking_greedyRing 30 = .ok (.ifCond .ne 15, 3) := by decide +kernel
theorem d_Ranking_greedyRing_33 : decode b_Ranking_greedyRing 33 = .ok (.lload_n 3, 1) := by decide +kernel
theorem d_Ranking_greedyRing_34 : decode b_Ranking_greedyRing 34 = .ok (.lconst 1, 1) := by decide +kernel
theorem d_Ranking_greedyRing_35 : decode b_Ranking_greedyRing 35 = .ok (.aload_n 0, 1) := by decide +kernel
theorem d_Ranking_greedyRing_36 : decode b_Ranking_greedyRing 36 = .ok (.getfield 9, 3) := by decide +kernel
theorem d_Ranking_greedyRing_39 : decode b_Ranking_greedyRing 39 = .ok (.iload 5, 2) := by decide +kernel
theorem d_Ranking_greedyRing_41 : decode b_Ranking_greedyRing 41 = .ok (.iaload, 1) := by decide +kernel
theorem d_Ranking_greedyRing_42 : decode b_Ranking_greedyRing 42 = .ok (.lshl, 1) := by decide +kernel
theorem d_Ranking_greedyRing_43 : decode b_Ranking_greedyRing 43 = .ok (.lor, 1) := by decide +kernel
theorem d_Ranking_greedyRing_44 : decode b_Ranking_greedyRing 44 = .ok (.lstore_n 3, 1) := by decide +kernel
theorem d_Ranking_greedyRing_45 : decode b_Ranking_greedyRing 45 = .ok (.iinc 5 (-1), 3) := by decide +kernel
theorem d_Ranking_greedyRing_48 : decode b_Ranking_greedyRing 48 = .ok (.goto (-38), 3) := by decide +kernel
theorem d_Ranking_greedyRing_51 : decode b_Ranking_greedyRing 51 = .ok (.lload_n 3, 1) := by decide +kernel
theorem d_Ranking_greedyRing_52 : decode b_Ranking_greedyRing 52 = .ok (.lreturn, 1) := by decide +kernel
def B_Ranking_greedyRing_10 (k10 : Nat → Int32 → Int64 → Int32 → Sto → Option (Int64 × Sto)) (v1 : Nat) (v2 : Int32) (v3 : Int64) (v5 : Int32) (σ : Sto) : Option (Int64 × Sto) :=
  (if v5 < 0 then some (v3, σ)
 else (if inb v5 40 = true then ((f_Net_fitting v1 v2 (gI σ 18 (Int32.toNatClampNeg v5)) v3 σ).bind fun q2 => (if q2.1 = v3 then (if inb v5 40 = true then (lt1 (v3 ||| (lsh (1 : Int64) (gI q2.2 18 (Int32.toNatClampNeg v5)))) fun x3 => k10 v1 v2 x3 (v5 + (-1 : Int32)) q2.2) else none)
  else k10 v1 v2 v3 (v5 + (-1 : Int32)) q2.2)) else none))
set_option maxHeartbeats 4000000 in
set_option maxRecDepth 100000 in
theorem vB_Ranking_greedyRing_10 {X : Xt} {E : En} (g : GG X E 3 b_Ranking_greedyRing R_Ranking 6) {k10 : Nat → Int32 → Int64 → Int32 → Sto → Option (Int64 × Sto)} (hk10 : ∀ (v1 : Nat) (v2 : Int32) (v3 : Int64) (v5 : Int32) (hv1 : cls v1 = 4) (σ : Sto), VV X E b_Ranking_greedyRing 6 eL 10 [(0, .ref (E.2.1 17)), (1, .ref (E.2.1 v1)), (2, .int v2), (3, .long v3), (5, .int v5)] [] σ (k10 v1 v2 v3 v5 σ)) (v1 : Nat) (v2 : Int32) (v3 : Int64) (v5 : Int32) (hv1 : cls v1 = 4) (σ : Sto) : VV X E b_Ranking_greedyRing 6 eL 10 [(0, .ref (E.2.1 17)), (1, .ref (E.2.1 v1)), (2, .int v2), (3, .long v3), (5, .int v5)] [] σ (B_Ranking_greedyRing_10 k10 v1 v2 v3 v5 σ) := by
  unfold B_Ranking_greedyRing_10
  refine v_iload 4 g d_Ranking_greedyRing_10 rfl ?_
  refine v_if_lt 51 g d_Ranking_greedyRing_12 (by decide) (fun _ => ?_) (fun _ => ?_)
  · refine v_lload_n 3 g d_Ranking_greedyRing_51 rfl ?_
    exact v_ret d_Ranking_greedyRing_52 rfl
  · refine v_aload_n 1 g d_Ranking_greedyRing_15 rfl ?_
    refine v_iload_n 2 g d_Ranking_greedyRing_16 rfl ?_
    refine v_aload_n 0 g d_Ranking_greedyRing_17 rfl ?_
    refine v_getR 18 g ff_Ranking_9 rfl rfl rfl d_Ranking_greedyRing_18 ?_
    refine v_iload 4 g d_Ranking_greedyRing_21 rfl ?_
    refine v_iald g rfl rfl d_Ranking_greedyRing_23 (fun _ => ?_)
    refine v_lload_n 3 g d_Ranking_greedyRing_24 rfl ?_
    refine v_callL (r_V (rest := []) [.int v2, .int (gI σ 18 (Int32.toNatClampNeg v5)), .long v3] g (m1 494 (by decide +kernel) (by decide +kernel)) yv_Net_fitting hv1 (fun r σ1 h => sp_Net_fitting g.2.2.1 hv1 h) rfl rfl (by decide) (Nat.le_of_ble_eq_true rfl) d_Ranking_greedyRing_25) (fun q2 => ?_)
    refine v_lload_n 3 g d_Ranking_greedyRing_28 rfl ?_
    refine v_lcmp_ne 45 g d_Ranking_greedyRing_29 d_Ranking_greedyRing_30 (by decide) (fun _ => ?_) (fun _ => ?_)
    · refine v_iinc 4 [(5, .int (v5 + (-1 : Int32))), (0, .ref (E.2.1 17)), (1, .ref (E.2.1 v1)), (2, .int v2), (3, .long v3)] g d_Ranking_greedyRing_45 rfl (v := (-1 : Int32)) (by decide +kernel) (by decide) rfl ?_
      refine v_goto 10 g d_Ranking_greedyRing_48 (by decide) ?_
      exact v_sub [1,2,3,4,0] rfl (hk10 v1 v2 v3 (v5 + (-1 : Int32)) hv1 q2.2)
    · refine v_lload_n 3 g d_Ranking_greedyRing_33 rfl ?_
      refine v_lconst (v := (1 : Int64)) g d_Ranking_greedyRing_34 (by decide +kernel) ?_
      refine v_aload_n 0 g d_Ranking_greedyRing_35 rfl ?_
      refine v_getR 18 g ff_Ranking_9 rfl rfl rfl d_Ranking_greedyRing_36 ?_
      refine v_iload 4 g d_Ranking_greedyRing_39 rfl ?_
      refine v_iald g rfl rfl d_Ranking_greedyRing_41 (fun _ => ?_)
      refine v_lshl g d_Ranking_greedyRing_42 ?_
      refine v_lor g d_Ranking_greedyRing_43 ?_
      refine v_nlet (fun x3 ex3 => ?_)
      rw [← ex3]
      refine v_lstore_n [(3, .long x3), (0, .ref (E.2.1 17)), (1, .ref (E.2.1 v1)), (2, .int v2), (5, .int v5)] g d_Ranking_greedyRing_44 (by decide) rfl ?_
      refine v_iinc 4 [(5, .int (v5 + (-1 : Int32))), (3, .long x3), (0, .ref (E.2.1 17)), (1, .ref (E.2.1 v1)), (2, .int v2)] g d_Ranking_greedyRing_45 rfl (v := (-1 : Int32)) (by decide +kernel) (by decide) rfl ?_
      refine v_goto 10 g d_Ranking_greedyRing_48 (by decide) ?_
      exact v_sub [2,3,4,1,0] rfl (hk10 v1 v2 x3 (v5 + (-1 : Int32)) hv1 q2.2)
def L_Ranking_greedyRing_10 : Nat → Nat → Int32 → Int64 → Int32 → Sto → Option (Int64 × Sto)
  | 0, _, _, _, _, _ => none
  | fu + 1, v1, v2, v3, v5, σ => B_Ranking_greedyRing_10 (L_Ranking_greedyRing_10 fu) v1 v2 v3 v5 σ
theorem vL_Ranking_greedyRing_10 {X : Xt} {E : En} (g : GG X E 3 b_Ranking_greedyRing R_Ranking 6) (fu : Nat) : ∀ (v1 : Nat) (v2 : Int32) (v3 : Int64) (v5 : Int32) (hv1 : cls v1 = 4) (σ : Sto), VV X E b_Ranking_greedyRing 6 eL 10 [(0, .ref (E.2.1 17)), (1, .ref (E.2.1 v1)), (2, .int v2), (3, .long v3), (5, .int v5)] [] σ (L_Ranking_greedyRing_10 fu v1 v2 v3 v5 σ) := by
  induction fu with
  | zero => intros; exact v_none
  | succ fu ih =>
    intro v1 v2 v3 v5 hv1 σ
    exact vB_Ranking_greedyRing_10 g ih v1 v2 v3 v5 hv1 σ
def B_Ranking_greedyRing_0 (a1 : Nat) (a2 : Int32) (σ : Sto) : Option (Int64 × Sto) :=
  (lt1 ((gI σ 17 1) - (1 : Int32)) fun x1 => L_Ranking_greedyRing_10 LF a1 a2 (0 : Int64) x1 σ)
set_option maxHeartbeats 4000000 in
set_option maxRecDepth 100000 in
theorem vB_Ranking_greedyRing_0 {X : Xt} {E : En} (g : GG X E 3 b_Ranking_greedyRing R_Ranking 6) (a1 : Nat) (a2 : Int32) (ha1 : cls a1 = 4) (σ : Sto) : VV X E b_Ranking_greedyRing 6 eL 0 [(0, .ref (E.2.1 17)), (1, .ref (E.2.1 a1)), (2, .int a2)] [] σ (B_Ranking_greedyRing_0 a1 a2 σ) := by
  unfold B_Ranking_greedyRing_0
  refine v_lconst (v := (0 : Int64)) g d_Ranking_greedyRing_0 (by decide +kernel) ?_
  refine v_lstore_n [(3, .long (0 : Int64)), (0, .ref (E.2.1 17)), (1, .ref (E.2.1 a1)), (2, .int a2)] g d_Ranking_greedyRing_1 (by decide) rfl ?_
  refine v_aload_n 1 g d_Ranking_greedyRing_2 rfl ?_
  refine v_getI g ff_Ranking_15 rfl rfl d_Ranking_greedyRing_3 ?_
  refine v_iconst (v := (1 : Int32)) g d_Ranking_greedyRing_6 (by decide +kernel) ?_
  refine v_isub g d_Ranking_greedyRing_7 ?_
  refine v_nlet (fun x1 ex1 => ?_)
  rw [← ex1]
  refine v_istore [(5, .int x1), (3, .long (0 : Int64)), (0, .ref (E.2.1 17)), (1, .ref (E.2.1 a1)), (2, .int a2)] g d_Ranking_greedyRing_8 (by decide) rfl ?_
  exact v_sub [2,3,4,1,0] rfl (vL_Ranking_greedyRing_10 g LF a1 a2 (0 : Int64) x1 ha1 σ)
def f_Ranking_greedyRing (a1 : Nat) (a2 : Int32) (σ : Sto) : Option (Int64 × Sto) := B_Ranking_greedyRing_0 a1 a2 σ
theorem sp_Ranking_greedyRing {l : Launch} {E : En} (hE : Dj E) {a1 : Nat} {a2 : Int32} (ha1 : cls a1 = 4) {σ : Sto} {r : Int64} {σ' : Sto} (h : f_Ranking_greedyRing a1 a2 σ = some (r, σ')) : Ct l E y_Ranking_greedyRing (wsM y_Ranking_greedyRing b_Ranking_greedyRing 6 (some .long)) 3 [.ref (E.2.1 17), .ref (E.2.1 a1), .int a2] σ (eL r) σ' :=
  ct_of hE (by decide +kernel) (Nat.le_of_ble_eq_true rfl) (fun x => Or.inr (Or.inr (Or.inl ⟨rfl, x, rfl⟩))) (fun X _ g => vB_Ranking_greedyRing_0 g a1 a2 ha1 σ) r σ' h
/-! method FittingRings$Judge.withoutBare(IIJI)J -/
theorem yv_Judge_withoutBare : YV y_Judge_withoutBare b_Judge_withoutBare 14 (some .long) 4 2 := ⟨m1 534 (by decide +kernel) (by decide +kernel), m1 535 (by decide +kernel) (by decide +kernel), ini_Judge, m1 536 (by decide +kernel) (by decide +kernel), ⟨by decide +kernel, by decide +kernel, by decide +kernel⟩, by decide, by decide, T_Judge, 2, rfl⟩
theorem d_Judge_withoutBare_0 : decode b_Judge_withoutBare 0 = .ok (.lload_n 3, 1) := by decide +kernel
theorem d_Judge_withoutBare_1 : decode b_Judge_withoutBare 1 = .ok (.lstore 6, 2) := by decide +kernel
theorem d_Judge_withoutBare_3 : decode b_Judge_withoutBare 3 = .ok (.iconst 0, 1) := by decide +kernel
theorem d_Judge_withoutBare_4 : decode b_Judge_withoutBare 4 = .ok (.istore 8, 2) := by decide +kernel
theorem d_Judge_withoutBare_6 : decode b_Judge_withoutBare 6 = .ok (.iload 8, 2) := by decide +kernel
theorem d_Judge_withoutBare_8 : decode b_Judge_withoutBare 8 = .ok (.bipush 40, 2) := by decide +kernel
theorem d_Judge_withoutBare_10 : decode b_Judge_withoutBare 10 = .ok (.if_icmp .gt 112, 3) := by decide +kernel
theorem d_Judge_withoutBare_13 : decode b_Judge_withoutBare 13 = .ok (.lload 6, 2) := by decide +kernel
theorem d_Judge_withoutBare_15 : decode b_Judge_withoutBare 15 = .ok (.lconst 0, 1) := by decide +kernel
theorem d_Judge_withoutBare_16 : decode b_Judge_withoutBare 16 = .ok (.lcmp, 1) := by decide +kernel
theorem d_Judge_withoutBare_17 : decode b_Judge_withoutBare 17 = .ok (.ifCond .eq 105, 3) := by decide +kernel
theorem d_Judge_withoutBare_20 : decode b_Judge_withoutBare 20 = .ok (.lconst 0, 1) := by decide +kernel
theorem d_Judge_withoutBare_21 : decode b_Judge_withoutBare 21 = .ok (.lstore 9, 2) := by decide +kernel
theorem d_Judge_withoutBare_23 : decode b_Judge_withoutBare 23 = .ok (.iconst 0, 1) := by decide +kernel
theorem d_Judge_withoutBare_24 : decode b_Judge_withoutBare 24 = .ok (.istore 11, 2) := by decide +kernel
theorem d_Judge_withoutBare_26 : decode b_Judge_withoutBare 26 = .ok (.iload 11, 2) := by decide +kernel
theorem d_Judge_withoutBare_28 : decode b_Judge_withoutBare 28 = .ok (.aload_n 0, 1) := by decide +kernel
theorem d_Judge_withoutBare_29 : decode b_Judge_withoutBare 29 = .ok (.getfield 18, 3) := by decide +kernel
theorem d_Judge_withoutBare_32 : decode b_Judge_withoutBare 32 = .ok (.getfield 86, 3) := by decide +kernel
theorem d_Judge_withoutBare_35 : decode b_Judge_withoutBare 35 = .ok (.if_icmp .ge 60, 3) := by decide +kernel
theorem d_Judge_withoutBare_38 : decode b_Judge_withoutBare 38 = .ok (.lconst 1, 1) := by decide +kernel
theorem d_Judge_withoutBare_39 : decode b_Judge_withoutBare 39 = .ok (.iload 11, 2) := by decide +kernel
theorem d_Judge_withoutBare_41 : decode b_Judge_withoutBare 41 = .ok (.lshl, 1) := by decide +kernel
theorem d_Judge_withoutBare_42 : decode b_Judge_withoutBare 42 = .ok (.lstore 12, 2) := by decide +kernel
theorem d_Judge_withoutBare_44 : decode b_Judge_withoutBare 44 = .ok (.lload 6, 2) := by decide +kernel
theorem d_Judge_withoutBare_46 : decode b_Judge_withoutBare 46 = .ok (.iload 11, 2) := by decide +kernel
theorem d_Judge_withoutBare_48 : decode b_Judge_withoutBare 48 = .ok (.invokestatic 89, 3) := by decide +kernel
theorem d_Judge_withoutBare_51 : decode b_Judge_withoutBare 51 = .ok (.ifCond .eq 38, 3) := by decide +kernel
theorem d_Judge_withoutBare_54 : decode b_Judge_withoutBare 54 = .ok (.aload_n 0, 1) := by decide +kernel
theorem d_Judge_withoutBare_55 : decode b_Judge_withoutBare 55 = .ok (.getfield 18, 3) := by decide +kernel
theorem d_Judge_withoutBare_58 : decode b_Judge_withoutBare 58 = .ok (.iload_n 2, 1) := by decide +kernel
theorem d_Judge_withoutBare_59 : decode b_Judge_withoutBare 59 = .ok (.aload_n 0, 1) := by decide +kernel
theorem d_Judge_withoutBare_60 : decode b_Judge_withoutBare 60 = .ok (.getfield 18, 3) := by decide +kernel
theorem d_Judge_withoutBare_63 : decode b_Judge_withoutBare 63 = .ok (.iload_n 1, 1) := by decide +kernel
theorem d_Judge_withoutBare_64 : decode b_Judge_withoutBare 64 = .ok (.iload 11, 2) := by decide +kernel
theorem d_Judge_withoutBare_66 : decode b_Judge_withoutBare 66 = .ok (.lload 6, 2) := by decide +kernel
theorem d_Judge_withoutBare_68 : decode b_Judge_withoutBare 68 = .ok (.invokevirtual 82, 3) := by decide +kernel
theorem d_Judge_withoutBare_71 : decode b_Judge_withoutBare 71 = .ok (.lload 12, 2) := by decide +kernel
theorem d_Judge_withoutBare_73 : decode b_Judge_withoutBare 73 = .ok (.lor, 1) := by decide +kernel
theorem d_Judge_withoutBare_74 : decode b_Judge_withoutBare 74 = .ok (.invokevirtual 45, 3) := by decide +kernel
theorem d_Judge_withoutBare_77 : decode b_Judge_withoutBare 77 = .ok (.iload 5, 2) := by decide +kernel
theorem d_Judge_withoutBare_79 : decode b_Judge_withoutBare 79 = .ok (.if_icmp .gt 10, 3) := by decide +kernel
theorem d_Judge_withoutBare_82 : decode b_Judge_withoutBare 82 = .ok (.lload 9, 2) := by decide +kernel
theorem d_Judge_withoutBare_84 : decode b_Judge_withoutBare 84 = .ok (.lload 12, 2) := by decide +kernel
theorem d_Judge_withoutBare_86 : decode b_Judge_withoutBare 86 = .ok (.lor, 1) := by decide +kernel
theorem d_Judge_withoutBare_87 : decode b_Judge_withoutBare 87 = .ok (.lstore 9, 2) := by decide +kernel
theorem d_Judge_withoutBare_89 : decode b_Judge_withoutBare 89 = .ok (.iinc 11 1, 3) := by decide +kernel
theorem d_Judge_withoutBare_92 : decode b_Judge_withoutBare 92 = .ok (.goto (-66), 3) := by decide +kernel
theorem d_Judge_withoutBare_95 : decode b_Judge_withoutBare 95 = .ok (.lload 9, 2) := by decide +kernel
theorem d_Judge_withoutBare_97 : decode b_Judge_withoutBare 97 = .ok (.lconst 0, 1) := by decide +kernel
theorem d_Judge_withoutBare_98 : decode b_Judge_withoutBare 98 = .ok (.lcmp, 1) := by decide +kernel
theorem d_Judge_withoutBare_99 : decode b_Judge_withoutBare 99 = .ok (.ifCond .ne 6, 3) := by decide +kernel
theorem d_Judge_withoutBare_102 : decode b_Judge_withoutBare 102 = .ok (.goto 20, 3) := by decide +kernel
theorem d_Judge_withoutBare_105 : decode b_Judge_withoutBare 105 = .ok (.lload 6, 2) := by decide +kernel
theorem d_Judge_withoutBare_107 : decode b_Judge_withoutBare 107 = .ok (.lload 9, 2) := by decide +kernel
theorem d_Judge_withoutBare_109 : decode b_Judge_withoutBare 109 = .ok (.ldc2_w 93, 3) := by decide +kernel
theorem d_Judge_withoutBare_112 : decode b_Judge_withoutBare 112 = .ok (.lxor, 1) := by decide +kernel
theorem d_Judge_withoutBare_113 : decode b_Judge_withoutBare 113 = .ok (.land, 1) := by decide +kernel
theorem d_Judge_withoutBare_114 : decode b_Judge_withoutBare 114 = .ok (.lstore 6, 2) := by decide +kernel
theorem d_Judge_withoutBare_116 : decode b_Judge_withoutBare 116 = .ok (.iinc 8 1, 3) := by decide +kernel
theorem d_Judge_withoutBare_119 : decode b_Judge_withoutBare 119 = .ok (.goto (-113), 3) := by decide +kernel
theorem d_Judge_withoutBare_122 : decode b_Judge_withoutBare 122 = .ok (.lload 6, 2) := by decide +kernel
theorem d_Judge_withoutBare_124 : decode b_Judge_withoutBare 124 = .ok (.lreturn, 1) := by decide +kernel
def B_Judge_withoutBare_26 (k6 : Int32 → Int32 → Int32 → Int64 → Int32 → Sto → Option (Int64 × Sto)) (k26 : Int32 → Int32 → Int32 → Int64 → Int32 → Int64 → Int32 → Sto → Option (Int64 × Sto)) (v1 : Int32) (v2 : Int32) (v5 : Int32) (v6 : Int64) (v8 : Int32) (v9 : Int64) (v11 : Int32) (σ : Sto) : Option (Int64 × Sto) :=
  (if (gI σ 1 0) ≤ v11 then (if v9 = (0 : Int64) then some (v6, σ)
  else (lt1 (v6 &&& (v9 ^^^ (-1 : Int64))) fun x1 => k6 v1 v2 v5 x1 (v8 + (1 : Int32)) σ))
 else ((f_FR_isOf v6 v11 σ).bind fun q2 => (if (b2i q2.1) = 0 then k26 v1 v2 v5 v6 v8 v9 (v11 + (1 : Int32)) q2.2
  else ((f_Net_fitting 1 v1 v11 v6 q2.2).bind fun q3 => ((f_Net_worth 1 v2 (q3.1 ||| (lsh (1 : Int64) v11)) q3.2).bind fun q4 => (if v5 < q4.1 then k26 v1 v2 v5 v6 v8 v9 (v11 + (1 : Int32)) q4.2
   else (lt1 (v9 ||| (lsh (1 : Int64) v11)) fun x5 => k26 v1 v2 v5 v6 v8 x5 (v11 + (1 : Int32)) q4.2)))))))
set_option maxHeartbeats 4000000 in
set_option maxRecDepth 100000 in
theorem vB_Judge_withoutBare_26 {X : Xt} {E : En} (g : GG X E 3 b_Judge_withoutBare R_Judge 14) {k6 : Int32 → Int32 → Int32 → Int64 → Int32 → Sto → Option (Int64 × Sto)} {k26 : Int32 → Int32 → Int32 → Int64 → Int32 → Int64 → Int32 → Sto → Option (Int64 × Sto)} (hk6 : ∀ (v1 : Int32) (v2 : Int32) (v5 : Int32) (v6 : Int64) (v8 : Int32) (σ : Sto), VV X E b_Judge_withoutBare 14 eL 6 [(0, .ref (E.2.1 16)), (1, .int v1), (2, .int v2), (5, .int v5), (6, .long v6), (8, .int v8)] [] σ (k6 v1 v2 v5 v6 v8 σ)) (hk26 : ∀ (v1 : Int32) (v2 : Int32) (v5 : Int32) (v6 : Int64) (v8 : Int32) (v9 : Int64) (v11 : Int32) (σ : Sto), VV X E b_Judge_withoutBare 14 eL 26 [(0, .ref (E.2.1 16)), (1, .int v1), (2, .int v2), (5, .int v5), (6, .long v6), (8, .int v8), (9, .long v9), (11, .int v11)] [] σ (k26 v1 v2 v5 v6 v8 v9 v11 σ)) (v1 : Int32) (v2 : Int32) (v5 : Int32) (v6 : Int64) (v8 : Int32) (v9 : Int64) (v11 : Int32) (σ : Sto) : VV X E b_Judge_withoutBare 14 eL 26 [(0, .ref (E.2.1 16)), (1, .int v1), (2, .int v2), (5, .int v5), (6, .long v6), (8, .int v8), (9, .long v9), (11, .int v11)] [] σ (B_Judge_withoutBare_26 k6 k26 v1 v2 v5 v6 v8 v9 v11 σ) := by
  unfold B_Judge_withoutBare_26
  refine v_iload 7 g d_Judge_withoutBare_26 rfl ?_
  refine v_aload_n 0 g d_Judge_withoutBare_28 rfl ?_
  refine v_getR 1 g ff_Judge_18 rfl rfl rfl d_Judge_withoutBare_29 ?_
  refine v_getI g ff_Judge_86 rfl rfl d_Judge_withoutBare_32 ?_
  refine v_icmp_ge 95 g d_Judge_withoutBare_35 (by decide) (fun _ => ?_) (fun _ => ?_)
  · refine v_lload 6 g d_Judge_withoutBare_95 rfl ?_
    refine v_lconst (v := (0 : Int64)) g d_Judge_withoutBare_97 (by decide +kernel) ?_
    refine v_lcmp_ne 105 g d_Judge_withoutBare_98 d_Judge_withoutBare_99 (by decide) (fun _ => ?_) (fun _ => ?_)
    · refine v_lload 4 g d_Judge_withoutBare_105 rfl ?_
      refine v_lload 6 g d_Judge_withoutBare_107 rfl ?_
      refine v_ldc2 (v := (-1 : Int64)) g (m1 540 (by decide +kernel) (by decide +kernel)) d_Judge_withoutBare_109 ?_
      refine v_lxor g d_Judge_withoutBare_112 ?_
      refine v_land g d_Judge_withoutBare_113 ?_
      refine v_nlet (fun x1 ex1 => ?_)
      rw [← ex1]
      refine v_lstore [(6, .long x1), (0, .ref (E.2.1 16)), (1, .int v1), (2, .int v2), (5, .int v5), (8, .int v8), (9, .long v9), (11, .int v11)] g d_Judge_withoutBare_114 (by decide) rfl ?_
      refine v_iinc 5 [(8, .int (v8 + (1 : Int32))), (6, .long x1), (0, .ref (E.2.1 16)), (1, .int v1), (2, .int v2), (5, .int v5), (9, .long v9), (11, .int v11)] g d_Judge_withoutBare_116 rfl (v := (1 : Int32)) (by decide +kernel) (by decide) rfl ?_
      refine v_goto 6 g d_Judge_withoutBare_119 (by decide) ?_
      exact v_sub [2,3,4,5,1,0] rfl (hk6 v1 v2 v5 x1 (v8 + (1 : Int32)) σ)
    · refine v_goto 122 g d_Judge_withoutBare_102 (by decide) ?_
      refine v_lload 4 g d_Judge_withoutBare_122 rfl ?_
      exact v_ret d_Judge_withoutBare_124 rfl
  · refine v_lconst (v := (1 : Int64)) g d_Judge_withoutBare_38 (by decide +kernel) ?_
    refine v_iload 7 g d_Judge_withoutBare_39 rfl ?_
    refine v_lshl g d_Judge_withoutBare_41 ?_
    refine v_lstore [(12, .long (lsh (1 : Int64) v11)), (0, .ref (E.2.1 16)), (1, .int v1), (2, .int v2), (5, .int v5), (6, .long v6), (8, .int v8), (9, .long v9), (11, .int v11)] g d_Judge_withoutBare_42 (by decide) rfl ?_
    refine v_lload 5 g d_Judge_withoutBare_44 rfl ?_
    refine v_iload 8 g d_Judge_withoutBare_46 rfl ?_
    refine v_callB (r_SN (rest := []) (host := R_FR) [.long v6, .int v11] g (by decide +kernel) ys_FR_isOf (fun r σ1 h => sp_FR_isOf g.2.2.1  h) rfl rfl (by decide) (Nat.le_of_ble_eq_true rfl) d_Judge_withoutBare_48) (fun q2 => ?_)
    refine v_if_eq 89 g d_Judge_withoutBare_51 (by decide) (fun _ => ?_) (fun _ => ?_)
    · refine v_iinc 8 [(11, .int (v11 + (1 : Int32))), (12, .long (lsh (1 : Int64) v11)), (0, .ref (E.2.1 16)), (1, .int v1), (2, .int v2), (5, .int v5), (6, .long v6), (8, .int v8), (9, .long v9)] g d_Judge_withoutBare_89 rfl (v := (1 : Int32)) (by decide +kernel) (by decide) rfl ?_
      refine v_goto 26 g d_Judge_withoutBare_92 (by decide) ?_
      exact v_sub [2,3,4,5,6,7,8,0] rfl (hk26 v1 v2 v5 v6 v8 v9 (v11 + (1 : Int32)) q2.2)
    · refine v_aload_n 1 g d_Judge_withoutBare_54 rfl ?_
      refine v_getR 1 g ff_Judge_18 rfl rfl rfl d_Judge_withoutBare_55 ?_
      refine v_iload_n 3 g d_Judge_withoutBare_58 rfl ?_
      refine v_aload_n 1 g d_Judge_withoutBare_59 rfl ?_
      refine v_getR 1 g ff_Judge_18 rfl rfl rfl d_Judge_withoutBare_60 ?_
      refine v_iload_n 2 g d_Judge_withoutBare_63 rfl ?_
      refine v_iload 8 g d_Judge_withoutBare_64 rfl ?_
      refine v_lload 5 g d_Judge_withoutBare_66 rfl ?_
      refine v_callL (r_V (rest := [.int v2, .ref (E.2.1 1)]) [.int v1, .int v11, .long v6] g (m1 538 (by decide +kernel) (by decide +kernel)) yv_Net_fitting rfl (fun r σ1 h => sp_Net_fitting g.2.2.1 rfl h) rfl rfl (by decide) (Nat.le_of_ble_eq_true rfl) d_Judge_withoutBare_68) (fun q3 => ?_)
      refine v_lload 0 g d_Judge_withoutBare_71 rfl ?_
      refine v_lor g d_Judge_withoutBare_73 ?_
      refine v_callI (r_V (rest := []) [.int v2, .long (q3.1 ||| (lsh (1 : Int64) v11))] g (m1 539 (by decide +kernel) (by decide +kernel)) yv_Net_worth rfl (fun r σ1 h => sp_Net_worth g.2.2.1 rfl h) rfl rfl (by decide) (Nat.le_of_ble_eq_true rfl) d_Judge_withoutBare_74) (fun q4 => ?_)
      refine v_iload 4 g d_Judge_withoutBare_77 rfl ?_
      refine v_icmp_gt 89 g d_Judge_withoutBare_79 (by decide) (fun _ => ?_) (fun _ => ?_)
      · refine v_iinc 8 [(11, .int (v11 + (1 : Int32))), (12, .long (lsh (1 : Int64) v11)), (0, .ref (E.2.1 16)), (1, .int v1), (2, .int v2), (5, .int v5), (6, .long v6), (8, .int v8), (9, .long v9)] g d_Judge_withoutBare_89 rfl (v := (1 : Int32)) (by decide +kernel) (by decide) rfl ?_
        refine v_goto 26 g d_Judge_withoutBare_92 (by decide) ?_
        exact v_sub [2,3,4,5,6,7,8,0] rfl (hk26 v1 v2 v5 v6 v8 v9 (v11 + (1 : Int32)) q4.2)
      · refine v_lload 7 g d_Judge_withoutBare_82 rfl ?_
        refine v_lload 0 g d_Judge_withoutBare_84 rfl ?_
        refine v_lor g d_Judge_withoutBare_86 ?_
        refine v_nlet (fun x5 ex5 => ?_)
        rw [← ex5]
        refine v_lstore [(9, .long x5), (12, .long (lsh (1 : Int64) v11)), (0, .ref (E.2.1 16)), (1, .int v1), (2, .int v2), (5, .int v5), (6, .long v6), (8, .int v8), (11, .int v11)] g d_Judge_withoutBare_87 (by decide) rfl ?_
        refine v_iinc 8 [(11, .int (v11 + (1 : Int32))), (9, .long x5), (12, .long (lsh (1 : Int64) v11)), (0, .ref (E.2.1 16)), (1, .int v1), (2, .int v2), (5, .int v5), (6, .long v6), (8, .int v8)] g d_Judge_withoutBare_89 rfl (v := (1 : Int32)) (by decide +kernel) (by decide) rfl ?_
        refine v_goto 26 g d_Judge_withoutBare_92 (by decide) ?_
        exact v_sub [3,4,5,6,7,8,1,0] rfl (hk26 v1 v2 v5 v6 v8 x5 (v11 + (1 : Int32)) q4.2)
def L_Judge_withoutBare_26 (k6 : Int32 → Int32 → Int32 → Int64 → Int32 → Sto → Option (Int64 × Sto)) : Nat → Int32 → Int32 → Int32 → Int64 → Int32 → Int64 → Int32 → Sto → Option (Int64 × Sto)
  | 0, _, _, _, _, _, _, _, _ => none
  | fu + 1, v1, v2, v5, v6, v8, v9, v11, σ => B_Judge_withoutBare_26 k6 (L_Judge_withoutBare_26 k6 fu) v1 v2 v5 v6 v8 v9 v11 σ
theorem vL_Judge_withoutBare_26 {X : Xt} {E : En} (g : GG X E 3 b_Judge_withoutBare R_Judge 14) {k6 : Int32 → Int32 → Int32 → Int64 → Int32 → Sto → Option (Int64 × Sto)} (hk6 : ∀ (v1 : Int32) (v2 : Int32) (v5 : Int32) (v6 : Int64) (v8 : Int32) (σ : Sto), VV X E b_Judge_withoutBare 14 eL 6 [(0, .ref (E.2.1 16)), (1, .int v1), (2, .int v2), (5, .int v5), (6, .long v6), (8, .int v8)] [] σ (k6 v1 v2 v5 v6 v8 σ)) (fu : Nat) : ∀ (v1 : Int32) (v2 : Int32) (v5 : Int32) (v6 : Int64) (v8 : Int32) (v9 : Int64) (v11 : Int32) (σ : Sto), VV X E b_Judge_withoutBare 14 eL 26 [(0, .ref (E.2.1 16)), (1, .int v1), (2, .int v2), (5, .int v5), (6, .long v6), (8, .int v8), (9, .long v9), (11, .int v11)] [] σ (L_Judge_withoutBare_26 k6 fu v1 v2 v5 v6 v8 v9 v11 σ) := by
  induction fu with
  | zero => intros; exact v_none
  | succ fu ih =>
    intro v1 v2 v5 v6 v8 v9 v11 σ
    exact vB_Judge_withoutBare_26 g hk6 ih v1 v2 v5 v6 v8 v9 v11 σ
def B_Judge_withoutBare_6 (k6 : Int32 → Int32 → Int32 → Int64 → Int32 → Sto → Option (Int64 × Sto)) (v1 : Int32) (v2 : Int32) (v5 : Int32) (v6 : Int64) (v8 : Int32) (σ : Sto) : Option (Int64 × Sto) :=
  (if (40 : Int32) < v8 then some (v6, σ)
 else (if v6 = (0 : Int64) then some (v6, σ)
  else L_Judge_withoutBare_26 k6 LF v1 v2 v5 v6 v8 (0 : Int64) (0 : Int32) σ))
set_option maxHeartbeats 4000000 in
set_option maxRecDepth 100000 in
theorem vB_Judge_withoutBare_6 {X : Xt} {E : En} (g : GG X E 3 b_Judge_withoutBare R_Judge 14) {k6 : Int32 → Int32 → Int32 → Int64 → Int32 → Sto → Option (Int64 × Sto)} (hk6 : ∀ (v1 : Int32) (v2 : Int32) (v5 : Int32) (v6 : Int64) (v8 : Int32) (σ : Sto), VV X E b_Judge_withoutBare 14 eL 6 [(0, .ref (E.2.1 16)), (1, .int v1), (2, .int v2), (5, .int v5), (6, .long v6), (8, .int v8)] [] σ (k6 v1 v2 v5 v6 v8 σ)) (v1 : Int32) (v2 : Int32) (v5 : Int32) (v6 : Int64) (v8 : Int32) (σ : Sto) : VV X E b_Judge_withoutBare 14 eL 6 [(0, .ref (E.2.1 16)), (1, .int v1), (2, .int v2), (5, .int v5), (6, .long v6), (8, .int v8)] [] σ (B_Judge_withoutBare_6 k6 v1 v2 v5 v6 v8 σ) := by
  unfold B_Judge_withoutBare_6
  refine v_iload 5 g d_Judge_withoutBare_6 rfl ?_
  refine v_bipush (v := (40 : Int32)) g d_Judge_withoutBare_8 (by decide +kernel) ?_
  refine v_icmp_gt 122 g d_Judge_withoutBare_10 (by decide) (fun _ => ?_) (fun _ => ?_)
  · refine v_lload 4 g d_Judge_withoutBare_122 rfl ?_
    exact v_ret d_Judge_withoutBare_124 rfl
  · refine v_lload 4 g d_Judge_withoutBare_13 rfl ?_
    refine v_lconst (v := (0 : Int64)) g d_Judge_withoutBare_15 (by decide +kernel) ?_
    refine v_lcmp_eq 122 g d_Judge_withoutBare_16 d_Judge_withoutBare_17 (by decide) (fun _ => ?_) (fun _ => ?_)
    · refine v_lload 4 g d_Judge_withoutBare_122 rfl ?_
      exact v_ret d_Judge_withoutBare_124 rfl
    · refine v_lconst (v := (0 : Int64)) g d_Judge_withoutBare_20 (by decide +kernel) ?_
      refine v_lstore [(9, .long (0 : Int64)), (0, .ref (E.2.1 16)), (1, .int v1), (2, .int v2), (5, .int v5), (6, .long v6), (8, .int v8)] g d_Judge_withoutBare_21 (by decide) rfl ?_
      refine v_iconst (v := (0 : Int32)) g d_Judge_withoutBare_23 (by decide +kernel) ?_
      refine v_istore [(11, .int (0 : Int32)), (9, .long (0 : Int64)), (0, .ref (E.2.1 16)), (1, .int v1), (2, .int v2), (5, .int v5), (6, .long v6), (8, .int v8)] g d_Judge_withoutBare_24 (by decide) rfl ?_
      exact v_sub [2,3,4,5,6,7,1,0] rfl (vL_Judge_withoutBare_26 g hk6 LF v1 v2 v5 v6 v8 (0 : Int64) (0 : Int32) σ)
def L_Judge_withoutBare_6 : Nat → Int32 → Int32 → Int32 → Int64 → Int32 → Sto → Option (Int64 × Sto)
  | 0, _, _, _, _, _, _ => none
  | fu + 1, v1, v2, v5, v6, v8, σ => B_Judge_withoutBare_6 (L_Judge_withoutBare_6 fu) v1 v2 v5 v6 v8 σ
theorem vL_Judge_withoutBare_6 {X : Xt} {E : En} (g : GG X E 3 b_Judge_withoutBare R_Judge 14) (fu : Nat) : ∀ (v1 : Int32) (v2 : Int32) (v5 : Int32) (v6 : Int64) (v8 : Int32) (σ : Sto), VV X E b_Judge_withoutBare 14 eL 6 [(0, .ref (E.2.1 16)), (1, .int v1), (2, .int v2), (5, .int v5), (6, .long v6), (8, .int v8)] [] σ (L_Judge_withoutBare_6 fu v1 v2 v5 v6 v8 σ) := by
  induction fu with
  | zero => intros; exact v_none
  | succ fu ih =>
    intro v1 v2 v5 v6 v8 σ
    exact vB_Judge_withoutBare_6 g ih v1 v2 v5 v6 v8 σ
def B_Judge_withoutBare_0 (a1 : Int32) (a2 : Int32) (a3 : Int64) (a5 : Int32) (σ : Sto) : Option (Int64 × Sto) :=
  L_Judge_withoutBare_6 LF a1 a2 a5 a3 (0 : Int32) σ
set_option maxHeartbeats 4000000 in
set_option maxRecDepth 100000 in
theorem vB_Judge_withoutBare_0 {X : Xt} {E : En} (g : GG X E 3 b_Judge_withoutBare R_Judge 14) (a1 : Int32) (a2 : Int32) (a3 : Int64) (a5 : Int32) (σ : Sto) : VV X E b_Judge_withoutBare 14 eL 0 [(0, .ref (E.2.1 16)), (1, .int a1), (2, .int a2), (3, .long a3), (5, .int a5)] [] σ (B_Judge_withoutBare_0 a1 a2 a3 a5 σ) := by
  unfold B_Judge_withoutBare_0
  refine v_lload_n 3 g d_Judge_withoutBare_0 rfl ?_
  refine v_lstore [(6, .long a3), (0, .ref (E.2.1 16)), (1, .int a1), (2, .int a2), (3, .long a3), (5, .int a5)] g d_Judge_withoutBare_1 (by decide) rfl ?_
  refine v_iconst (v := (0 : Int32)) g d_Judge_withoutBare_3 (by decide +kernel) ?_
  refine v_istore [(8, .int (0 : Int32)), (6, .long a3), (0, .ref (E.2.1 16)), (1, .int a1), (2, .int a2), (3, .long a3), (5, .int a5)] g d_Judge_withoutBare_4 (by decide) rfl ?_
  exact v_sub [2,3,4,6,1,0] rfl (vL_Judge_withoutBare_6 g LF a1 a2 a5 a3 (0 : Int32) σ)
def f_Judge_withoutBare (a1 : Int32) (a2 : Int32) (a3 : Int64) (a5 : Int32) (σ : Sto) : Option (Int64 × Sto) := B_Judge_withoutBare_0 a1 a2 a3 a5 σ
theorem sp_Judge_withoutBare {l : Launch} {E : En} (hE : Dj E) {a1 : Int32} {a2 : Int32} {a3 : Int64} {a5 : Int32} {σ : Sto} {r : Int64} {σ' : Sto} (h : f_Judge_withoutBare a1 a2 a3 a5 σ = some (r, σ')) : Ct l E y_Judge_withoutBare (wsM y_Judge_withoutBare b_Judge_withoutBare 14 (some .long)) 3 [.ref (E.2.1 16), .int a1, .int a2, .long a3, .int a5] σ (eL r) σ' :=
  ct_of hE (by decide +kernel) (Nat.le_of_ble_eq_true rfl) (fun x => Or.inr (Or.inr (Or.inl ⟨rfl, x, rfl⟩))) (fun X _ g => vB_Judge_withoutBare_0 g a1 a2 a3 a5 σ) r σ' h
/-! method FittingRings$Judge.byColours(IIJ)I -/
theorem yv_Judge_byColours : YV y_Judge_byColours b_Judge_byColours 7 (some .int) 3 2 := ⟨m1 555 (by decide +kernel) (by decide +kernel), m1 3 (by decide +kernel) (by decide +kernel), ini_Judge, m1 556 (by decide +kernel) (by decide +kernel), ⟨by decide +kernel, by decide +kernel, by decide +kernel⟩, by decide, by decide, T_Judge, 2, rfl⟩
theorem d_Judge_byColours_0 : decode b_Judge_byColours 0 = .ok (.aload_n 0, 1) := by decide +kernel
theorem d_Judge_byColours_1 : decode b_Judge_byColours 1 = .ok (.getfield 12, 3) := by decide +kernel
theorem d_Judge_byColours_4 : decode b_Judge_byColours 4 = .ok (.aload_n 0, 1) := by decide +kernel
theorem d_Judge_byColours_5 : decode b_Judge_byColours 5 = .ok (.getfield 18, 3) := by decide +kernel
theorem d_Judge_byColours_8 : decode b_Judge_byColours 8 = .ok (.iload_n 1, 1) := by decide +kernel
theorem d_Judge_byColours_9 : decode b_Judge_byColours 9 = .ok (.lload_n 3, 1) := by decide +kernel
theorem d_Judge_byColours_10 : decode b_Judge_byColours 10 = .ok (.invokevirtual 22, 3) := by decide +kernel
theorem d_Judge_byColours_13 : decode b_Judge_byColours 13 = .ok (.aload_n 0, 1) := by decide +kernel
theorem d_Judge_byColours_14 : decode b_Judge_byColours 14 = .ok (.getfield 12, 3) := by decide +kernel
theorem d_Judge_byColours_17 : decode b_Judge_byColours 17 = .ok (.aload_n 0, 1) := by decide +kernel
theorem d_Judge_byColours_18 : decode b_Judge_byColours 18 = .ok (.getfield 18, 3) := by decide +kernel
theorem d_Judge_byColours_21 : decode b_Judge_byColours 21 = .ok (.iload_n 1, 1) := by decide +kernel
theorem d_Judge_byColours_22 : decode b_Judge_byColours 22 = .ok (.invokevirtual 26, 3) := by decide +kernel
theorem d_Judge_byColours_25 : decode b_Judge_byColours 25 = .ok (.iconst 0, 1) := by decide +kernel
theorem d_Judge_byColours_26 : decode b_Judge_byColours 26 = .ok (.istore 5, 2) := by decide +kernel
theorem d_Judge_byColours_28 : decode b_Judge_byColours 28 = .ok (.iconst 0, 1) := by decide +kernel
theorem d_Judge_byColours_29 : decode b_Judge_byColours 29 = .ok (.istore 6, 2) := by decide +kernel
theorem d_Judge_byColours_31 : decode b_Judge_byColours 31 = .ok (.iload 6, 2) := by decide +kernel
theorem d_Judge_byColours_33 : decode b_Judge_byColours 33 = .ok (.aload_n 0, 1) := by decide +kernel
theorem d_Judge_byColours_34 : decode b_Judge_byColours 34 = .ok (.getfield 12, 3) := by decide +kernel
theorem d_Judge_byColours_37 : decode b_Judge_byColours 37 = .ok (.getfield 64, 3) := by decide +kernel
theorem d_Judge_byColours_40 : decode b_Judge_byColours 40 = .ok (.if_icmp .ge 32, 3) := by decide +kernel
theorem d_Judge_byColours_43 : decode b_Judge_byColours 43 = .ok (.iload 5, 2) := by decide +kernel
theorem d_Judge_byColours_45 : decode b_Judge_byColours 45 = .ok (.aload_n 0, 1) := by decide +kernel
theorem d_Judge_byColours_46 : decode b_Judge_byColours 46 = .ok (.getfield 18, 3) := by decide +kernel
theorem d_Judge_byColours_49 : decode b_Judge_byColours 49 = .ok (.iload_n 2, 1) := by decide +kernel
theorem d_Judge_byColours_50 : decode b_Judge_byColours 50 = .ok (.aload_n 0, 1) := by decide +kernel
theorem d_Judge_byColours_51 : decode b_Judge_byColours 51 = .ok (.getfield 12, 3) := by decide +kernel
theorem d_Judge_byColours_54 : decode b_Judge_byColours 54 = .ok (.getfield 68, 3) := by decide +kernel
theorem d_Judge_byColours_57 : decode b_Judge_byColours 57 = .ok (.iload 6, 2) := by decide +kernel
theorem d_Judge_byColours_59 : decode b_Judge_byColours 59 = .ok (.laload, 1) := by decide +kernel
theorem d_Judge_byColours_60 : decode b_Judge_byColours 60 = .ok (.invokevirtual 72, 3) := by decide +kernel
theorem d_Judge_byColours_63 : decode b_Judge_byColours 63 = .ok (.iadd, 1) := by decide +kernel
theorem d_Judge_byColours_64 : decode b_Judge_byColours 64 = .ok (.istore 5, 2) := by decide +kernel
theorem d_Judge_byColours_66 : decode b_Judge_byColours 66 = .ok (.iinc 6 1, 3) := by decide +kernel
theorem d_Judge_byColours_69 : decode b_Judge_byColours 69 = .ok (.goto (-38), 3) := by decide +kernel
theorem d_Judge_byColours_72 : decode b_Judge_byColours 72 = .ok (.iload 5, 2) := by decide +kernel
theorem d_Judge_byColours_74 : decode b_Judge_byColours 74 = .ok (.ireturn, 1) := by decide +kernel
def B_Judge_byColours_31 (k31 : Int32 → Int32 → Int32 → Sto → Option (Int32 × Sto)) (v2 : Int32) (v5 : Int32) (v6 : Int32) (σ : Sto) : Option (Int32 × Sto) :=
  (if (gI σ 17 4) ≤ v6 then some (v5, σ)
 else (if inb v6 40 = true then ((f_Net_peak 1 v2 (gL σ 19 (Int32.toNatClampNeg v6)) σ).bind fun q3 => k31 v2 (v5 + q3.1) (v6 + (1 : Int32)) q3.2) else none))
set_option maxHeartbeats 4000000 in
set_option maxRecDepth 100000 in
theorem vB_Judge_byColours_31 {X : Xt} {E : En} (g : GG X E 4 b_Judge_byColours R_Judge 7) {k31 : Int32 → Int32 → Int32 → Sto → Option (Int32 × Sto)} (hk31 : ∀ (v2 : Int32) (v5 : Int32) (v6 : Int32) (σ : Sto), VV X E b_Judge_byColours 7 eI 31 [(0, .ref (E.2.1 16)), (2, .int v2), (5, .int v5), (6, .int v6)] [] σ (k31 v2 v5 v6 σ)) (v2 : Int32) (v5 : Int32) (v6 : Int32) (σ : Sto) : VV X E b_Judge_byColours 7 eI 31 [(0, .ref (E.2.1 16)), (2, .int v2), (5, .int v5), (6, .int v6)] [] σ (B_Judge_byColours_31 k31 v2 v5 v6 σ) := by
  unfold B_Judge_byColours_31
  refine v_iload 3 g d_Judge_byColours_31 rfl ?_
  refine v_aload_n 0 g d_Judge_byColours_33 rfl ?_
  refine v_getR 17 g ff_Judge_12 rfl rfl rfl d_Judge_byColours_34 ?_
  refine v_getI g ff_Judge_64 rfl rfl d_Judge_byColours_37 ?_
  refine v_icmp_ge 72 g d_Judge_byColours_40 (by decide) (fun _ => ?_) (fun _ => ?_)
  · refine v_iload 2 g d_Judge_byColours_72 rfl ?_
    exact v_ret d_Judge_byColours_74 rfl
  · refine v_iload 2 g d_Judge_byColours_43 rfl ?_
    refine v_aload_n 0 g d_Judge_byColours_45 rfl ?_
    refine v_getR 1 g ff_Judge_18 rfl rfl rfl d_Judge_byColours_46 ?_
    refine v_iload_n 1 g d_Judge_byColours_49 rfl ?_
    refine v_aload_n 0 g d_Judge_byColours_50 rfl ?_
    refine v_getR 17 g ff_Judge_12 rfl rfl rfl d_Judge_byColours_51 ?_
    refine v_getR 19 g ff_Judge_68 rfl rfl rfl d_Judge_byColours_54 ?_
    refine v_iload 3 g d_Judge_byColours_57 rfl ?_
    refine v_lald g rfl rfl d_Judge_byColours_59 (fun _ => ?_)
    refine v_callI (r_V (rest := [.int v5]) [.int v2, .long (gL σ 19 (Int32.toNatClampNeg v6))] g (m1 557 (by decide +kernel) (by decide +kernel)) yv_Net_peak rfl (fun r σ1 h => sp_Net_peak g.2.2.1 rfl h) rfl rfl (by decide) (Nat.le_of_ble_eq_true rfl) d_Judge_byColours_60) (fun q3 => ?_)
    refine v_iadd g d_Judge_byColours_63 ?_
    refine v_istore [(5, .int (v5 + q3.1)), (0, .ref (E.2.1 16)), (2, .int v2), (6, .int v6)] g d_Judge_byColours_64 (by decide) rfl ?_
    refine v_iinc 3 [(6, .int (v6 + (1 : Int32))), (5, .int (v5 + q3.1)), (0, .ref (E.2.1 16)), (2, .int v2)] g d_Judge_byColours_66 rfl (v := (1 : Int32)) (by decide +kernel) (by decide) rfl ?_
    refine v_goto 31 g d_Judge_byColours_69 (by decide) ?_
    exact v_sub [2,3,1,0] rfl (hk31 v2 (v5 + q3.1) (v6 + (1 : Int32)) q3.2)
def L_Judge_byColours_31 : Nat → Int32 → Int32 → Int32 → Sto → Option (Int32 × Sto)
  | 0, _, _, _, _ => none
  | fu + 1, v2, v5, v6, σ => B_Judge_byColours_31 (L_Judge_byColours_31 fu) v2 v5 v6 σ
theorem vL_Judge_byColours_31 {X : Xt} {E : En} (g : GG X E 4 b_Judge_byColours R_Judge 7) (fu : Nat) : ∀ (v2 : Int32) (v5 : Int32) (v6 : Int32) (σ : Sto), VV X E b_Judge_byColours 7 eI 31 [(0, .ref (E.2.1 16)), (2, .int v2), (5, .int v5), (6, .int v6)] [] σ (L_Judge_byColours_31 fu v2 v5 v6 σ) := by
  induction fu with
  | zero => intros; exact v_none
  | succ fu ih =>
    intro v2 v5 v6 σ
    exact vB_Judge_byColours_31 g ih v2 v5 v6 σ
def B_Judge_byColours_0 (a1 : Int32) (a2 : Int32) (a3 : Int64) (σ : Sto) : Option (Int32 × Sto) :=
  ((f_Ranking_rank 1 a1 a3 σ).bind fun q1 => ((f_Ranking_group 1 a1 q1.2).bind fun q2 => L_Judge_byColours_31 LF a2 (0 : Int32) (0 : Int32) q2.2))
set_option maxHeartbeats 4000000 in
set_option maxRecDepth 100000 in
theorem vB_Judge_byColours_0 {X : Xt} {E : En} (g : GG X E 4 b_Judge_byColours R_Judge 7) (a1 : Int32) (a2 : Int32) (a3 : Int64) (σ : Sto) : VV X E b_Judge_byColours 7 eI 0 [(0, .ref (E.2.1 16)), (1, .int a1), (2, .int a2), (3, .long a3)] [] σ (B_Judge_byColours_0 a1 a2 a3 σ) := by
  unfold B_Judge_byColours_0
  refine v_aload_n 0 g d_Judge_byColours_0 rfl ?_
  refine v_getR 17 g ff_Judge_12 rfl rfl rfl d_Judge_byColours_1 ?_
  refine v_aload_n 0 g d_Judge_byColours_4 rfl ?_
  refine v_getR 1 g ff_Judge_18 rfl rfl rfl d_Judge_byColours_5 ?_
  refine v_iload_n 1 g d_Judge_byColours_8 rfl ?_
  refine v_lload_n 3 g d_Judge_byColours_9 rfl ?_
  refine v_callU (r_V (rest := []) [.ref (E.2.1 1), .int a1, .long a3] g (m1 490 (by decide +kernel) (by decide +kernel)) yv_Ranking_rank rfl (fun r σ1 h => sp_Ranking_rank g.2.2.1 rfl h) rfl rfl (by decide) (Nat.le_of_ble_eq_true rfl) d_Judge_byColours_10) (fun q1 => ?_)
  refine v_aload_n 0 g d_Judge_byColours_13 rfl ?_
  refine v_getR 17 g ff_Judge_12 rfl rfl rfl d_Judge_byColours_14 ?_
  refine v_aload_n 0 g d_Judge_byColours_17 rfl ?_
  refine v_getR 1 g ff_Judge_18 rfl rfl rfl d_Judge_byColours_18 ?_
  refine v_iload_n 1 g d_Judge_byColours_21 rfl ?_
  refine v_callU (r_V (rest := []) [.ref (E.2.1 1), .int a1] g (m1 512 (by decide +kernel) (by decide +kernel)) yv_Ranking_group rfl (fun r σ1 h => sp_Ranking_group g.2.2.1 rfl h) rfl rfl (by decide) (Nat.le_of_ble_eq_true rfl) d_Judge_byColours_22) (fun q2 => ?_)
  refine v_iconst (v := (0 : Int32)) g d_Judge_byColours_25 (by decide +kernel) ?_
  refine v_istore [(5, .int (0 : Int32)), (0, .ref (E.2.1 16)), (1, .int a1), (2, .int a2), (3, .long a3)] g d_Judge_byColours_26 (by decide) rfl ?_
  refine v_iconst (v := (0 : Int32)) g d_Judge_byColours_28 (by decide +kernel) ?_
  refine v_istore [(6, .int (0 : Int32)), (5, .int (0 : Int32)), (0, .ref (E.2.1 16)), (1, .int a1), (2, .int a2), (3, .long a3)] g d_Judge_byColours_29 (by decide) rfl ?_
  exact v_sub [2,4,1,0] rfl (vL_Judge_byColours_31 g LF a2 (0 : Int32) (0 : Int32) q2.2)
def f_Judge_byColours (a1 : Int32) (a2 : Int32) (a3 : Int64) (σ : Sto) : Option (Int32 × Sto) := B_Judge_byColours_0 a1 a2 a3 σ
theorem sp_Judge_byColours {l : Launch} {E : En} (hE : Dj E) {a1 : Int32} {a2 : Int32} {a3 : Int64} {σ : Sto} {r : Int32} {σ' : Sto} (h : f_Judge_byColours a1 a2 a3 σ = some (r, σ')) : Ct l E y_Judge_byColours (wsM y_Judge_byColours b_Judge_byColours 7 (some .int)) 4 [.ref (E.2.1 16), .int a1, .int a2, .long a3] σ (eI r) σ' :=
  ct_of hE (by decide +kernel) (Nat.le_of_ble_eq_true rfl) (fun x => Or.inl ⟨rfl, x, rfl⟩) (fun X _ g => vB_Judge_byColours_0 g a1 a2 a3 σ) r σ' h
/-! method FittingRings$Judge.byCore(IIJ)I -/
theorem yv_Judge_byCore : YV y_Judge_byCore b_Judge_byCore 12 (some .int) 3 2 := ⟨m1 567 (by decide +kernel) (by decide +kernel), m1 4 (by decide +kernel) (by decide +kernel), ini_Judge, m1 568 (by decide +kernel) (by decide +kernel), ⟨by decide +kernel, by decide +kernel, by decide +kernel⟩, by decide, by decide, T_Judge, 2, rfl⟩
theorem d_Judge_byCore_0 : decode b_Judge_byCore 0 = .ok (.aload_n 0, 1) := by decide +kernel
theorem d_Judge_byCore_1 : decode b_Judge_byCore 1 = .ok (.getfield 12, 3) := by decide +kernel
theorem d_Judge_byCore_4 : decode b_Judge_byCore 4 = .ok (.aload_n 0, 1) := by decide +kernel
theorem d_Judge_byCore_5 : decode b_Judge_byCore 5 = .ok (.getfield 18, 3) := by decide +kernel
theorem d_Judge_byCore_8 : decode b_Judge_byCore 8 = .ok (.iload_n 1, 1) := by decide +kernel
theorem d_Judge_byCore_9 : decode b_Judge_byCore 9 = .ok (.lload_n 3, 1) := by decide +kernel
theorem d_Judge_byCore_10 : decode b_Judge_byCore 10 = .ok (.invokevirtual 22, 3) := by decide +kernel
theorem d_Judge_byCore_13 : decode b_Judge_byCore 13 = .ok (.iconst 0, 1) := by decide +kernel
theorem d_Judge_byCore_14 : decode b_Judge_byCore 14 = .ok (.istore 5, 2) := by decide +kernel
theorem d_Judge_byCore_16 : decode b_Judge_byCore 16 = .ok (.lconst 0, 1) := by decide +kernel
theorem d_Judge_byCore_17 : decode b_Judge_byCore 17 = .ok (.lstore 6, 2) := by decide +kernel
theorem d_Judge_byCore_19 : decode b_Judge_byCore 19 = .ok (.aload_n 0, 1) := by decide +kernel
theorem d_Judge_byCore_20 : decode b_Judge_byCore 20 = .ok (.getfield 12, 3) := by decide +kernel
theorem d_Judge_byCore_23 : decode b_Judge_byCore 23 = .ok (.getfield 75, 3) := by decide +kernel
theorem d_Judge_byCore_26 : decode b_Judge_byCore 26 = .ok (.iconst 1, 1) := by decide +kernel
theorem d_Judge_byCore_27 : decode b_Judge_byCore 27 = .ok (.isub, 1) := by decide +kernel
theorem d_Judge_byCore_28 : decode b_Judge_byCore 28 = .ok (.istore 8, 2) := by decide +kernel
theorem d_Judge_byCore_30 : decode b_Judge_byCore 30 = .ok (.iload 8, 2) := by decide +kernel
theorem d_Judge_byCore_32 : decode b_Judge_byCore 32 = .ok (.ifCond .lt 64, 3) := by decide +kernel
theorem d_Judge_byCore_35 : decode b_Judge_byCore 35 = .ok (.aload_n 0, 1) := by decide +kernel
theorem d_Judge_byCore_36 : decode b_Judge_byCore 36 = .ok (.getfield 12, 3) := by decide +kernel
theorem d_Judge_byCore_39 : decode b_Judge_byCore 39 = .ok (.getfield 78, 3) := by decide +kernel
theorem d_Judge_byCore_42 : decode b_Judge_byCore 42 = .ok (.iload 8, 2) := by decide +kernel
theorem d_Judge_byCore_44 : decode b_Judge_byCore 44 = .ok (.iaload, 1) := by decide +kernel
theorem d_Judge_byCore_45 : decode b_Judge_byCore 45 = .ok (.istore 9, 2) := by decide +kernel
theorem d_Judge_byCore_47 : decode b_Judge_byCore 47 = .ok (.lconst 1, 1) := by decide +kernel
theorem d_Judge_byCore_48 : decode b_Judge_byCore 48 = .ok (.iload 9, 2) := by decide +kernel
theorem d_Judge_byCore_50 : decode b_Judge_byCore 50 = .ok (.lshl, 1) := by decide +kernel
theorem d_Judge_byCore_51 : decode b_Judge_byCore 51 = .ok (.lstore 10, 2) := by decide +kernel
theorem d_Judge_byCore_53 : decode b_Judge_byCore 53 = .ok (.iload 5, 2) := by decide +kernel
theorem d_Judge_byCore_55 : decode b_Judge_byCore 55 = .ok (.aload_n 0, 1) := by decide +kernel
theorem d_Judge_byCore_56 : decode b_Judge_byCore 56 = .ok (.getfield 18, 3) := by decide +kernel
theorem d_Judge_byCore_59 : decode b_Judge_byCore 59 = .ok (.iload_n 2, 1) := by decide +kernel
theorem d_Judge_byCore_60 : decode b_Judge_byCore 60 = .ok (.aload_n 0, 1) := by decide +kernel
theorem d_Judge_byCore_61 : decode b_Judge_byCore 61 = .ok (.getfield 18, 3) := by decide +kernel
theorem d_Judge_byCore_64 : decode b_Judge_byCore 64 = .ok (.iload_n 1, 1) := by decide +kernel
theorem d_Judge_byCore_65 : decode b_Judge_byCore 65 = .ok (.iload 9, 2) := by decide +kernel
theorem d_Judge_byCore_67 : decode b_Judge_byCore 67 = .ok (.lload 6, 2) := by decide +kernel
theorem d_Judge_byCore_69 : decode b_Judge_byCore 69 = .ok (.invokevirtual 82, 3) := by decide +kernel
theorem d_Judge_byCore_72 : decode b_Judge_byCore 72 = .ok (.lload 10, 2) := by decide +kernel
theorem d_Judge_byCore_74 : decode b_Judge_byCore 74 = .ok (.lor, 1) := by decide +kernel
theorem d_Judge_byCore_75 : decode b_Judge_byCore 75 = .ok (.invokevirtual 45, 3) := by decide +kernel
theorem d_Judge_byCore_78 : decode b_Judge_byCore 78 = .ok (.invokestatic 55, 3) := by decide +kernel
theorem d_Judge_byCore_81 : decode b_Judge_byCore 81 = .ok (.istore 5, 2) := by decide +kernel
theorem d_Judge_byCore_83 : decode b_Judge_byCore 83 = .ok (.lload 6, 2) := by decide +kernel
theorem d_Judge_byCore_85 : decode b_Judge_byCore 85 = .ok (.lload 10, 2) := by decide +kernel
theorem d_Judge_byCore_87 : decode b_Judge_byCore 87 = .ok (.lor, 1) := by decide +kernel
theorem d_Judge_byCore_88 : decode b_Judge_byCore 88 = .ok (.lstore 6, 2) := by decide +kernel
theorem d_Judge_byCore_90 : decode b_Judge_byCore 90 = .ok (.iinc 8 (-1), 3) := by decide +kernel
theorem d_Judge_byCore_93 : decode b_Judge_byCore 93 = .ok (.goto (-63), 3) := by decide +kernel
theorem d_Judge_byCore_96 : decode b_Judge_byCore 96 = .ok (.iload 5, 2) := by decide +kernel
theorem d_Judge_byCore_98 : decode b_Judge_byCore 98 = .ok (.ireturn, 1) := by decide +kernel
def B_Judge_byCore_30 (k30 : Int32 → Int32 → Int32 → Int64 → Int32 → Sto → Option (Int32 × Sto)) (v1 : Int32) (v2 : Int32) (v5 : Int32) (v6 : Int64) (v8 : Int32) (σ : Sto) : Option (Int32 × Sto) :=
  (if v8 < 0 then some (v5, σ)
 else (if inb v8 40 = true then (lt1 (gI σ 18 (Int32.toNatClampNeg v8)) fun x3 => ((f_Net_fitting 1 v1 x3 v6 σ).bind fun q4 => ((f_Net_worth 1 v2 (q4.1 ||| (lsh (1 : Int64) x3)) q4.2).bind fun q5 => (lt1 (v6 ||| (lsh (1 : Int64) x3)) fun x6 => k30 v1 v2 (mxI v5 q5.1) x6 (v8 + (-1 : Int32)) q5.2)))) else none))
set_option maxHeartbeats 4000000 in
set_option maxRecDepth 100000 in
theorem vB_Judge_byCore_30 {X : Xt} {E : En} (g : GG X E 4 b_Judge_byCore R_Judge 12) {k30 : Int32 → Int32 → Int32 → Int64 → Int32 → Sto → Option (Int32 × Sto)} (hk30 : ∀ (v1 : Int32) (v2 : Int32) (v5 : Int32) (v6 : Int64) (v8 : Int32) (σ : Sto), VV X E b_Judge_byCore 12 eI 30 [(0, .ref (E.2.1 16)), (1, .int v1), (2, .int v2), (5, .int v5), (6, .long v6), (8, .int v8)] [] σ (k30 v1 v2 v5 v6 v8 σ)) (v1 : Int32) (v2 : Int32) (v5 : Int32) (v6 : Int64) (v8 : Int32) (σ : Sto) : VV X E b_Judge_byCore 12 eI 30 [(0, .ref (E.2.1 16)), (1, .int v1), (2, .int v2), (5, .int v5), (6, .long v6), (8, .int v8)] [] σ (B_Judge_byCore_30 k30 v1 v2 v5 v6 v8 σ) := by
  unfold B_Judge_byCore_30
  refine v_iload 5 g d_Judge_byCore_30 rfl ?_
  refine v_if_lt 96 g d_Judge_byCore_32 (by decide) (fun _ => ?_) (fun _ => ?_)
  · refine v_iload 3 g d_Judge_byCore_96 rfl ?_
    exact v_ret d_Judge_byCore_98 rfl
  · refine v_aload_n 0 g d_Judge_byCore_35 rfl ?_
    refine v_getR 17 g ff_Judge_12 rfl rfl rfl d_Judge_byCore_36 ?_
    refine v_getR 18 g ff_Judge_78 rfl rfl rfl d_Judge_byCore_39 ?_
    refine v_iload 5 g d_Judge_byCore_42 rfl ?_
    refine v_iald g rfl rfl d_Judge_byCore_44 (fun _ => ?_)
    refine v_nlet (fun x3 ex3 => ?_)
    rw [← ex3]
    refine v_istore [(9, .int x3), (0, .ref (E.2.1 16)), (1, .int v1), (2, .int v2), (5, .int v5), (6, .long v6), (8, .int v8)] g d_Judge_byCore_45 (by decide) rfl ?_
    refine v_lconst (v := (1 : Int64)) g d_Judge_byCore_47 (by decide +kernel) ?_
    refine v_iload 0 g d_Judge_byCore_48 rfl ?_
    refine v_lshl g d_Judge_byCore_50 ?_
    refine v_lstore [(10, .long (lsh (1 : Int64) x3)), (9, .int x3), (0, .ref (E.2.1 16)), (1, .int v1), (2, .int v2), (5, .int v5), (6, .long v6), (8, .int v8)] g d_Judge_byCore_51 (by decide) rfl ?_
    refine v_iload 5 g d_Judge_byCore_53 rfl ?_
    refine v_aload_n 2 g d_Judge_byCore_55 rfl ?_
    refine v_getR 1 g ff_Judge_18 rfl rfl rfl d_Judge_byCore_56 ?_
    refine v_iload_n 4 g d_Judge_byCore_59 rfl ?_
    refine v_aload_n 2 g d_Judge_byCore_60 rfl ?_
    refine v_getR 1 g ff_Judge_18 rfl rfl rfl d_Judge_byCore_61 ?_
    refine v_iload_n 3 g d_Judge_byCore_64 rfl ?_
    refine v_iload 1 g d_Judge_byCore_65 rfl ?_
    refine v_lload 6 g d_Judge_byCore_67 rfl ?_
    refine v_callL (r_V (rest := [.int v2, .ref (E.2.1 1), .int v5]) [.int v1, .int x3, .long v6] g (m1 538 (by decide +kernel) (by decide +kernel)) yv_Net_fitting rfl (fun r σ1 h => sp_Net_fitting g.2.2.1 rfl h) rfl rfl (by decide) (Nat.le_of_ble_eq_true rfl) d_Judge_byCore_69) (fun q4 => ?_)
    refine v_lload 0 g d_Judge_byCore_72 rfl ?_
    refine v_lor g d_Judge_byCore_74 ?_
    refine v_callI (r_V (rest := [.int v5]) [.int v2, .long (q4.1 ||| (lsh (1 : Int64) x3))] g (m1 539 (by decide +kernel) (by decide +kernel)) yv_Net_worth rfl (fun r σ1 h => sp_Net_worth g.2.2.1 rfl h) rfl rfl (by decide) (Nat.le_of_ble_eq_true rfl) d_Judge_byCore_75) (fun q5 => ?_)
    refine v_mmax g (m1 569 (by decide +kernel) (by decide +kernel)) (by decide) (Nat.le_of_ble_eq_true rfl) d_Judge_byCore_78 ?_
    refine v_istore [(5, .int (mxI v5 q5.1)), (10, .long (lsh (1 : Int64) x3)), (9, .int x3), (0, .ref (E.2.1 16)), (1, .int v1), (2, .int v2), (6, .long v6), (8, .int v8)] g d_Judge_byCore_81 (by decide) rfl ?_
    refine v_lload 6 g d_Judge_byCore_83 rfl ?_
    refine v_lload 1 g d_Judge_byCore_85 rfl ?_
    refine v_lor g d_Judge_byCore_87 ?_
    refine v_nlet (fun x6 ex6 => ?_)
    rw [← ex6]
    refine v_lstore [(6, .long x6), (5, .int (mxI v5 q5.1)), (10, .long (lsh (1 : Int64) x3)), (9, .int x3), (0, .ref (E.2.1 16)), (1, .int v1), (2, .int v2), (8, .int v8)] g d_Judge_byCore_88 (by decide) rfl ?_
    refine v_iinc 7 [(8, .int (v8 + (-1 : Int32))), (6, .long x6), (5, .int (mxI v5 q5.1)), (10, .long (lsh (1 : Int64) x3)), (9, .int x3), (0, .ref (E.2.1 16)), (1, .int v1), (2, .int v2)] g d_Judge_byCore_90 rfl (v := (-1 : Int32)) (by decide +kernel) (by decide) rfl ?_
    refine v_goto 30 g d_Judge_byCore_93 (by decide) ?_
    exact v_sub [5,6,7,2,1,0] rfl (hk30 v1 v2 (mxI v5 q5.1) x6 (v8 + (-1 : Int32)) q5.2)
def L_Judge_byCore_30 : Nat → Int32 → Int32 → Int32 → Int64 → Int32 → Sto → Option (Int32 × Sto)
  | 0, _, _, _, _, _, _ => none
  | fu + 1, v1, v2, v5, v6, v8, σ => B_Judge_byCore_30 (L_Judge_byCore_30 fu) v1 v2 v5 v6 v8 σ
theorem vL_Judge_byCore_30 {X : Xt} {E : En} (g : GG X E 4 b_Judge_byCore R_Judge 12) (fu : Nat) : ∀ (v1 : Int32) (v2 : Int32) (v5 : Int32) (v6 : Int64) (v8 : Int32) (σ : Sto), VV X E b_Judge_byCore 12 eI 30 [(0, .ref (E.2.1 16)), (1, .int v1), (2, .int v2), (5, .int v5), (6, .long v6), (8, .int v8)] [] σ (L_Judge_byCore_30 fu v1 v2 v5 v6 v8 σ) := by
  induction fu with
  | zero => intros; exact v_none
  | succ fu ih =>
    intro v1 v2 v5 v6 v8 σ
    exact vB_Judge_byCore_30 g ih v1 v2 v5 v6 v8 σ
def B_Judge_byCore_0 (a1 : Int32) (a2 : Int32) (a3 : Int64) (σ : Sto) : Option (Int32 × Sto) :=
  ((f_Ranking_rank 1 a1 a3 σ).bind fun q1 => (lt1 ((gI q1.2 17 1) - (1 : Int32)) fun x2 => L_Judge_byCore_30 LF a1 a2 (0 : Int32) (0 : Int64) x2 q1.2))
set_option maxHeartbeats 4000000 in
set_option maxRecDepth 100000 in
theorem vB_Judge_byCore_0 {X : Xt} {E : En} (g : GG X E 4 b_Judge_byCore R_Judge 12) (a1 : Int32) (a2 : Int32) (a3 : Int64) (σ : Sto) : VV X E b_Judge_byCore 12 eI 0 [(0, .ref (E.2.1 16)), (1, .int a1), (2, .int a2), (3, .long a3)] [] σ (B_Judge_byCore_0 a1 a2 a3 σ) := by
  unfold B_Judge_byCore_0
  refine v_aload_n 0 g d_Judge_byCore_0 rfl ?_
  refine v_getR 17 g ff_Judge_12 rfl rfl rfl d_Judge_byCore_1 ?_
  refine v_aload_n 0 g d_Judge_byCore_4 rfl ?_
  refine v_getR 1 g ff_Judge_18 rfl rfl rfl d_Judge_byCore_5 ?_
  refine v_iload_n 1 g d_Judge_byCore_8 rfl ?_
  refine v_lload_n 3 g d_Judge_byCore_9 rfl ?_
  refine v_callU (r_V (rest := []) [.ref (E.2.1 1), .int a1, .long a3] g (m1 490 (by decide +kernel) (by decide +kernel)) yv_Ranking_rank rfl (fun r σ1 h => sp_Ranking_rank g.2.2.1 rfl h) rfl rfl (by decide) (Nat.le_of_ble_eq_true rfl) d_Judge_byCore_10) (fun q1 => ?_)
  refine v_iconst (v := (0 : Int32)) g d_Judge_byCore_13 (by decide +kernel) ?_
  refine v_istore [(5, .int (0 : Int32)), (0, .ref (E.2.1 16)), (1, .int a1), (2, .int a2), (3, .long a3)] g d_Judge_byCore_14 (by decide) rfl ?_
  refine v_lconst (v := (0 : Int64)) g d_Judge_byCore_16 (by decide +kernel) ?_
  refine v_lstore [(6, .long (0 : Int64)), (5, .int (0 : Int32)), (0, .ref (E.2.1 16)), (1, .int a1), (2, .int a2), (3, .long a3)] g d_Judge_byCore_17 (by decide) rfl ?_
  refine v_aload_n 2 g d_Judge_byCore_19 rfl ?_
  refine v_getR 17 g ff_Judge_12 rfl rfl rfl d_Judge_byCore_20 ?_
  refine v_getI g ff_Judge_75 rfl rfl d_Judge_byCore_23 ?_
  refine v_iconst (v := (1 : Int32)) g d_Judge_byCore_26 (by decide +kernel) ?_
  refine v_isub g d_Judge_byCore_27 ?_
  refine v_nlet (fun x2 ex2 => ?_)
  rw [← ex2]
  refine v_istore [(8, .int x2), (6, .long (0 : Int64)), (5, .int (0 : Int32)), (0, .ref (E.2.1 16)), (1, .int a1), (2, .int a2), (3, .long a3)] g d_Judge_byCore_28 (by decide) rfl ?_
  exact v_sub [3,4,5,2,1,0] rfl (vL_Judge_byCore_30 g LF a1 a2 (0 : Int32) (0 : Int64) x2 q1.2)
def f_Judge_byCore (a1 : Int32) (a2 : Int32) (a3 : Int64) (σ : Sto) : Option (Int32 × Sto) := B_Judge_byCore_0 a1 a2 a3 σ
theorem sp_Judge_byCore {l : Launch} {E : En} (hE : Dj E) {a1 : Int32} {a2 : Int32} {a3 : Int64} {σ : Sto} {r : Int32} {σ' : Sto} (h : f_Judge_byCore a1 a2 a3 σ = some (r, σ')) : Ct l E y_Judge_byCore (wsM y_Judge_byCore b_Judge_byCore 12 (some .int)) 4 [.ref (E.2.1 16), .int a1, .int a2, .long a3] σ (eI r) σ' :=
  ct_of hE (by decide +kernel) (Nat.le_of_ble_eq_true rfl) (fun x => Or.inl ⟨rfl, x, rfl⟩) (fun X _ g => vB_Judge_byCore_0 g a1 a2 a3 σ) r σ' h
/-! method FittingRings$Judge.most(IIIJ)I -/
theorem yv_Judge_most : YV y_Judge_most b_Judge_most 9 (some .int) 4 2 := ⟨m1 550 (by decide +kernel) (by decide +kernel), m1 551 (by decide +kernel) (by decide +kernel), ini_Judge, m1 552 (by decide +kernel) (by decide +kernel), ⟨by decide +kernel, by decide +kernel, by decide +kernel⟩, by decide, by decide, T_Judge, 2, rfl⟩
theorem d_Judge_most_0 : decode b_Judge_most 0 = .ok (.lload 4, 2) := by decide +kernel
theorem d_Judge_most_2 : decode b_Judge_most 2 = .ok (.lconst 0, 1) := by decide +kernel
theorem d_Judge_most_3 : decode b_Judge_most 3 = .ok (.lcmp, 1) := by decide +kernel
theorem d_Judge_most_4 : decode b_Judge_most 4 = .ok (.ifCond .ne 5, 3) := by decide +kernel
theorem d_Judge_most_7 : decode b_Judge_most 7 = .ok (.iconst 0, 1) := by decide +kernel
theorem d_Judge_most_8 : decode b_Judge_most 8 = .ok (.ireturn, 1) := by decide +kernel
theorem d_Judge_most_9 : decode b_Judge_most 9 = .ok (.iload_n 1, 1) := by decide +kernel
theorem d_Judge_most_10 : decode b_Judge_most 10 = .ok (.tableswitch 123 0 4 #[123, 34, 43, 52, 103], 34) := by decide +kernel
theorem d_Judge_most_44 : decode b_Judge_most 44 = .ok (.aload_n 0, 1) := by decide +kernel
theorem d_Judge_most_45 : decode b_Judge_most 45 = .ok (.iload_n 2, 1) := by decide +kernel
theorem d_Judge_most_46 : decode b_Judge_most 46 = .ok (.iload_n 3, 1) := by decide +kernel
theorem d_Judge_most_47 : decode b_Judge_most 47 = .ok (.lload 4, 2) := by decide +kernel
theorem d_Judge_most_49 : decode b_Judge_most 49 = .ok (.invokevirtual 30, 3) := by decide +kernel
theorem d_Judge_most_52 : decode b_Judge_most 52 = .ok (.ireturn, 1) := by decide +kernel
theorem d_Judge_most_53 : decode b_Judge_most 53 = .ok (.aload_n 0, 1) := by decide +kernel
theorem d_Judge_most_54 : decode b_Judge_most 54 = .ok (.iload_n 2, 1) := by decide +kernel
theorem d_Judge_most_55 : decode b_Judge_most 55 = .ok (.iload_n 3, 1) := by decide +kernel
theorem d_Judge_most_56 : decode b_Judge_most 56 = .ok (.lload 4, 2) := by decide +kernel
theorem d_Judge_most_58 : decode b_Judge_most 58 = .ok (.invokevirtual 34, 3) := by decide +kernel
theorem d_Judge_most_61 : decode b_Judge_most 61 = .ok (.ireturn, 1) := by decide +kernel
theorem d_Judge_most_62 : decode b_Judge_most 62 = .ok (.aload_n 0, 1) := by decide +kernel
theorem d_Judge_most_63 : decode b_Judge_most 63 = .ok (.iload_n 2, 1) := by decide +kernel
theorem d_Judge_most_64 : decode b_Judge_most 64 = .ok (.lload 4, 2) := by decide +kernel
theorem d_Judge_most_66 : decode b_Judge_most 66 = .ok (.invokevirtual 37, 3) := by decide +kernel
theorem d_Judge_most_69 : decode b_Judge_most 69 = .ok (.aload_n 0, 1) := by decide +kernel
theorem d_Judge_most_70 : decode b_Judge_most 70 = .ok (.getfield 18, 3) := by decide +kernel
theorem d_Judge_most_73 : decode b_Judge_most 73 = .ok (.iload_n 2, 1) := by decide +kernel
theorem d_Judge_most_74 : decode b_Judge_most 74 = .ok (.invokevirtual 41, 3) := by decide +kernel
theorem d_Judge_most_77 : decode b_Judge_most 77 = .ok (.lstore 6, 2) := by decide +kernel
theorem d_Judge_most_79 : decode b_Judge_most 79 = .ok (.aload_n 0, 1) := by decide +kernel
theorem d_Judge_most_80 : decode b_Judge_most 80 = .ok (.getfield 18, 3) := by decide +kernel
theorem d_Judge_most_83 : decode b_Judge_most 83 = .ok (.iload_n 3, 1) := by decide +kernel
theorem d_Judge_most_84 : decode b_Judge_most 84 = .ok (.lload 6, 2) := by decide +kernel
theorem d_Judge_most_86 : decode b_Judge_most 86 = .ok (.invokevirtual 45, 3) := by decide +kernel
theorem d_Judge_most_89 : decode b_Judge_most 89 = .ok (.istore 8, 2) := by decide +kernel
theorem d_Judge_most_91 : decode b_Judge_most 91 = .ok (.iload 8, 2) := by decide +kernel
theorem d_Judge_most_93 : decode b_Judge_most 93 = .ok (.aload_n 0, 1) := by decide +kernel
theorem d_Judge_most_94 : decode b_Judge_most 94 = .ok (.iload_n 2, 1) := by decide +kernel
theorem d_Judge_most_95 : decode b_Judge_most 95 = .ok (.iload_n 3, 1) := by decide +kernel
theorem d_Judge_most_96 : decode b_Judge_most 96 = .ok (.aload_n 0, 1) := by decide +kernel
theorem d_Judge_most_97 : decode b_Judge_most 97 = .ok (.iload_n 2, 1) := by decide +kernel
theorem d_Judge_most_98 : decode b_Judge_most 98 = .ok (.iload_n 3, 1) := by decide +kernel
theorem d_Judge_most_99 : decode b_Judge_most 99 = .ok (.lload 4, 2) := by decide +kernel
theorem d_Judge_most_101 : decode b_Judge_most 101 = .ok (.iload 8, 2) := by decide +kernel
theorem d_Judge_most_103 : decode b_Judge_most 103 = .ok (.invokevirtual 51, 3) := by decide +kernel
theorem d_Judge_most_106 : decode b_Judge_most 106 = .ok (.invokevirtual 30, 3) := by decide +kernel
theorem d_Judge_most_109 : decode b_Judge_most 109 = .ok (.invokestatic 55, 3) := by decide +kernel
theorem d_Judge_most_112 : decode b_Judge_most 112 = .ok (.ireturn, 1) := by decide +kernel
theorem d_Judge_most_113 : decode b_Judge_most 113 = .ok (.aload_n 0, 1) := by decide +kernel
theorem d_Judge_most_114 : decode b_Judge_most 114 = .ok (.iload_n 2, 1) := by decide +kernel
theorem d_Judge_most_115 : decode b_Judge_most 115 = .ok (.iload_n 3, 1) := by decide +kernel
theorem d_Judge_most_116 : decode b_Judge_most 116 = .ok (.lload 4, 2) := by decide +kernel
theorem d_Judge_most_118 : decode b_Judge_most 118 = .ok (.invokevirtual 34, 3) := by decide +kernel
theorem d_Judge_most_121 : decode b_Judge_most 121 = .ok (.aload_n 0, 1) := by decide +kernel
theorem d_Judge_most_122 : decode b_Judge_most 122 = .ok (.iload_n 2, 1) := by decide +kernel
theorem d_Judge_most_123 : decode b_Judge_most 123 = .ok (.iload_n 3, 1) := by decide +kernel
theorem d_Judge_most_124 : decode b_Judge_most 124 = .ok (.lload 4, 2) := by decide +kernel
theorem d_Judge_most_126 : decode b_Judge_most 126 = .ok (.invokevirtual 30, 3) := by decide +kernel
theorem d_Judge_most_129 : decode b_Judge_most 129 = .ok (.invokestatic 61, 3) := by decide +kernel
theorem d_Judge_most_132 : decode b_Judge_most 132 = .ok (.ireturn, 1) := by decide +kernel
theorem d_Judge_most_133 : decode b_Judge_most 133 = .ok (.aload_n 0, 1) := by decide +kernel
theorem d_Judge_most_134 : decode b_Judge_most 134 = .ok (.getfield 18, 3) := by decide +kernel
theorem d_Judge_most_137 : decode b_Judge_most 137 = .ok (.iload_n 3, 1) := by decide +kernel
theorem d_Judge_most_138 : decode b_Judge_most 138 = .ok (.lload 4, 2) := by decide +kernel
theorem d_Judge_most_140 : decode b_Judge_most 140 = .ok (.invokevirtual 45, 3) := by decide +kernel
theorem d_Judge_most_143 : decode b_Judge_most 143 = .ok (.ireturn, 1) := by decide +kernel
def B_Judge_most_0 (a1 : Int32) (a2 : Int32) (a3 : Int32) (a4 : Int64) (σ : Sto) : Option (Int32 × Sto) :=
  (if a4 = (0 : Int64) then some ((0 : Int32), σ)
 else (if a1 = (0 : Int32) then ((f_Net_worth 1 a3 a4 σ).bind fun q1 => some (q1.1, q1.2))
  else (if a1 = (1 : Int32) then ((f_Judge_byColours a2 a3 a4 σ).bind fun q2 => some (q2.1, q2.2))
   else (if a1 = (2 : Int32) then ((f_Judge_byCore a2 a3 a4 σ).bind fun q3 => some (q3.1, q3.2))
    else (if a1 = (3 : Int32) then ((f_Judge_ranked a2 a4 σ).bind fun q4 => ((f_Ranking_greedyRing 1 a2 q4.2).bind fun q5 => ((f_Net_worth 1 a3 q5.1 q5.2).bind fun q6 => ((f_Judge_withoutBare a2 a3 a4 q6.1 q6.2).bind fun q7 => ((f_Judge_byColours a2 a3 q7.1 q7.2).bind fun q8 => some ((mxI q6.1 q8.1), q8.2))))))
     else (if a1 = (4 : Int32) then ((f_Judge_byCore a2 a3 a4 σ).bind fun q9 => ((f_Judge_byColours a2 a3 a4 q9.2).bind fun q10 => some ((mnI q9.1 q10.1), q10.2)))
      else ((f_Net_worth 1 a3 a4 σ).bind fun q11 => some (q11.1, q11.2))))))))
set_option maxHeartbeats 4000000 in
set_option maxRecDepth 100000 in
theorem vB_Judge_most_0 {X : Xt} {E : En} (g : GG X E 5 b_Judge_most R_Judge 9) (a1 : Int32) (a2 : Int32) (a3 : Int32) (a4 : Int64) (σ : Sto) : VV X E b_Judge_most 9 eI 0 [(0, .ref (E.2.1 16)), (1, .int a1), (2, .int a2), (3, .int a3), (4, .long a4)] [] σ (B_Judge_most_0 a1 a2 a3 a4 σ) := by
  unfold B_Judge_most_0
  refine v_lload 4 g d_Judge_most_0 rfl ?_
  refine v_lconst (v := (0 : Int64)) g d_Judge_most_2 (by decide +kernel) ?_
  refine v_lcmp_ne 9 g d_Judge_most_3 d_Judge_most_4 (by decide) (fun _ => ?_) (fun _ => ?_)
  · refine v_iload_n 1 g d_Judge_most_9 rfl ?_
    refine v_ite _ (fun h_0 => ?_) (fun h_0 => ?_)
    · refine v_tableIn 133 g d_Judge_most_10 (by rw [h_0]; decide +kernel) (by rw [h_0]; decide +kernel) (off := 123) (by rw [h_0]; decide +kernel) (by decide) ?_
      refine v_aload_n 0 g d_Judge_most_133 rfl ?_
      refine v_getR 1 g ff_Judge_18 rfl rfl rfl d_Judge_most_134 ?_
      refine v_iload_n 3 g d_Judge_most_137 rfl ?_
      refine v_lload 4 g d_Judge_most_138 rfl ?_
      refine v_callI (r_V (rest := []) [.int a3, .long a4] g (m1 539 (by decide +kernel) (by decide +kernel)) yv_Net_worth rfl (fun r σ1 h => sp_Net_worth g.2.2.1 rfl h) rfl rfl (by decide) (Nat.le_of_ble_eq_true rfl) d_Judge_most_140) (fun q1 => ?_)
      exact v_ret d_Judge_most_143 rfl
    · refine v_ite _ (fun h_1 => ?_) (fun h_1 => ?_)
      · refine v_tableIn 44 g d_Judge_most_10 (by rw [h_1]; decide +kernel) (by rw [h_1]; decide +kernel) (off := 34) (by rw [h_1]; decide +kernel) (by decide) ?_
        refine v_aload_n 0 g d_Judge_most_44 rfl ?_
        refine v_iload_n 2 g d_Judge_most_45 rfl ?_
        refine v_iload_n 3 g d_Judge_most_46 rfl ?_
        refine v_lload 4 g d_Judge_most_47 rfl ?_
        refine v_callI (r_V (rest := []) [.int a2, .int a3, .long a4] g (m1 553 (by decide +kernel) (by decide +kernel)) yv_Judge_byColours rfl (fun r σ1 h => sp_Judge_byColours g.2.2.1  h) rfl rfl (by decide) (Nat.le_of_ble_eq_true rfl) d_Judge_most_49) (fun q2 => ?_)
        exact v_ret d_Judge_most_52 rfl
      · refine v_ite _ (fun h_2 => ?_) (fun h_2 => ?_)
        · refine v_tableIn 53 g d_Judge_most_10 (by rw [h_2]; decide +kernel) (by rw [h_2]; decide +kernel) (off := 43) (by rw [h_2]; decide +kernel) (by decide) ?_
          refine v_aload_n 0 g d_Judge_most_53 rfl ?_
          refine v_iload_n 2 g d_Judge_most_54 rfl ?_
          refine v_iload_n 3 g d_Judge_most_55 rfl ?_
          refine v_lload 4 g d_Judge_most_56 rfl ?_
          refine v_callI (r_V (rest := []) [.int a2, .int a3, .long a4] g (m1 565 (by decide +kernel) (by decide +kernel)) yv_Judge_byCore rfl (fun r σ1 h => sp_Judge_byCore g.2.2.1  h) rfl rfl (by decide) (Nat.le_of_ble_eq_true rfl) d_Judge_most_58) (fun q3 => ?_)
          exact v_ret d_Judge_most_61 rfl
        · refine v_ite _ (fun h_3 => ?_) (fun h_3 => ?_)
          · refine v_tableIn 62 g d_Judge_most_10 (by rw [h_3]; decide +kernel) (by rw [h_3]; decide +kernel) (off := 52) (by rw [h_3]; decide +kernel) (by decide) ?_
            refine v_aload_n 0 g d_Judge_most_62 rfl ?_
            refine v_iload_n 2 g d_Judge_most_63 rfl ?_
            refine v_lload 4 g d_Judge_most_64 rfl ?_
            refine v_callC (r_V (rest := []) [.int a2, .long a4] g (m1 570 (by decide +kernel) (by decide +kernel)) yv_Judge_ranked rfl (fun r σ1 h => sp_Judge_ranked g.2.2.1  h) rfl rfl (by decide) (Nat.le_of_ble_eq_true rfl) d_Judge_most_66) (fun q4 => ?_)
            refine v_aload_n 0 g d_Judge_most_69 rfl ?_
            refine v_getR 1 g ff_Judge_18 rfl rfl rfl d_Judge_most_70 ?_
            refine v_iload_n 2 g d_Judge_most_73 rfl ?_
            refine v_callL (r_V (rest := []) [.ref (E.2.1 1), .int a2] g (m1 571 (by decide +kernel) (by decide +kernel)) yv_Ranking_greedyRing rfl (fun r σ1 h => sp_Ranking_greedyRing g.2.2.1 rfl h) rfl rfl (by decide) (Nat.le_of_ble_eq_true rfl) d_Judge_most_74) (fun q5 => ?_)
            refine v_lstore [(6, .long q5.1), (0, .ref (E.2.1 16)), (1, .int a1), (2, .int a2), (3, .int a3), (4, .long a4)] g d_Judge_most_77 (by decide) rfl ?_
            refine v_aload_n 1 g d_Judge_most_79 rfl ?_
            refine v_getR 1 g ff_Judge_18 rfl rfl rfl d_Judge_most_80 ?_
            refine v_iload_n 4 g d_Judge_most_83 rfl ?_
            refine v_lload 0 g d_Judge_most_84 rfl ?_
            refine v_callI (r_V (rest := []) [.int a3, .long q5.1] g (m1 539 (by decide +kernel) (by decide +kernel)) yv_Net_worth rfl (fun r σ1 h => sp_Net_worth g.2.2.1 rfl h) rfl rfl (by decide) (Nat.le_of_ble_eq_true rfl) d_Judge_most_86) (fun q6 => ?_)
            refine v_istore [(8, .int q6.1), (6, .long q5.1), (0, .ref (E.2.1 16)), (1, .int a1), (2, .int a2), (3, .int a3), (4, .long a4)] g d_Judge_most_89 (by decide) rfl ?_
            refine v_iload 0 g d_Judge_most_91 rfl ?_
            refine v_aload_n 2 g d_Judge_most_93 rfl ?_
            refine v_iload_n 4 g d_Judge_most_94 rfl ?_
            refine v_iload_n 5 g d_Judge_most_95 rfl ?_
            refine v_aload_n 2 g d_Judge_most_96 rfl ?_
            refine v_iload_n 4 g d_Judge_most_97 rfl ?_
            refine v_iload_n 5 g d_Judge_most_98 rfl ?_
            refine v_lload 6 g d_Judge_most_99 rfl ?_
            refine v_iload 0 g d_Judge_most_101 rfl ?_
            refine v_callL (r_V (rest := [.int a3, .int a2, .ref (E.2.1 16), .int q6.1]) [.int a2, .int a3, .long a4, .int q6.1] g (m1 572 (by decide +kernel) (by decide +kernel)) yv_Judge_withoutBare rfl (fun r σ1 h => sp_Judge_withoutBare g.2.2.1  h) rfl rfl (by decide) (Nat.le_of_ble_eq_true rfl) d_Judge_most_103) (fun q7 => ?_)
            refine v_callI (r_V (rest := [.int q6.1]) [.int a2, .int a3, .long q7.1] g (m1 553 (by decide +kernel) (by decide +kernel)) yv_Judge_byColours rfl (fun r σ1 h => sp_Judge_byColours g.2.2.1  h) rfl rfl (by decide) (Nat.le_of_ble_eq_true rfl) d_Judge_most_106) (fun q8 => ?_)
            refine v_mmax g (m1 569 (by decide +kernel) (by decide +kernel)) (by decide) (Nat.le_of_ble_eq_true rfl) d_Judge_most_109 ?_
            exact v_ret d_Judge_most_112 rfl
          · refine v_ite _ (fun h_4 => ?_) (fun h_4 => ?_)
            · refine v_tableIn 113 g d_Judge_most_10 (by rw [h_4]; decide +kernel) (by rw [h_4]; decide +kernel) (off := 103) (by rw [h_4]; decide +kernel) (by decide) ?_
              refine v_aload_n 0 g d_Judge_most_113 rfl ?_
              refine v_iload_n 2 g d_Judge_most_114 rfl ?_
              refine v_iload_n 3 g d_Judge_most_115 rfl ?_
              refine v_lload 4 g d_Judge_most_116 rfl ?_
              refine v_callI (r_V (rest := []) [.int a2, .int a3, .long a4] g (m1 565 (by decide +kernel) (by decide +kernel)) yv_Judge_byCore rfl (fun r σ1 h => sp_Judge_byCore g.2.2.1  h) rfl rfl (by decide) (Nat.le_of_ble_eq_true rfl) d_Judge_most_118) (fun q9 => ?_)
              refine v_aload_n 0 g d_Judge_most_121 rfl ?_
              refine v_iload_n 2 g d_Judge_most_122 rfl ?_
              refine v_iload_n 3 g d_Judge_most_123 rfl ?_
              refine v_lload 4 g d_Judge_most_124 rfl ?_
              refine v_callI (r_V (rest := [.int q9.1]) [.int a2, .int a3, .long a4] g (m1 553 (by decide +kernel) (by decide +kernel)) yv_Judge_byColours rfl (fun r σ1 h => sp_Judge_byColours g.2.2.1  h) rfl rfl (by decide) (Nat.le_of_ble_eq_true rfl) d_Judge_most_126) (fun q10 => ?_)
              refine v_mmin g (m1 573 (by decide +kernel) (by decide +kernel)) (by decide) (Nat.le_of_ble_eq_true rfl) d_Judge_most_129 ?_
              exact v_ret d_Judge_most_132 rfl
            · refine v_tableOut 133 g d_Judge_most_10 (by have n0 := sw_ne h_0 (show ((0 : Int32)).toInt = 0 by decide +kernel); have n1 := sw_ne h_1 (show ((1 : Int32)).toInt = 1 by decide +kernel); have n2 := sw_ne h_2 (show ((2 : Int32)).toInt = 2 by decide +kernel); have n3 := sw_ne h_3 (show ((3 : Int32)).toInt = 3 by decide +kernel); have n4 := sw_ne h_4 (show ((4 : Int32)).toInt = 4 by decide +kernel); omega) (by decide) ?_
              refine v_aload_n 0 g d_Judge_most_133 rfl ?_
              refine v_getR 1 g ff_Judge_18 rfl rfl rfl d_Judge_most_134 ?_
              refine v_iload_n 3 g d_Judge_most_137 rfl ?_
              refine v_lload 4 g d_Judge_most_138 rfl ?_
              refine v_callI (r_V (rest := []) [.int a3, .long a4] g (m1 539 (by decide +kernel) (by decide +kernel)) yv_Net_worth rfl (fun r σ1 h => sp_Net_worth g.2.2.1 rfl h) rfl rfl (by decide) (Nat.le_of_ble_eq_true rfl) d_Judge_most_140) (fun q11 => ?_)
              exact v_ret d_Judge_most_143 rfl
  · refine v_iconst (v := (0 : Int32)) g d_Judge_most_7 (by decide +kernel) ?_
    exact v_ret d_Judge_most_8 rfl
def f_Judge_most (a1 : Int32) (a2 : Int32) (a3 : Int32) (a4 : Int64) (σ : Sto) : Option (Int32 × Sto) := B_Judge_most_0 a1 a2 a3 a4 σ
theorem sp_Judge_most {l : Launch} {E : En} (hE : Dj E) {a1 : Int32} {a2 : Int32} {a3 : Int32} {a4 : Int64} {σ : Sto} {r : Int32} {σ' : Sto} (h : f_Judge_most a1 a2 a3 a4 σ = some (r, σ')) : Ct l E y_Judge_most (wsM y_Judge_most b_Judge_most 9 (some .int)) 5 [.ref (E.2.1 16), .int a1, .int a2, .int a3, .long a4] σ (eI r) σ' :=
  ct_of hE (by decide +kernel) (Nat.le_of_ble_eq_true rfl) (fun x => Or.inl ⟨rfl, x, rfl⟩) (fun X _ g => vB_Judge_most_0 g a1 a2 a3 a4 σ) r σ' h
/-! method FittingRings$Ranking.last()I -/
theorem yv_Ranking_last : YV y_Ranking_last b_Ranking_last 1 (some .int) 0 6 := ⟨m1 724 (by decide +kernel) (by decide +kernel), m1 725 (by decide +kernel) (by decide +kernel), ini_Ranking, m1 726 (by decide +kernel) (by decide +kernel), ⟨by decide +kernel, by decide +kernel, by decide +kernel⟩, by decide, by decide, T_Ranking, 6, rfl⟩
theorem d_Ranking_last_0 : decode b_Ranking_last 0 = .ok (.aload_n 0, 1) := by decide +kernel
theorem d_Ranking_last_1 : decode b_Ranking_last 1 = .ok (.getfield 15, 3) := by decide +kernel
theorem d_Ranking_last_4 : decode b_Ranking_last 4 = .ok (.ifCond .le 26, 3) := by decide +kernel
theorem d_Ranking_last_7 : decode b_Ranking_last 7 = .ok (.aload_n 0, 1) := by decide +kernel
theorem d_Ranking_last_8 : decode b_Ranking_last 8 = .ok (.getfield 15, 3) := by decide +kernel
theorem d_Ranking_last_11 : decode b_Ranking_last 11 = .ok (.bipush 40, 2) := by decide +kernel
theorem d_Ranking_last_13 : decode b_Ranking_last 13 = .ok (.if_icmp .gt 17, 3) := by decide +kernel
theorem d_Ranking_last_16 : decode b_Ranking_last 16 = .ok (.aload_n 0, 1) := by decide +kernel
theorem d_Ranking_last_17 : decode b_Ranking_last 17 = .ok (.getfield 9, 3) := by decide +kernel
theorem d_Ranking_last_20 : decode b_Ranking_last 20 = .ok (.aload_n 0, 1) := by decide +kernel
theorem d_Ranking_last_21 : decode b_Ranking_last 21 = .ok (.getfield 15, 3) := by decide +kernel
theorem d_Ranking_last_24 : decode b_Ranking_last 24 = .ok (.iconst 1, 1) := by decide +kernel
theorem d_Ranking_last_25 : decode b_Ranking_last 25 = .ok (.isub, 1) := by decide +kernel
theorem d_Ranking_last_26 : decode b_Ranking_last 26 = .ok (.iaload, 1) := by decide +kernel
theorem d_Ranking_last_27 : decode b_Ranking_last 27 = .ok (.goto 4, 3) := by decide +kernel
theorem d_Ranking_last_30 : decode b_Ranking_last 30 = .ok (.iconst (-1), 1) := by decide +kernel
theorem d_Ranking_last_31 : decode b_Ranking_last 31 = .ok (.ireturn, 1) := by decide +kernel
def B_Ranking_last_0 (σ : Sto) : Option (Int32 × Sto) :=
  (if (gI σ 17 1) ≤ 0 then some ((-1 : Int32), σ)
 else (if (40 : Int32) < (gI σ 17 1) then some ((-1 : Int32), σ)
  else (if inb ((gI σ 17 1) - (1 : Int32)) 40 = true then some ((gI σ 18 (Int32.toNatClampNeg ((gI σ 17 1) - (1 : Int32)))), σ) else none)))
set_option maxHeartbeats 4000000 in
set_option maxRecDepth 100000 in
theorem vB_Ranking_last_0 {X : Xt} {E : En} (g : GG X E 1 b_Ranking_last R_Ranking 1) (σ : Sto) : VV X E b_Ranking_last 1 eI 0 [(0, .ref (E.2.1 17))] [] σ (B_Ranking_last_0 σ) := by
  unfold B_Ranking_last_0
  refine v_aload_n 0 g d_Ranking_last_0 rfl ?_
  refine v_getI g ff_Ranking_15 rfl rfl d_Ranking_last_1 ?_
  refine v_if_le 30 g d_Ranking_last_4 (by decide) (fun _ => ?_) (fun _ => ?_)
  · refine v_iconst (v := (-1 : Int32)) g d_Ranking_last_30 (by decide +kernel) ?_
    exact v_ret d_Ranking_last_31 rfl
  · refine v_aload_n 0 g d_Ranking_last_7 rfl ?_
    refine v_getI g ff_Ranking_15 rfl rfl d_Ranking_last_8 ?_
    refine v_bipush (v := (40 : Int32)) g d_Ranking_last_11 (by decide +kernel) ?_
    refine v_icmp_gt 30 g d_Ranking_last_13 (by decide) (fun _ => ?_) (fun _ => ?_)
    · refine v_iconst (v := (-1 : Int32)) g d_Ranking_last_30 (by decide +kernel) ?_
      exact v_ret d_Ranking_last_31 rfl
    · refine v_aload_n 0 g d_Ranking_last_16 rfl ?_
      refine v_getR 18 g ff_Ranking_9 rfl rfl rfl d_Ranking_last_17 ?_
      refine v_aload_n 0 g d_Ranking_last_20 rfl ?_
      refine v_getI g ff_Ranking_15 rfl rfl d_Ranking_last_21 ?_
      refine v_iconst (v := (1 : Int32)) g d_Ranking_last_24 (by decide +kernel) ?_
      refine v_isub g d_Ranking_last_25 ?_
      refine v_iald g rfl rfl d_Ranking_last_26 (fun _ => ?_)
      refine v_goto 31 g d_Ranking_last_27 (by decide) ?_
      exact v_ret d_Ranking_last_31 rfl
def f_Ranking_last (σ : Sto) : Option (Int32 × Sto) := B_Ranking_last_0 σ
theorem sp_Ranking_last {l : Launch} {E : En} (hE : Dj E) {σ : Sto} {r : Int32} {σ' : Sto} (h : f_Ranking_last σ = some (r, σ')) : Ct l E y_Ranking_last (wsM y_Ranking_last b_Ranking_last 1 (some .int)) 1 [.ref (E.2.1 17)] σ (eI r) σ' :=
  ct_of hE (by decide +kernel) (Nat.le_of_ble_eq_true rfl) (fun x => Or.inl ⟨rfl, x, rfl⟩) (fun X _ g => vB_Ranking_last_0 g σ) r σ' h
/-! method FittingRings$Ranking.groupOf(I)I -/
theorem yv_Ranking_groupOf : YV y_Ranking_groupOf b_Ranking_groupOf 3 (some .int) 1 6 := ⟨m1 800 (by decide +kernel) (by decide +kernel), m1 801 (by decide +kernel) (by decide +kernel), ini_Ranking, m1 802 (by decide +kernel) (by decide +kernel), ⟨by decide +kernel, by decide +kernel, by decide +kernel⟩, by decide, by decide, T_Ranking, 6, rfl⟩
theorem d_Ranking_groupOf_0 : decode b_Ranking_groupOf 0 = .ok (.iconst 0, 1) := by decide +kernel
theorem d_Ranking_groupOf_1 : decode b_Ranking_groupOf 1 = .ok (.istore_n 2, 1) := by decide +kernel
theorem d_Ranking_groupOf_2 : decode b_Ranking_groupOf 2 = .ok (.iload_n 2, 1) := by decide +kernel
theorem d_Ranking_groupOf_3 : decode b_Ranking_groupOf 3 = .ok (.aload_n 0, 1) := by decide +kernel
theorem d_Ranking_groupOf_4 : decode b_Ranking_groupOf 4 = .ok (.getfield 26, 3) := by decide +kernel
theorem d_Ranking_groupOf_7 : decode b_Ranking_groupOf 7 = .ok (.if_icmp .ge 24, 3) := by decide +kernel
theorem d_Ranking_groupOf_10 : decode b_Ranking_groupOf 10 = .ok (.aload_n 0, 1) := by decide +kernel
theorem d_Ranking_groupOf_11 : decode b_Ranking_groupOf 11 = .ok (.getfield 22, 3) := by decide +kernel
theorem d_Ranking_groupOf_14 : decode b_Ranking_groupOf 14 = .ok (.iload_n 2, 1) := by decide +kernel
theorem d_Ranking_groupOf_15 : decode b_Ranking_groupOf 15 = .ok (.laload, 1) := by decide +kernel
theorem d_Ranking_groupOf_16 : decode b_Ranking_groupOf 16 = .ok (.iload_n 1, 1) := by decide +kernel
theorem d_Ranking_groupOf_17 : decode b_Ranking_groupOf 17 = .ok (.invokestatic 62, 3) := by decide +kernel
theorem d_Ranking_groupOf_20 : decode b_Ranking_groupOf 20 = .ok (.ifCond .eq 5, 3) := by decide +kernel
theorem d_Ranking_groupOf_23 : decode b_Ranking_groupOf 23 = .ok (.iload_n 2, 1) := by decide +kernel
theorem d_Ranking_groupOf_24 : decode b_Ranking_groupOf 24 = .ok (.ireturn, 1) := by decide +kernel
theorem d_Ranking_groupOf_25 : decode b_Ranking_groupOf 25 = .ok (.iinc 2 1, 3) := by decide +kernel
theorem d_Ranking_groupOf_28 : decode b_Ranking_groupOf 28 = .ok (.goto (-26), 3) := by decide +kernel
theorem d_Ranking_groupOf_31 : decode b_Ranking_groupOf 31 = .ok (.iconst (-1), 1) := by decide +kernel
theorem d_Ranking_groupOf_32 : decode b_Ranking_groupOf 32 = .ok (.ireturn, 1) := by decide +kernel
def B_Ranking_groupOf_2 (k2 : Int32 → Int32 → Sto → Option (Int32 × Sto)) (v1 : Int32) (v2 : Int32) (σ : Sto) : Option (Int32 × Sto) :=
  (if (gI σ 17 4) ≤ v2 then some ((-1 : Int32), σ)
 else (if inb v2 40 = true then ((f_FR_isOf (gL σ 19 (Int32.toNatClampNeg v2)) v1 σ).bind fun q1 => (if (b2i q1.1) = 0 then k2 v1 (v2 + (1 : Int32)) q1.2
  else some (v2, q1.2))) else none))
set_option maxHeartbeats 4000000 in
set_option maxRecDepth 100000 in
theorem vB_Ranking_groupOf_2 {X : Xt} {E : En} (g : GG X E 2 b_Ranking_groupOf R_Ranking 3) {k2 : Int32 → Int32 → Sto → Option (Int32 × Sto)} (hk2 : ∀ (v1 : Int32) (v2 : Int32) (σ : Sto), VV X E b_Ranking_groupOf 3 eI 2 [(0, .ref (E.2.1 17)), (1, .int v1), (2, .int v2)] [] σ (k2 v1 v2 σ)) (v1 : Int32) (v2 : Int32) (σ : Sto) : VV X E b_Ranking_groupOf 3 eI 2 [(0, .ref (E.2.1 17)), (1, .int v1), (2, .int v2)] [] σ (B_Ranking_groupOf_2 k2 v1 v2 σ) := by
  unfold B_Ranking_groupOf_2
  refine v_iload_n 2 g d_Ranking_groupOf_2 rfl ?_
  refine v_aload_n 0 g d_Ranking_groupOf_3 rfl ?_
  refine v_getI g ff_Ranking_26 rfl rfl d_Ranking_groupOf_4 ?_
  refine v_icmp_ge 31 g d_Ranking_groupOf_7 (by decide) (fun _ => ?_) (fun _ => ?_)
  · refine v_iconst (v := (-1 : Int32)) g d_Ranking_groupOf_31 (by decide +kernel) ?_
    exact v_ret d_Ranking_groupOf_32 rfl
  · refine v_aload_n 0 g d_Ranking_groupOf_10 rfl ?_
    refine v_getR 19 g ff_Ranking_22 rfl rfl rfl d_Ranking_groupOf_11 ?_
    refine v_iload_n 2 g d_Ranking_groupOf_14 rfl ?_
    refine v_lald g rfl rfl d_Ranking_groupOf_15 (fun _ => ?_)
    refine v_iload_n 1 g d_Ranking_groupOf_16 rfl ?_
    refine v_callB (r_SN (rest := []) (host := R_FR) [.long (gL σ 19 (Int32.toNatClampNeg v2)), .int v1] g (by decide +kernel) ys_FR_isOf (fun r σ1 h => sp_FR_isOf g.2.2.1  h) rfl rfl (by decide) (Nat.le_of_ble_eq_true rfl) d_Ranking_groupOf_17) (fun q1 => ?_)
    refine v_if_eq 25 g d_Ranking_groupOf_20 (by decide) (fun _ => ?_) (fun _ => ?_)
    · refine v_iinc 2 [(2, .int (v2 + (1 : Int32))), (0, .ref (E.2.1 17)), (1, .int v1)] g d_Ranking_groupOf_25 rfl (v := (1 : Int32)) (by decide +kernel) (by decide) rfl ?_
      refine v_goto 2 g d_Ranking_groupOf_28 (by decide) ?_
      exact v_sub [1,2,0] rfl (hk2 v1 (v2 + (1 : Int32)) q1.2)
    · refine v_iload_n 2 g d_Ranking_groupOf_23 rfl ?_
      exact v_ret d_Ranking_groupOf_24 rfl
def L_Ranking_groupOf_2 : Nat → Int32 → Int32 → Sto → Option (Int32 × Sto)
  | 0, _, _, _ => none
  | fu + 1, v1, v2, σ => B_Ranking_groupOf_2 (L_Ranking_groupOf_2 fu) v1 v2 σ
theorem vL_Ranking_groupOf_2 {X : Xt} {E : En} (g : GG X E 2 b_Ranking_groupOf R_Ranking 3) (fu : Nat) : ∀ (v1 : Int32) (v2 : Int32) (σ : Sto), VV X E b_Ranking_groupOf 3 eI 2 [(0, .ref (E.2.1 17)), (1, .int v1), (2, .int v2)] [] σ (L_Ranking_groupOf_2 fu v1 v2 σ) := by
  induction fu with
  | zero => intros; exact v_none
  | succ fu ih =>
    intro v1 v2 σ
    exact vB_Ranking_groupOf_2 g ih v1 v2 σ
def B_Ranking_groupOf_0 (a1 : Int32) (σ : Sto) : Option (Int32 × Sto) :=
  L_Ranking_groupOf_2 LF a1 (0 : Int32) σ
set_option maxHeartbeats 4000000 in
set_option maxRecDepth 100000 in
theorem vB_Ranking_groupOf_0 {X : Xt} {E : En} (g : GG X E 2 b_Ranking_groupOf R_Ranking 3) (a1 : Int32) (σ : Sto) : VV X E b_Ranking_groupOf 3 eI 0 [(0, .ref (E.2.1 17)), (1, .int a1)] [] σ (B_Ranking_groupOf_0 a1 σ) := by
  unfold B_Ranking_groupOf_0
  refine v_iconst (v := (0 : Int32)) g d_Ranking_groupOf_0 (by decide +kernel) ?_
  refine v_istore_n [(2, .int (0 : Int32)), (0, .ref (E.2.1 17)), (1, .int a1)] g d_Ranking_groupOf_1 (by decide) rfl ?_
  exact v_sub [1,2,0] rfl (vL_Ranking_groupOf_2 g LF a1 (0 : Int32) σ)
def f_Ranking_groupOf (a1 : Int32) (σ : Sto) : Option (Int32 × Sto) := B_Ranking_groupOf_0 a1 σ
theorem sp_Ranking_groupOf {l : Launch} {E : En} (hE : Dj E) {a1 : Int32} {σ : Sto} {r : Int32} {σ' : Sto} (h : f_Ranking_groupOf a1 σ = some (r, σ')) : Ct l E y_Ranking_groupOf (wsM y_Ranking_groupOf b_Ranking_groupOf 3 (some .int)) 2 [.ref (E.2.1 17), .int a1] σ (eI r) σ' :=
  ct_of hE (by decide +kernel) (Nat.le_of_ble_eq_true rfl) (fun x => Or.inl ⟨rfl, x, rfl⟩) (fun X _ g => vB_Ranking_groupOf_0 g a1 σ) r σ' h
