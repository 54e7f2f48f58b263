theorem ff_Finder_15 : FF R_Finder 15 0 1 := ⟨R_Finder, T_Finder, 10, rfl, in_Finder, by decide, rfl, by decide, m1 219 (by decide +kernel) (by decide +kernel)⟩
theorem ff_Finder_19 : FF R_Finder 19 0 3 := ⟨R_Finder, T_Finder, 10, rfl, in_Finder, by decide, rfl, by decide, m1 222 (by decide +kernel) (by decide +kernel)⟩
theorem ff_Finder_22 : FF R_Finder 22 0 4 := ⟨R_Finder, T_Finder, 10, rfl, in_Finder, by decide, rfl, by decide, m1 223 (by decide +kernel) (by decide +kernel)⟩
theorem ff_Finder_26 : FF R_Finder 26 0 5 := ⟨R_Finder, T_Finder, 10, rfl, in_Finder, by decide, rfl, by decide, m1 224 (by decide +kernel) (by decide +kernel)⟩
theorem ff_Finder_29 : FF R_Finder 29 0 6 := ⟨R_Finder, T_Finder, 10, rfl, in_Finder, by decide, rfl, by decide, m1 225 (by decide +kernel) (by decide +kernel)⟩
theorem ff_Finder_32 : FF R_Finder 32 0 7 := ⟨R_Finder, T_Finder, 10, rfl, in_Finder, by decide, rfl, by decide, m1 226 (by decide +kernel) (by decide +kernel)⟩
theorem ff_Finder_35 : FF R_Finder 35 0 8 := ⟨R_Finder, T_Finder, 10, rfl, in_Finder, by decide, rfl, by decide, m1 227 (by decide +kernel) (by decide +kernel)⟩
theorem ff_Finder_38 : FF R_Finder 38 0 9 := ⟨R_Finder, T_Finder, 10, rfl, in_Finder, by decide, rfl, by decide, m1 228 (by decide +kernel) (by decide +kernel)⟩
theorem ff_Finder_41 : FF R_Finder 41 0 2 := ⟨R_Finder, T_Finder, 10, rfl, in_Finder, by decide, rfl, by decide, m1 221 (by decide +kernel) (by decide +kernel)⟩
theorem ff_Finder_45 : FF R_Finder 45 4 0 := ⟨R_Net, T_Net, 5, rfl, in_Net, by decide, rfl, by decide, m1 106 (by decide +kernel) (by decide +kernel)⟩
theorem ff_Finder_9 : FF R_Finder 9 0 0 := ⟨R_Finder, T_Finder, 10, rfl, in_Finder, by decide, rfl, by decide, m1 217 (by decide +kernel) (by decide +kernel)⟩
theorem fp_Finder_15 : FP R_Finder 15 0 1 (.int) := ⟨R_Finder, T_Finder, 10, rfl, in_Finder, by decide, rfl, by decide, m1 219 (by decide +kernel) (by decide +kernel), ⟨ty_Finder, tyok_Finder⟩, nm_Finder, rfl, by decide +kernel⟩
theorem fp_Finder_19 : FP R_Finder 19 0 3 (.int) := ⟨R_Finder, T_Finder, 10, rfl, in_Finder, by decide, rfl, by decide, m1 222 (by decide +kernel) (by decide +kernel), ⟨ty_Finder, tyok_Finder⟩, nm_Finder, rfl, by decide +kernel⟩
theorem fp_Finder_32 : FP R_Finder 32 0 7 (.int) := ⟨R_Finder, T_Finder, 10, rfl, in_Finder, by decide, rfl, by decide, m1 226 (by decide +kernel) (by decide +kernel), ⟨ty_Finder, tyok_Finder⟩, nm_Finder, rfl, by decide +kernel⟩
theorem fp_Finder_35 : FP R_Finder 35 0 8 (.int) := ⟨R_Finder, T_Finder, 10, rfl, in_Finder, by decide, rfl, by decide, m1 227 (by decide +kernel) (by decide +kernel), ⟨ty_Finder, tyok_Finder⟩, nm_Finder, rfl, by decide +kernel⟩
theorem fp_Finder_38 : FP R_Finder 38 0 9 (.int) := ⟨R_Finder, T_Finder, 10, rfl, in_Finder, by decide, rfl, by decide, m1 228 (by decide +kernel) (by decide +kernel), ⟨ty_Finder, tyok_Finder⟩, nm_Finder, rfl, by decide +kernel⟩
theorem fp_Finder_41 : FP R_Finder 41 0 2 (.object "FittingRings$Net") := ⟨R_Finder, T_Finder, 10, rfl, in_Finder, by decide, rfl, by decide, m1 221 (by decide +kernel) (by decide +kernel), ⟨ty_Finder, tyok_Finder⟩, nm_Finder, rfl, by decide +kernel⟩
/-! method FittingRings$Finder.isHopeless(JJ)Z -/
theorem yv_Finder_isHopeless : YV y_Finder_isHopeless b_Finder_isHopeless 6 (some .boolean) 2 0 := ⟨m1 599 (by decide +kernel) (by decide +kernel), m1 6 (by decide +kernel) (by decide +kernel), ini_Finder, m1 600 (by decide +kernel) (by decide +kernel), ⟨by decide +kernel, by decide +kernel, by decide +kernel⟩, by decide, by decide, T_Finder, 10, rfl⟩
theorem d_Finder_isHopeless_0 : decode b_Finder_isHopeless 0 = .ok (.iconst 0, 1) := by decide +kernel
theorem d_Finder_isHopeless_1 : decode b_Finder_isHopeless 1 = .ok (.istore 5, 2) := by decide +kernel
theorem d_Finder_isHopeless_3 : decode b_Finder_isHopeless 3 = .ok (.iload 5, 2) := by decide +kernel
theorem d_Finder_isHopeless_5 : decode b_Finder_isHopeless 5 = .ok (.aload_n 0, 1) := by decide +kernel
theorem d_Finder_isHopeless_6 : decode b_Finder_isHopeless 6 = .ok (.getfield 41, 3) := by decide +kernel
theorem d_Finder_isHopeless_9 : decode b_Finder_isHopeless 9 = .ok (.getfield 45, 3) := by decide +kernel
theorem d_Finder_isHopeless_12 : decode b_Finder_isHopeless 12 = .ok (.if_icmp .ge 39, 3) := by decide +kernel
theorem d_Finder_isHopeless_15 : decode b_Finder_isHopeless 15 = .ok (.lload_n 3, 1) := by decide +kernel
theorem d_Finder_isHopeless_16 : decode b_Finder_isHopeless 16 = .ok (.iload 5, 2) := by decide +kernel
theorem d_Finder_isHopeless_18 : decode b_Finder_isHopeless 18 = .ok (.invokestatic 68, 3) := by decide +kernel
theorem d_Finder_isHopeless_21 : decode b_Finder_isHopeless 21 = .ok (.ifCond .eq 24, 3) := by decide +kernel
theorem d_Finder_isHopeless_24 : decode b_Finder_isHopeless 24 = .ok (.aload_n 0, 1) := by decide +kernel
theorem d_Finder_isHopeless_25 : decode b_Finder_isHopeless 25 = .ok (.getfield 41, 3) := by decide +kernel
theorem d_Finder_isHopeless_28 : decode b_Finder_isHopeless 28 = .ok (.aload_n 0, 1) := by decide +kernel
theorem d_Finder_isHopeless_29 : decode b_Finder_isHopeless 29 = .ok (.getfield 19, 3) := by decide +kernel
theorem d_Finder_isHopeless_32 : decode b_Finder_isHopeless 32 = .ok (.iload 5, 2) := by decide +kernel
theorem d_Finder_isHopeless_34 : decode b_Finder_isHopeless 34 = .ok (.lload_n 1, 1) := by decide +kernel
theorem d_Finder_isHopeless_35 : decode b_Finder_isHopeless 35 = .ok (.invokevirtual 64, 3) := by decide +kernel
theorem d_Finder_isHopeless_38 : decode b_Finder_isHopeless 38 = .ok (.lload_n 1, 1) := by decide +kernel
theorem d_Finder_isHopeless_39 : decode b_Finder_isHopeless 39 = .ok (.lcmp, 1) := by decide +kernel
theorem d_Finder_isHopeless_40 : decode b_Finder_isHopeless 40 = .ok (.ifCond .ne 5, 3) := by decide +kernel
theorem d_Finder_isHopeless_43 : decode b_Finder_isHopeless 43 = .ok (.iconst 1, 1) := by decide +kernel
theorem d_Finder_isHopeless_44 : decode b_Finder_isHopeless 44 = .ok (.ireturn, 1) := by decide +kernel
theorem d_Finder_isHopeless_45 : decode b_Finder_isHopeless 45 = .ok (.iinc 5 1, 3) := by decide +kernel
theorem d_Finder_isHopeless_48 : decode b_Finder_isHopeless 48 = .ok (.goto (-45), 3) := by decide +kernel
theorem d_Finder_isHopeless_51 : decode b_Finder_isHopeless 51 = .ok (.iconst 0, 1) := by decide +kernel
theorem d_Finder_isHopeless_52 : decode b_Finder_isHopeless 52 = .ok (.ireturn, 1) := by decide +kernel
def B_Finder_isHopeless_3 (k3 : Int64 → Int64 → Int32 → Sto → Option (Bool × Sto)) (v1 : Int64) (v3 : Int64) (v5 : Int32) (σ : Sto) : Option (Bool × Sto) :=
  (if cls (gN σ) = 4 then (if (gI σ (gN σ) 0) ≤ v5 then some (false, σ)
 else ((f_FR_isOf v3 v5 σ).bind fun q2 => (if (b2i q2.1) = 0 then k3 v1 v3 (v5 + (1 : Int32)) q2.2
  else (if cls (gN q2.2) = 4 then ((f_Net_fitting (gN q2.2) (gI q2.2 26 3) v5 v1 q2.2).bind fun q4 => (if q4.1 = v1 then some (true, q4.2)
   else k3 v1 v3 (v5 + (1 : Int32)) q4.2)) else none)))) else none)
set_option maxHeartbeats 4000000 in
set_option maxRecDepth 100000 in
theorem vB_Finder_isHopeless_3 {X : Xt} {E : En} (g : GG X E 3 b_Finder_isHopeless R_Finder 6) {k3 : Int64 → Int64 → Int32 → Sto → Option (Bool × Sto)} (hk3 : ∀ (v1 : Int64) (v3 : Int64) (v5 : Int32) (σ : Sto), VV X E b_Finder_isHopeless 6 eB 3 [(0, .ref (E.2.1 26)), (1, .long v1), (3, .long v3), (5, .int v5)] [] σ (k3 v1 v3 v5 σ)) (v1 : Int64) (v3 : Int64) (v5 : Int32) (σ : Sto) : VV X E b_Finder_isHopeless 6 eB 3 [(0, .ref (E.2.1 26)), (1, .long v1), (3, .long v3), (5, .int v5)] [] σ (B_Finder_isHopeless_3 k3 v1 v3 v5 σ) := by
  unfold B_Finder_isHopeless_3
  refine v_iload 3 g d_Finder_isHopeless_3 rfl ?_
  refine v_aload_n 0 g d_Finder_isHopeless_5 rfl ?_
  refine v_getN g ff_Finder_41 rfl rfl d_Finder_isHopeless_6 ?_
  refine v_grd _ (fun h1 => ?_)
  refine v_getI g ff_Finder_45 h1 rfl d_Finder_isHopeless_9 ?_
  refine v_icmp_ge 51 g d_Finder_isHopeless_12 (by decide) (fun _ => ?_) (fun _ => ?_)
  · refine v_iconst (v := (0 : Int32)) g d_Finder_isHopeless_51 (by decide +kernel) ?_
    exact v_ret d_Finder_isHopeless_52 rfl
  · refine v_lload_n 2 g d_Finder_isHopeless_15 rfl ?_
    refine v_iload 3 g d_Finder_isHopeless_16 rfl ?_
    refine v_callB (r_SN (rest := []) (host := R_FR) [.long v3, .int v5] g (by decide +kernel) ys_FR_isOf (fun r σ1 h => sp_FR_isOf g.2.2.1  h) rfl rfl (by decide) (Nat.le_of_ble_eq_true rfl) d_Finder_isHopeless_18) (fun q2 => ?_)
    refine v_if_eq 45 g d_Finder_isHopeless_21 (by decide) (fun _ => ?_) (fun _ => ?_)
    · refine v_iinc 3 [(5, .int (v5 + (1 : Int32))), (0, .ref (E.2.1 26)), (1, .long v1), (3, .long v3)] g d_Finder_isHopeless_45 rfl (v := (1 : Int32)) (by decide +kernel) (by decide) rfl ?_
      refine v_goto 3 g d_Finder_isHopeless_48 (by decide) ?_
      exact v_sub [1,2,3,0] rfl (hk3 v1 v3 (v5 + (1 : Int32)) q2.2)
    · refine v_aload_n 0 g d_Finder_isHopeless_24 rfl ?_
      refine v_getN g ff_Finder_41 rfl rfl d_Finder_isHopeless_25 ?_
      refine v_grd _ (fun h3 => ?_)
      refine v_aload_n 0 g d_Finder_isHopeless_28 rfl ?_
      refine v_getI g ff_Finder_19 rfl rfl d_Finder_isHopeless_29 ?_
      refine v_iload 3 g d_Finder_isHopeless_32 rfl ?_
      refine v_lload_n 1 g d_Finder_isHopeless_34 rfl ?_
      refine v_callL (r_V (rest := []) [.int (gI q2.2 26 3), .int v5, .long v1] g (m1 602 (by decide +kernel) (by decide +kernel)) yv_Net_fitting h3 (fun r σ1 h => sp_Net_fitting g.2.2.1 h3 h) rfl rfl (by decide) (Nat.le_of_ble_eq_true rfl) d_Finder_isHopeless_35) (fun q4 => ?_)
      refine v_lload_n 1 g d_Finder_isHopeless_38 rfl ?_
      refine v_lcmp_ne 45 g d_Finder_isHopeless_39 d_Finder_isHopeless_40 (by decide) (fun _ => ?_) (fun _ => ?_)
      · refine v_iinc 3 [(5, .int (v5 + (1 : Int32))), (0, .ref (E.2.1 26)), (1, .long v1), (3, .long v3)] g d_Finder_isHopeless_45 rfl (v := (1 : Int32)) (by decide +kernel) (by decide) rfl ?_
        refine v_goto 3 g d_Finder_isHopeless_48 (by decide) ?_
        exact v_sub [1,2,3,0] rfl (hk3 v1 v3 (v5 + (1 : Int32)) q4.2)
      · refine v_iconst (v := (1 : Int32)) g d_Finder_isHopeless_43 (by decide +kernel) ?_
        exact v_ret d_Finder_isHopeless_44 rfl
def L_Finder_isHopeless_3 : Nat → Int64 → Int64 → Int32 → Sto → Option (Bool × Sto)
  | 0, _, _, _, _ => none
  | fu + 1, v1, v3, v5, σ => B_Finder_isHopeless_3 (L_Finder_isHopeless_3 fu) v1 v3 v5 σ
theorem vL_Finder_isHopeless_3 {X : Xt} {E : En} (g : GG X E 3 b_Finder_isHopeless R_Finder 6) (fu : Nat) : ∀ (v1 : Int64) (v3 : Int64) (v5 : Int32) (σ : Sto), VV X E b_Finder_isHopeless 6 eB 3 [(0, .ref (E.2.1 26)), (1, .long v1), (3, .long v3), (5, .int v5)] [] σ (L_Finder_isHopeless_3 fu v1 v3 v5 σ) := by
  induction fu with
  | zero => intros; exact v_none
  | succ fu ih =>
    intro v1 v3 v5 σ
    exact vB_Finder_isHopeless_3 g ih v1 v3 v5 σ
def B_Finder_isHopeless_0 (a1 : Int64) (a3 : Int64) (σ : Sto) : Option (Bool × Sto) :=
  L_Finder_isHopeless_3 LF a1 a3 (0 : Int32) σ
set_option maxHeartbeats 4000000 in
set_option maxRecDepth 100000 in
theorem vB_Finder_isHopeless_0 {X : Xt} {E : En} (g : GG X E 3 b_Finder_isHopeless R_Finder 6) (a1 : Int64) (a3 : Int64) (σ : Sto) : VV X E b_Finder_isHopeless 6 eB 0 [(0, .ref (E.2.1 26)), (1, .long a1), (3, .long a3)] [] σ (B_Finder_isHopeless_0 a1 a3 σ) := by
  unfold B_Finder_isHopeless_0
  refine v_iconst (v := (0 : Int32)) g d_Finder_isHopeless_0 (by decide +kernel) ?_
  refine v_istore [(5, .int (0 : Int32)), (0, .ref (E.2.1 26)), (1, .long a1), (3, .long a3)] g d_Finder_isHopeless_1 (by decide) rfl ?_
  exact v_sub [1,2,3,0] rfl (vL_Finder_isHopeless_3 g LF a1 a3 (0 : Int32) σ)
def f_Finder_isHopeless (a1 : Int64) (a3 : Int64) (σ : Sto) : Option (Bool × Sto) := B_Finder_isHopeless_0 a1 a3 σ
theorem sp_Finder_isHopeless {l : Launch} {E : En} (hE : Dj E) {a1 : Int64} {a3 : Int64} {σ : Sto} {r : Bool} {σ' : Sto} (h : f_Finder_isHopeless a1 a3 σ = some (r, σ')) : Ct l E y_Finder_isHopeless (wsM y_Finder_isHopeless b_Finder_isHopeless 6 (some .boolean)) 3 [.ref (E.2.1 26), .long a1, .long a3] σ (eB r) σ' :=
  ct_of hE (by decide +kernel) (Nat.le_of_ble_eq_true rfl) (fun b => Or.inr (Or.inl ⟨rfl, b, rfl⟩)) (fun X _ g => vB_Finder_isHopeless_0 g a1 a3 σ) r σ' h
/-! method FittingRings$Finder.grow(JJJI)V -/
theorem yv_Finder_grow : YV y_Finder_grow b_Finder_grow 13 (none) 4 0 := ⟨m1 591 (by decide +kernel) (by decide +kernel), m1 5 (by decide +kernel) (by decide +kernel), ini_Finder, m1 592 (by decide +kernel) (by decide +kernel), ⟨by decide +kernel, by decide +kernel, by decide +kernel⟩, by decide, by decide, T_Finder, 10, rfl⟩
theorem d_Finder_grow_0 : decode b_Finder_grow 0 = .ok (.lload_n 3, 1) := by decide +kernel
theorem d_Finder_grow_1 : decode b_Finder_grow 1 = .ok (.lconst 0, 1) := by decide +kernel
theorem d_Finder_grow_2 : decode b_Finder_grow 2 = .ok (.lcmp, 1) := by decide +kernel
theorem d_Finder_grow_3 : decode b_Finder_grow 3 = .ok (.ifCond .ne 41, 3) := by decide +kernel
theorem d_Finder_grow_6 : decode b_Finder_grow 6 = .ok (.lload 5, 2) := by decide +kernel
theorem d_Finder_grow_8 : decode b_Finder_grow 8 = .ok (.lconst 0, 1) := by decide +kernel
theorem d_Finder_grow_9 : decode b_Finder_grow 9 = .ok (.lcmp, 1) := by decide +kernel
theorem d_Finder_grow_10 : decode b_Finder_grow 10 = .ok (.ifCond .ne 33, 3) := by decide +kernel
theorem d_Finder_grow_13 : decode b_Finder_grow 13 = .ok (.aload_n 0, 1) := by decide +kernel
theorem d_Finder_grow_14 : decode b_Finder_grow 14 = .ok (.getfield 15, 3) := by decide +kernel
theorem d_Finder_grow_17 : decode b_Finder_grow 17 = .ok (.sipush 324, 3) := by decide +kernel
theorem d_Finder_grow_20 : decode b_Finder_grow 20 = .ok (.if_icmp .ge 23, 3) := by decide +kernel
theorem d_Finder_grow_23 : decode b_Finder_grow 23 = .ok (.aload_n 0, 1) := by decide +kernel
theorem d_Finder_grow_24 : decode b_Finder_grow 24 = .ok (.getfield 9, 3) := by decide +kernel
theorem d_Finder_grow_27 : decode b_Finder_grow 27 = .ok (.aload_n 0, 1) := by decide +kernel
theorem d_Finder_grow_28 : decode b_Finder_grow 28 = .ok (.getfield 15, 3) := by decide +kernel
theorem d_Finder_grow_31 : decode b_Finder_grow 31 = .ok (.lload_n 1, 1) := by decide +kernel
theorem d_Finder_grow_32 : decode b_Finder_grow 32 = .ok (.lastore, 1) := by decide +kernel
theorem d_Finder_grow_33 : decode b_Finder_grow 33 = .ok (.aload_n 0, 1) := by decide +kernel
theorem d_Finder_grow_34 : decode b_Finder_grow 34 = .ok (.dup, 1) := by decide +kernel
theorem d_Finder_grow_35 : decode b_Finder_grow 35 = .ok (.getfield 15, 3) := by decide +kernel
theorem d_Finder_grow_38 : decode b_Finder_grow 38 = .ok (.iconst 1, 1) := by decide +kernel
theorem d_Finder_grow_39 : decode b_Finder_grow 39 = .ok (.iadd, 1) := by decide +kernel
theorem d_Finder_grow_40 : decode b_Finder_grow 40 = .ok (.putfield 15, 3) := by decide +kernel
theorem d_Finder_grow_43 : decode b_Finder_grow 43 = .ok (.return_, 1) := by decide +kernel
theorem d_Finder_grow_44 : decode b_Finder_grow 44 = .ok (.lload_n 3, 1) := by decide +kernel
theorem d_Finder_grow_45 : decode b_Finder_grow 45 = .ok (.iload 7, 2) := by decide +kernel
theorem d_Finder_grow_47 : decode b_Finder_grow 47 = .ok (.invokestatic 54, 3) := by decide +kernel
theorem d_Finder_grow_50 : decode b_Finder_grow 50 = .ok (.istore 8, 2) := by decide +kernel
theorem d_Finder_grow_52 : decode b_Finder_grow 52 = .ok (.iload 8, 2) := by decide +kernel
theorem d_Finder_grow_54 : decode b_Finder_grow 54 = .ok (.ifCond .lt 13, 3) := by decide +kernel
theorem d_Finder_grow_57 : decode b_Finder_grow 57 = .ok (.aload_n 0, 1) := by decide +kernel
theorem d_Finder_grow_58 : decode b_Finder_grow 58 = .ok (.lload_n 3, 1) := by decide +kernel
theorem d_Finder_grow_59 : decode b_Finder_grow 59 = .ok (.lload 5, 2) := by decide +kernel
theorem d_Finder_grow_61 : decode b_Finder_grow 61 = .ok (.invokevirtual 58, 3) := by decide +kernel
theorem d_Finder_grow_64 : decode b_Finder_grow 64 = .ok (.ifCond .eq 4, 3) := by decide +kernel
theorem d_Finder_grow_67 : decode b_Finder_grow 67 = .ok (.return_, 1) := by decide +kernel
theorem d_Finder_grow_68 : decode b_Finder_grow 68 = .ok (.lconst 1, 1) := by decide +kernel
theorem d_Finder_grow_69 : decode b_Finder_grow 69 = .ok (.iload 8, 2) := by decide +kernel
theorem d_Finder_grow_71 : decode b_Finder_grow 71 = .ok (.lshl, 1) := by decide +kernel
theorem d_Finder_grow_72 : decode b_Finder_grow 72 = .ok (.lstore 9, 2) := by decide +kernel
theorem d_Finder_grow_74 : decode b_Finder_grow 74 = .ok (.lload_n 3, 1) := by decide +kernel
theorem d_Finder_grow_75 : decode b_Finder_grow 75 = .ok (.lload 9, 2) := by decide +kernel
theorem d_Finder_grow_77 : decode b_Finder_grow 77 = .ok (.ldc2_w 62, 3) := by decide +kernel
theorem d_Finder_grow_80 : decode b_Finder_grow 80 = .ok (.lxor, 1) := by decide +kernel
theorem d_Finder_grow_81 : decode b_Finder_grow 81 = .ok (.land, 1) := by decide +kernel
theorem d_Finder_grow_82 : decode b_Finder_grow 82 = .ok (.lstore 11, 2) := by decide +kernel
theorem d_Finder_grow_84 : decode b_Finder_grow 84 = .ok (.aload_n 0, 1) := by decide +kernel
theorem d_Finder_grow_85 : decode b_Finder_grow 85 = .ok (.lload_n 1, 1) := by decide +kernel
theorem d_Finder_grow_86 : decode b_Finder_grow 86 = .ok (.lload 11, 2) := by decide +kernel
theorem d_Finder_grow_88 : decode b_Finder_grow 88 = .ok (.lload 5, 2) := by decide +kernel
theorem d_Finder_grow_90 : decode b_Finder_grow 90 = .ok (.lload 9, 2) := by decide +kernel
theorem d_Finder_grow_92 : decode b_Finder_grow 92 = .ok (.lor, 1) := by decide +kernel
theorem d_Finder_grow_93 : decode b_Finder_grow 93 = .ok (.iload 8, 2) := by decide +kernel
theorem d_Finder_grow_95 : decode b_Finder_grow 95 = .ok (.iconst 1, 1) := by decide +kernel
theorem d_Finder_grow_96 : decode b_Finder_grow 96 = .ok (.isub, 1) := by decide +kernel
theorem d_Finder_grow_97 : decode b_Finder_grow 97 = .ok (.invokevirtual 50, 3) := by decide +kernel
theorem d_Finder_grow_100 : decode b_Finder_grow 100 = .ok (.aload_n 0, 1) := by decide +kernel
theorem d_Finder_grow_101 : decode b_Finder_grow 101 = .ok (.lload_n 1, 1) := by decide +kernel
theorem d_Finder_grow_102 : decode b_Finder_grow 102 = .ok (.lload 9, 2) := by decide +kernel
theorem d_Finder_grow_104 : decode b_Finder_grow 104 = .ok (.lor, 1) := by decide +kernel
theorem d_Finder_grow_105 : decode b_Finder_grow 105 = .ok (.aload_n 0, 1) := by decide +kernel
theorem d_Finder_grow_106 : decode b_Finder_grow 106 = .ok (.getfield 41, 3) := by decide +kernel
theorem d_Finder_grow_109 : decode b_Finder_grow 109 = .ok (.aload_n 0, 1) := by decide +kernel
theorem d_Finder_grow_110 : decode b_Finder_grow 110 = .ok (.getfield 19, 3) := by decide +kernel
theorem d_Finder_grow_113 : decode b_Finder_grow 113 = .ok (.iload 8, 2) := by decide +kernel
theorem d_Finder_grow_115 : decode b_Finder_grow 115 = .ok (.lload 11, 2) := by decide +kernel
theorem d_Finder_grow_117 : decode b_Finder_grow 117 = .ok (.invokevirtual 64, 3) := by decide +kernel
theorem d_Finder_grow_120 : decode b_Finder_grow 120 = .ok (.aload_n 0, 1) := by decide +kernel
theorem d_Finder_grow_121 : decode b_Finder_grow 121 = .ok (.getfield 41, 3) := by decide +kernel
theorem d_Finder_grow_124 : decode b_Finder_grow 124 = .ok (.aload_n 0, 1) := by decide +kernel
theorem d_Finder_grow_125 : decode b_Finder_grow 125 = .ok (.getfield 19, 3) := by decide +kernel
theorem d_Finder_grow_128 : decode b_Finder_grow 128 = .ok (.iload 8, 2) := by decide +kernel
theorem d_Finder_grow_130 : decode b_Finder_grow 130 = .ok (.lload 5, 2) := by decide +kernel
theorem d_Finder_grow_132 : decode b_Finder_grow 132 = .ok (.invokevirtual 64, 3) := by decide +kernel
theorem d_Finder_grow_135 : decode b_Finder_grow 135 = .ok (.iload 8, 2) := by decide +kernel
theorem d_Finder_grow_137 : decode b_Finder_grow 137 = .ok (.iconst 1, 1) := by decide +kernel
theorem d_Finder_grow_138 : decode b_Finder_grow 138 = .ok (.isub, 1) := by decide +kernel
theorem d_Finder_grow_139 : decode b_Finder_grow 139 = .ok (.invokevirtual 50, 3) := by decide +kernel
theorem d_Finder_grow_142 : decode b_Finder_grow 142 = .ok (.return_, 1) := by decide +kernel
def B_Finder_grow_0 (self : Int64 → Int64 → Int64 → Int32 → Sto → Option (Unit × Sto)) (a1 : Int64) (a3 : Int64) (a5 : Int64) (a7 : Int32) (σ : Sto) : Option (Unit × Sto) :=
  (if a3 = (0 : Int64) then (if a5 = (0 : Int64) then (if (324 : Int32) ≤ (gI σ 26 1) then some ((), σ)
   else (if inb (gI σ 26 1) 324 = true then (lt1 (sI (sL σ 27 (Int32.toNatClampNeg (gI σ 26 1)) a1) 26 1 ((gI (sL σ 27 (Int32.toNatClampNeg (gI σ 26 1)) a1) 26 1) + (1 : Int32))) fun σ10 => some ((), σ10)) else none))
  else some ((), σ))
 else ((f_FR_lastOf a3 a7 σ).bind fun q1 => (if q1.1 < 0 then some ((), q1.2)
  else ((f_Finder_isHopeless a3 a5 q1.2).bind fun q2 => (if (b2i q2.1) = 0 then (lt1 (a3 &&& ((lsh (1 : Int64) q1.1) ^^^ (-1 : Int64))) fun x3 => ((self a1 x3 (a5 ||| (lsh (1 : Int64) q1.1)) (q1.1 - (1 : Int32)) q2.2).bind fun q4 => (if cls (gN q4.2) = 4 then ((f_Net_fitting (gN q4.2) (gI q4.2 26 3) q1.1 x3 q4.2).bind fun q6 => (if cls (gN q6.2) = 4 then ((f_Net_fitting (gN q6.2) (gI q6.2 26 3) q1.1 a5 q6.2).bind fun q8 => ((self (a1 ||| (lsh (1 : Int64) q1.1)) q6.1 q8.1 (q1.1 - (1 : Int32)) q8.2).bind fun q9 => some ((), q9.2))) else none)) else none)))
   else some ((), q2.2))))))
set_option maxHeartbeats 4000000 in
set_option maxRecDepth 100000 in
theorem vB_Finder_grow_0 {X : Xt} {E : En} {hs : Nat} (hbs : 3 ≤ hs) (g : GG X E (1 + hs) b_Finder_grow R_Finder 13) {self : Int64 → Int64 → Int64 → Int32 → Sto → Option (Unit × Sto)} (hself : ∀ (a1 : Int64) (a3 : Int64) (a5 : Int64) (a7 : Int32) (σ : Sto) {r : Unit} {σ' : Sto}, self a1 a3 a5 a7 σ = some (r, σ') → Ct (x_l X) E y_Finder_grow (wsM y_Finder_grow b_Finder_grow 13 (none)) hs [.ref (E.2.1 26), .long a1, .long a3, .long a5, .int a7] σ (eU r) σ') (a1 : Int64) (a3 : Int64) (a5 : Int64) (a7 : Int32) (σ : Sto) : VV X E b_Finder_grow 13 eU 0 [(0, .ref (E.2.1 26)), (1, .long a1), (3, .long a3), (5, .long a5), (7, .int a7)] [] σ (B_Finder_grow_0 self a1 a3 a5 a7 σ) := by
  unfold B_Finder_grow_0
  refine v_lload_n 2 g d_Finder_grow_0 rfl ?_
  refine v_lconst (v := (0 : Int64)) g d_Finder_grow_1 (by decide +kernel) ?_
  refine v_lcmp_ne 44 g d_Finder_grow_2 d_Finder_grow_3 (by decide) (fun _ => ?_) (fun _ => ?_)
  · refine v_lload_n 2 g d_Finder_grow_44 rfl ?_
    refine v_iload 4 g d_Finder_grow_45 rfl ?_
    refine v_callI (r_SN (rest := []) (host := R_FR) [.long a3, .int a7] g (by decide +kernel) ys_FR_lastOf (fun r σ1 h => sp_FR_lastOf g.2.2.1  h) rfl rfl (by omega) (Nat.le_of_ble_eq_true rfl) d_Finder_grow_47) (fun q1 => ?_)
    refine v_istore [(8, .int q1.1), (0, .ref (E.2.1 26)), (1, .long a1), (3, .long a3), (5, .long a5), (7, .int a7)] g d_Finder_grow_50 (by decide) rfl ?_
    refine v_iload 0 g d_Finder_grow_52 rfl ?_
    refine v_if_lt 67 g d_Finder_grow_54 (by decide) (fun _ => ?_) (fun _ => ?_)
    · exact v_ret d_Finder_grow_67 rfl
    · refine v_aload_n 1 g d_Finder_grow_57 rfl ?_
      refine v_lload_n 3 g d_Finder_grow_58 rfl ?_
      refine v_lload 4 g d_Finder_grow_59 rfl ?_
      refine v_callB (r_V (rest := []) [.long a3, .long a5] g (m1 597 (by decide +kernel) (by decide +kernel)) yv_Finder_isHopeless rfl (fun r σ1 h => sp_Finder_isHopeless g.2.2.1  h) rfl rfl (by omega) (Nat.le_of_ble_eq_true rfl) d_Finder_grow_61) (fun q2 => ?_)
      refine v_if_eq 68 g d_Finder_grow_64 (by decide) (fun _ => ?_) (fun _ => ?_)
      · refine v_lconst (v := (1 : Int64)) g d_Finder_grow_68 (by decide +kernel) ?_
        refine v_iload 0 g d_Finder_grow_69 rfl ?_
        refine v_lshl g d_Finder_grow_71 ?_
        refine v_lstore [(9, .long (lsh (1 : Int64) q1.1)), (8, .int q1.1), (0, .ref (E.2.1 26)), (1, .long a1), (3, .long a3), (5, .long a5), (7, .int a7)] g d_Finder_grow_72 (by decide) rfl ?_
        refine v_lload_n 4 g d_Finder_grow_74 rfl ?_
        refine v_lload 0 g d_Finder_grow_75 rfl ?_
        refine v_ldc2 (v := (-1 : Int64)) g (m1 603 (by decide +kernel) (by decide +kernel)) d_Finder_grow_77 ?_
        refine v_lxor g d_Finder_grow_80 ?_
        refine v_land g d_Finder_grow_81 ?_
        refine v_nlet (fun x3 ex3 => ?_)
        rw [← ex3]
        refine v_lstore [(11, .long x3), (9, .long (lsh (1 : Int64) q1.1)), (8, .int q1.1), (0, .ref (E.2.1 26)), (1, .long a1), (3, .long a3), (5, .long a5), (7, .int a7)] g d_Finder_grow_82 (by decide) rfl ?_
        refine v_aload_n 3 g d_Finder_grow_84 rfl ?_
        refine v_lload_n 4 g d_Finder_grow_85 rfl ?_
        refine v_lload 0 g d_Finder_grow_86 rfl ?_
        refine v_lload 6 g d_Finder_grow_88 rfl ?_
        refine v_lload 1 g d_Finder_grow_90 rfl ?_
        refine v_lor g d_Finder_grow_92 ?_
        refine v_iload 2 g d_Finder_grow_93 rfl ?_
        refine v_iconst (v := (1 : Int32)) g d_Finder_grow_95 (by decide +kernel) ?_
        refine v_isub g d_Finder_grow_96 ?_
        refine v_callU (r_V (rest := []) [.long a1, .long x3, .long (a5 ||| (lsh (1 : Int64) q1.1)), .int (q1.1 - (1 : Int32))] g (m1 589 (by decide +kernel) (by decide +kernel)) yv_Finder_grow rfl (fun r σ1 h => hself a1 x3 (a5 ||| (lsh (1 : Int64) q1.1)) (q1.1 - (1 : Int32)) q2.2 h) rfl rfl (by omega) (Nat.le_of_ble_eq_true rfl) d_Finder_grow_97) (fun q4 => ?_)
        refine v_aload_n 3 g d_Finder_grow_100 rfl ?_
        refine v_lload_n 4 g d_Finder_grow_101 rfl ?_
        refine v_lload 1 g d_Finder_grow_102 rfl ?_
        refine v_lor g d_Finder_grow_104 ?_
        refine v_aload_n 3 g d_Finder_grow_105 rfl ?_
        refine v_getN g ff_Finder_41 rfl rfl d_Finder_grow_106 ?_
        refine v_grd _ (fun h5 => ?_)
        refine v_aload_n 3 g d_Finder_grow_109 rfl ?_
        refine v_getI g ff_Finder_19 rfl rfl d_Finder_grow_110 ?_
        refine v_iload 2 g d_Finder_grow_113 rfl ?_
        refine v_lload 0 g d_Finder_grow_115 rfl ?_
        refine v_callL (r_V (rest := [.long (a1 ||| (lsh (1 : Int64) q1.1)), .ref (E.2.1 26)]) [.int (gI q4.2 26 3), .int q1.1, .long x3] g (m1 602 (by decide +kernel) (by decide +kernel)) yv_Net_fitting h5 (fun r σ1 h => sp_Net_fitting g.2.2.1 h5 h) rfl rfl (by omega) (Nat.le_of_ble_eq_true rfl) d_Finder_grow_117) (fun q6 => ?_)
        refine v_aload_n 3 g d_Finder_grow_120 rfl ?_
        refine v_getN g ff_Finder_41 rfl rfl d_Finder_grow_121 ?_
        refine v_grd _ (fun h7 => ?_)
        refine v_aload_n 3 g d_Finder_grow_124 rfl ?_
        refine v_getI g ff_Finder_19 rfl rfl d_Finder_grow_125 ?_
        refine v_iload 2 g d_Finder_grow_128 rfl ?_
        refine v_lload 6 g d_Finder_grow_130 rfl ?_
        refine v_callL (r_V (rest := [.long q6.1, .long (a1 ||| (lsh (1 : Int64) q1.1)), .ref (E.2.1 26)]) [.int (gI q6.2 26 3), .int q1.1, .long a5] g (m1 602 (by decide +kernel) (by decide +kernel)) yv_Net_fitting h7 (fun r σ1 h => sp_Net_fitting g.2.2.1 h7 h) rfl rfl (by omega) (Nat.le_of_ble_eq_true rfl) d_Finder_grow_132) (fun q8 => ?_)
        refine v_iload 2 g d_Finder_grow_135 rfl ?_
        refine v_iconst (v := (1 : Int32)) g d_Finder_grow_137 (by decide +kernel) ?_
        refine v_isub g d_Finder_grow_138 ?_
        refine v_callU (r_V (rest := []) [.long (a1 ||| (lsh (1 : Int64) q1.1)), .long q6.1, .long q8.1, .int (q1.1 - (1 : Int32))] g (m1 589 (by decide +kernel) (by decide +kernel)) yv_Finder_grow rfl (fun r σ1 h => hself (a1 ||| (lsh (1 : Int64) q1.1)) q6.1 q8.1 (q1.1 - (1 : Int32)) q8.2 h) rfl rfl (by omega) (Nat.le_of_ble_eq_true rfl) d_Finder_grow_139) (fun q9 => ?_)
        exact v_ret d_Finder_grow_142 rfl
      · exact v_ret d_Finder_grow_67 rfl
  · refine v_lload 3 g d_Finder_grow_6 rfl ?_
    refine v_lconst (v := (0 : Int64)) g d_Finder_grow_8 (by decide +kernel) ?_
    refine v_lcmp_ne 43 g d_Finder_grow_9 d_Finder_grow_10 (by decide) (fun _ => ?_) (fun _ => ?_)
    · exact v_ret d_Finder_grow_43 rfl
    · refine v_aload_n 0 g d_Finder_grow_13 rfl ?_
      refine v_getI g ff_Finder_15 rfl rfl d_Finder_grow_14 ?_
      refine v_sipush (v := (324 : Int32)) g d_Finder_grow_17 (by decide +kernel) ?_
      refine v_icmp_ge 43 g d_Finder_grow_20 (by decide) (fun _ => ?_) (fun _ => ?_)
      · exact v_ret d_Finder_grow_43 rfl
      · refine v_aload_n 0 g d_Finder_grow_23 rfl ?_
        refine v_getR 27 g ff_Finder_9 rfl rfl rfl d_Finder_grow_24 ?_
        refine v_aload_n 0 g d_Finder_grow_27 rfl ?_
        refine v_getI g ff_Finder_15 rfl rfl d_Finder_grow_28 ?_
        refine v_lload_n 1 g d_Finder_grow_31 rfl ?_
        refine v_last g rfl rfl d_Finder_grow_32 (fun _ => ?_)
        refine v_aload_n 0 g d_Finder_grow_33 rfl ?_
        refine v_dup g d_Finder_grow_34 rfl ?_
        refine v_getI g ff_Finder_15 rfl rfl d_Finder_grow_35 ?_
        refine v_iconst (v := (1 : Int32)) g d_Finder_grow_38 (by decide +kernel) ?_
        refine v_iadd g d_Finder_grow_39 ?_
        refine v_putI g fp_Finder_15 rfl rfl d_Finder_grow_40 ?_
        refine v_nlet (fun σ10 eσ10 => ?_)
        rw [← eσ10]
        exact v_ret d_Finder_grow_43 rfl
def f_Finder_grow : Nat → Int64 → Int64 → Int64 → Int32 → Sto → Option (Unit × Sto)
  | 0, _, _, _, _, _ => none
  | fu + 1, a1, a3, a5, a7, σ => B_Finder_grow_0 (f_Finder_grow fu) a1 a3 a5 a7 σ
theorem sp_Finder_grow {l : Launch} {E : En} (hE : Dj E) (fu : Nat) : ∀ {a1 : Int64} {a3 : Int64} {a5 : Int64} {a7 : Int32} {σ : Sto} {r : Unit} {σ' : Sto}, f_Finder_grow fu a1 a3 a5 a7 σ = some (r, σ') → Ct l E y_Finder_grow (wsM y_Finder_grow b_Finder_grow 13 (none)) (3 + fu) [.ref (E.2.1 26), .long a1, .long a3, .long a5, .int a7] σ (eU r) σ' := by
  induction fu with
  | zero => intros; rename_i h; cases h
  | succ fu ih =>
    intro a1 a3 a5 a7 σ r σ' h
    exact ct_of hE (by decide +kernel) (Nat.le_of_ble_eq_true rfl) (fun _ => Or.inr (Or.inr (Or.inr (Or.inl ⟨rfl, rfl⟩)))) (fun X hX g => vB_Finder_grow_0 (hs := 3 + fu) (by omega) (by rw [show 1 + (3 + fu) = 3 + (fu + 1) by omega]; exact g) (fun _ _ _ _ _ _ _ hh => by rw [hX]; exact ih hh) a1 a3 a5 a7 σ) r σ' h
/-! method FittingRings$Finder.gather(LFittingRings$Net;IJ)V -/
theorem yv_Finder_gather : YV y_Finder_gather b_Finder_gather 5 (none) 3 0 := ⟨m1 586 (by decide +kernel) (by decide +kernel), m1 587 (by decide +kernel) (by decide +kernel), ini_Finder, m1 588 (by decide +kernel) (by decide +kernel), ⟨by decide +kernel, by decide +kernel, by decide +kernel⟩, by decide, by decide, T_Finder, 10, rfl⟩
theorem d_Finder_gather_0 : decode b_Finder_gather 0 = .ok (.aload_n 0, 1) := by decide +kernel
theorem d_Finder_gather_1 : decode b_Finder_gather 1 = .ok (.aload_n 1, 1) := by decide +kernel
theorem d_Finder_gather_2 : decode b_Finder_gather 2 = .ok (.putfield 41, 3) := by decide +kernel
theorem d_Finder_gather_5 : decode b_Finder_gather 5 = .ok (.aload_n 0, 1) := by decide +kernel
theorem d_Finder_gather_6 : decode b_Finder_gather 6 = .ok (.iload_n 2, 1) := by decide +kernel
theorem d_Finder_gather_7 : decode b_Finder_gather 7 = .ok (.putfield 19, 3) := by decide +kernel
theorem d_Finder_gather_10 : decode b_Finder_gather 10 = .ok (.aload_n 0, 1) := by decide +kernel
theorem d_Finder_gather_11 : decode b_Finder_gather 11 = .ok (.iconst 0, 1) := by decide +kernel
theorem d_Finder_gather_12 : decode b_Finder_gather 12 = .ok (.putfield 15, 3) := by decide +kernel
theorem d_Finder_gather_15 : decode b_Finder_gather 15 = .ok (.aload_n 0, 1) := by decide +kernel
theorem d_Finder_gather_16 : decode b_Finder_gather 16 = .ok (.lconst 0, 1) := by decide +kernel
theorem d_Finder_gather_17 : decode b_Finder_gather 17 = .ok (.lload_n 3, 1) := by decide +kernel
theorem d_Finder_gather_18 : decode b_Finder_gather 18 = .ok (.lconst 0, 1) := by decide +kernel
theorem d_Finder_gather_19 : decode b_Finder_gather 19 = .ok (.aload_n 0, 1) := by decide +kernel
theorem d_Finder_gather_20 : decode b_Finder_gather 20 = .ok (.getfield 41, 3) := by decide +kernel
theorem d_Finder_gather_23 : decode b_Finder_gather 23 = .ok (.getfield 45, 3) := by decide +kernel
theorem d_Finder_gather_26 : decode b_Finder_gather 26 = .ok (.iconst 1, 1) := by decide +kernel
theorem d_Finder_gather_27 : decode b_Finder_gather 27 = .ok (.isub, 1) := by decide +kernel
theorem d_Finder_gather_28 : decode b_Finder_gather 28 = .ok (.invokevirtual 50, 3) := by decide +kernel
theorem d_Finder_gather_31 : decode b_Finder_gather 31 = .ok (.return_, 1) := by decide +kernel
def B_Finder_gather_0 (a1 : Nat) (a2 : Int32) (a3 : Int64) (σ : Sto) : Option (Unit × Sto) :=
  (if cls (gN (sI (sI (sN σ a1) 26 3 a2) 26 1 (0 : Int32))) = 4 then ((f_Finder_grow 64 (0 : Int64) a3 (0 : Int64) ((gI (sI (sI (sN σ a1) 26 3 a2) 26 1 (0 : Int32)) (gN (sI (sI (sN σ a1) 26 3 a2) 26 1 (0 : Int32))) 0) - (1 : Int32)) (sI (sI (sN σ a1) 26 3 a2) 26 1 (0 : Int32))).bind fun q2 => some ((), q2.2)) else none)
set_option maxHeartbeats 4000000 in
set_option maxRecDepth 100000 in
theorem vB_Finder_gather_0 {X : Xt} {E : En} (g : GG X E 69 b_Finder_gather R_Finder 5) (a1 : Nat) (a2 : Int32) (a3 : Int64) (ha1 : cls a1 = 4) (σ : Sto) : VV X E b_Finder_gather 5 eU 0 [(0, .ref (E.2.1 26)), (1, .ref (E.2.1 a1)), (2, .int a2), (3, .long a3)] [] σ (B_Finder_gather_0 a1 a2 a3 σ) := by
  unfold B_Finder_gather_0
  refine v_aload_n 0 g d_Finder_gather_0 rfl ?_
  refine v_aload_n 1 g d_Finder_gather_1 rfl ?_
  refine v_putN g fp_Finder_41 d_Finder_gather_2 ?_
  refine v_aload_n 0 g d_Finder_gather_5 rfl ?_
  refine v_iload_n 2 g d_Finder_gather_6 rfl ?_
  refine v_putI g fp_Finder_19 rfl rfl d_Finder_gather_7 ?_
  refine v_aload_n 0 g d_Finder_gather_10 rfl ?_
  refine v_iconst (v := (0 : Int32)) g d_Finder_gather_11 (by decide +kernel) ?_
  refine v_putI g fp_Finder_15 rfl rfl d_Finder_gather_12 ?_
  refine v_aload_n 0 g d_Finder_gather_15 rfl ?_
  refine v_lconst (v := (0 : Int64)) g d_Finder_gather_16 (by decide +kernel) ?_
  refine v_lload_n 3 g d_Finder_gather_17 rfl ?_
  refine v_lconst (v := (0 : Int64)) g d_Finder_gather_18 (by decide +kernel) ?_
  refine v_aload_n 0 g d_Finder_gather_19 rfl ?_
  refine v_getN g ff_Finder_41 rfl rfl d_Finder_gather_20 ?_
  refine v_grd _ (fun h1 => ?_)
  refine v_getI g ff_Finder_45 h1 rfl d_Finder_gather_23 ?_
  refine v_iconst (v := (1 : Int32)) g d_Finder_gather_26 (by decide +kernel) ?_
  refine v_isub g d_Finder_gather_27 ?_
  refine v_callU (r_V (rest := []) [.long (0 : Int64), .long a3, .long (0 : Int64), .int ((gI (sI (sI (sN σ a1) 26 3 a2) 26 1 (0 : Int32)) (gN (sI (sI (sN σ a1) 26 3 a2) 26 1 (0 : Int32))) 0) - (1 : Int32))] g (m1 589 (by decide +kernel) (by decide +kernel)) yv_Finder_grow rfl (fun r σ1 h => sp_Finder_grow g.2.2.1 64  h) rfl rfl (by decide) (Nat.le_of_ble_eq_true rfl) d_Finder_gather_28) (fun q2 => ?_)
  exact v_ret d_Finder_gather_31 rfl
def f_Finder_gather (a1 : Nat) (a2 : Int32) (a3 : Int64) (σ : Sto) : Option (Unit × Sto) := B_Finder_gather_0 a1 a2 a3 σ
theorem sp_Finder_gather {l : Launch} {E : En} (hE : Dj E) {a1 : Nat} {a2 : Int32} {a3 : Int64} (ha1 : cls a1 = 4) {σ : Sto} {r : Unit} {σ' : Sto} (h : f_Finder_gather a1 a2 a3 σ = some (r, σ')) : Ct l E y_Finder_gather (wsM y_Finder_gather b_Finder_gather 5 (none)) 69 [.ref (E.2.1 26), .ref (E.2.1 a1), .int a2, .long a3] σ (eU r) σ' :=
  ct_of hE (by decide +kernel) (Nat.le_of_ble_eq_true rfl) (fun _ => Or.inr (Or.inr (Or.inr (Or.inl ⟨rfl, rfl⟩)))) (fun X _ g => vB_Finder_gather_0 g a1 a2 a3 ha1 σ) r σ' h
/-! method FittingRings$Finder.mostWorth(I)I -/
theorem yv_Finder_mostWorth : YV y_Finder_mostWorth b_Finder_mostWorth 4 (some .int) 1 0 := ⟨m1 605 (by decide +kernel) (by decide +kernel), m1 606 (by decide +kernel) (by decide +kernel), ini_Finder, m1 607 (by decide +kernel) (by decide +kernel), ⟨by decide +kernel, by decide +kernel, by decide +kernel⟩, by decide, by decide, T_Finder, 10, rfl⟩
theorem d_Finder_mostWorth_0 : decode b_Finder_mostWorth 0 = .ok (.iconst 0, 1) := by decide +kernel
theorem d_Finder_mostWorth_1 : decode b_Finder_mostWorth 1 = .ok (.istore_n 2, 1) := by decide +kernel
theorem d_Finder_mostWorth_2 : decode b_Finder_mostWorth 2 = .ok (.iconst 0, 1) := by decide +kernel
theorem d_Finder_mostWorth_3 : decode b_Finder_mostWorth 3 = .ok (.istore_n 3, 1) := by decide +kernel
theorem d_Finder_mostWorth_4 : decode b_Finder_mostWorth 4 = .ok (.iload_n 3, 1) := by decide +kernel
theorem d_Finder_mostWorth_5 : decode b_Finder_mostWorth 5 = .ok (.aload_n 0, 1) := by decide +kernel
theorem d_Finder_mostWorth_6 : decode b_Finder_mostWorth 6 = .ok (.getfield 15, 3) := by decide +kernel
theorem d_Finder_mostWorth_9 : decode b_Finder_mostWorth 9 = .ok (.if_icmp .ge 28, 3) := by decide +kernel
theorem d_Finder_mostWorth_12 : decode b_Finder_mostWorth 12 = .ok (.iload_n 2, 1) := by decide +kernel
theorem d_Finder_mostWorth_13 : decode b_Finder_mostWorth 13 = .ok (.aload_n 0, 1) := by decide +kernel
theorem d_Finder_mostWorth_14 : decode b_Finder_mostWorth 14 = .ok (.getfield 41, 3) := by decide +kernel
theorem d_Finder_mostWorth_17 : decode b_Finder_mostWorth 17 = .ok (.iload_n 1, 1) := by decide +kernel
theorem d_Finder_mostWorth_18 : decode b_Finder_mostWorth 18 = .ok (.aload_n 0, 1) := by decide +kernel
theorem d_Finder_mostWorth_19 : decode b_Finder_mostWorth 19 = .ok (.getfield 9, 3) := by decide +kernel
theorem d_Finder_mostWorth_22 : decode b_Finder_mostWorth 22 = .ok (.iload_n 3, 1) := by decide +kernel
theorem d_Finder_mostWorth_23 : decode b_Finder_mostWorth 23 = .ok (.laload, 1) := by decide +kernel
theorem d_Finder_mostWorth_24 : decode b_Finder_mostWorth 24 = .ok (.invokevirtual 72, 3) := by decide +kernel
theorem d_Finder_mostWorth_27 : decode b_Finder_mostWorth 27 = .ok (.invokestatic 76, 3) := by decide +kernel
theorem d_Finder_mostWorth_30 : decode b_Finder_mostWorth 30 = .ok (.istore_n 2, 1) := by decide +kernel
theorem d_Finder_mostWorth_31 : decode b_Finder_mostWorth 31 = .ok (.iinc 3 1, 3) := by decide +kernel
theorem d_Finder_mostWorth_34 : decode b_Finder_mostWorth 34 = .ok (.goto (-30), 3) := by decide +kernel
theorem d_Finder_mostWorth_37 : decode b_Finder_mostWorth 37 = .ok (.iload_n 2, 1) := by decide +kernel
theorem d_Finder_mostWorth_38 : decode b_Finder_mostWorth 38 = .ok (.ireturn, 1) := by decide +kernel
def B_Finder_mostWorth_4 (k4 : Int32 → Int32 → Int32 → Sto → Option (Int32 × Sto)) (v1 : Int32) (v2 : Int32) (v3 : Int32) (σ : Sto) : Option (Int32 × Sto) :=
  (if (gI σ 26 1) ≤ v3 then some (v2, σ)
 else (if cls (gN σ) = 4 then (if inb v3 324 = true then ((f_Net_worth (gN σ) v1 (gL σ 27 (Int32.toNatClampNeg v3)) σ).bind fun q2 => k4 v1 (mxI v2 q2.1) (v3 + (1 : Int32)) q2.2) else none) else none))
set_option maxHeartbeats 4000000 in
set_option maxRecDepth 100000 in
theorem vB_Finder_mostWorth_4 {X : Xt} {E : En} (g : GG X E 3 b_Finder_mostWorth R_Finder 4) {k4 : Int32 → Int32 → Int32 → Sto → Option (Int32 × Sto)} (hk4 : ∀ (v1 : Int32) (v2 : Int32) (v3 : Int32) (σ : Sto), VV X E b_Finder_mostWorth 4 eI 4 [(0, .ref (E.2.1 26)), (1, .int v1), (2, .int v2), (3, .int v3)] [] σ (k4 v1 v2 v3 σ)) (v1 : Int32) (v2 : Int32) (v3 : Int32) (σ : Sto) : VV X E b_Finder_mostWorth 4 eI 4 [(0, .ref (E.2.1 26)), (1, .int v1), (2, .int v2), (3, .int v3)] [] σ (B_Finder_mostWorth_4 k4 v1 v2 v3 σ) := by
  unfold B_Finder_mostWorth_4
  refine v_iload_n 3 g d_Finder_mostWorth_4 rfl ?_
  refine v_aload_n 0 g d_Finder_mostWorth_5 rfl ?_
  refine v_getI g ff_Finder_15 rfl rfl d_Finder_mostWorth_6 ?_
  refine v_icmp_ge 37 g d_Finder_mostWorth_9 (by decide) (fun _ => ?_) (fun _ => ?_)
  · refine v_iload_n 2 g d_Finder_mostWorth_37 rfl ?_
    exact v_ret d_Finder_mostWorth_38 rfl
  · refine v_iload_n 2 g d_Finder_mostWorth_12 rfl ?_
    refine v_aload_n 0 g d_Finder_mostWorth_13 rfl ?_
    refine v_getN g ff_Finder_41 rfl rfl d_Finder_mostWorth_14 ?_
    refine v_grd _ (fun h1 => ?_)
    refine v_iload_n 1 g d_Finder_mostWorth_17 rfl ?_
    refine v_aload_n 0 g d_Finder_mostWorth_18 rfl ?_
    refine v_getR 27 g ff_Finder_9 rfl rfl rfl d_Finder_mostWorth_19 ?_
    refine v_iload_n 3 g d_Finder_mostWorth_22 rfl ?_
    refine v_lald g rfl rfl d_Finder_mostWorth_23 (fun _ => ?_)
    refine v_callI (r_V (rest := [.int v2]) [.int v1, .long (gL σ 27 (Int32.toNatClampNeg v3))] g (m1 608 (by decide +kernel) (by decide +kernel)) yv_Net_worth h1 (fun r σ1 h => sp_Net_worth g.2.2.1 h1 h) rfl rfl (by decide) (Nat.le_of_ble_eq_true rfl) d_Finder_mostWorth_24) (fun q2 => ?_)
    refine v_mmax g (m1 609 (by decide +kernel) (by decide +kernel)) (by decide) (Nat.le_of_ble_eq_true rfl) d_Finder_mostWorth_27 ?_
    refine v_istore_n [(2, .int (mxI v2 q2.1)), (0, .ref (E.2.1 26)), (1, .int v1), (3, .int v3)] g d_Finder_mostWorth_30 (by decide) rfl ?_
    refine v_iinc 3 [(3, .int (v3 + (1 : Int32))), (2, .int (mxI v2 q2.1)), (0, .ref (E.2.1 26)), (1, .int v1)] g d_Finder_mostWorth_31 rfl (v := (1 : Int32)) (by decide +kernel) (by decide) rfl ?_
    refine v_goto 4 g d_Finder_mostWorth_34 (by decide) ?_
    exact v_sub [2,3,1,0] rfl (hk4 v1 (mxI v2 q2.1) (v3 + (1 : Int32)) q2.2)
def L_Finder_mostWorth_4 : Nat → Int32 → Int32 → Int32 → Sto → Option (Int32 × Sto)
  | 0, _, _, _, _ => none
  | fu + 1, v1, v2, v3, σ => B_Finder_mostWorth_4 (L_Finder_mostWorth_4 fu) v1 v2 v3 σ
theorem vL_Finder_mostWorth_4 {X : Xt} {E : En} (g : GG X E 3 b_Finder_mostWorth R_Finder 4) (fu : Nat) : ∀ (v1 : Int32) (v2 : Int32) (v3 : Int32) (σ : Sto), VV X E b_Finder_mostWorth 4 eI 4 [(0, .ref (E.2.1 26)), (1, .int v1), (2, .int v2), (3, .int v3)] [] σ (L_Finder_mostWorth_4 fu v1 v2 v3 σ) := by
  induction fu with
  | zero => intros; exact v_none
  | succ fu ih =>
    intro v1 v2 v3 σ
    exact vB_Finder_mostWorth_4 g ih v1 v2 v3 σ
def B_Finder_mostWorth_0 (a1 : Int32) (σ : Sto) : Option (Int32 × Sto) :=
  L_Finder_mostWorth_4 LF a1 (0 : Int32) (0 : Int32) σ
set_option maxHeartbeats 4000000 in
set_option maxRecDepth 100000 in
theorem vB_Finder_mostWorth_0 {X : Xt} {E : En} (g : GG X E 3 b_Finder_mostWorth R_Finder 4) (a1 : Int32) (σ : Sto) : VV X E b_Finder_mostWorth 4 eI 0 [(0, .ref (E.2.1 26)), (1, .int a1)] [] σ (B_Finder_mostWorth_0 a1 σ) := by
  unfold B_Finder_mostWorth_0
  refine v_iconst (v := (0 : Int32)) g d_Finder_mostWorth_0 (by decide +kernel) ?_
  refine v_istore_n [(2, .int (0 : Int32)), (0, .ref (E.2.1 26)), (1, .int a1)] g d_Finder_mostWorth_1 (by decide) rfl ?_
  refine v_iconst (v := (0 : Int32)) g d_Finder_mostWorth_2 (by decide +kernel) ?_
  refine v_istore_n [(3, .int (0 : Int32)), (2, .int (0 : Int32)), (0, .ref (E.2.1 26)), (1, .int a1)] g d_Finder_mostWorth_3 (by decide) rfl ?_
  exact v_sub [2,3,1,0] rfl (vL_Finder_mostWorth_4 g LF a1 (0 : Int32) (0 : Int32) σ)
def f_Finder_mostWorth (a1 : Int32) (σ : Sto) : Option (Int32 × Sto) := B_Finder_mostWorth_0 a1 σ
theorem sp_Finder_mostWorth {l : Launch} {E : En} (hE : Dj E) {a1 : Int32} {σ : Sto} {r : Int32} {σ' : Sto} (h : f_Finder_mostWorth a1 σ = some (r, σ')) : Ct l E y_Finder_mostWorth (wsM y_Finder_mostWorth b_Finder_mostWorth 4 (some .int)) 3 [.ref (E.2.1 26), .int a1] σ (eI r) σ' :=
  ct_of hE (by decide +kernel) (Nat.le_of_ble_eq_true rfl) (fun x => Or.inl ⟨rfl, x, rfl⟩) (fun X _ g => vB_Finder_mostWorth_0 g a1 σ) r σ' h
/-! method FittingRings$Finder.firstOf(II)J -/
theorem yv_Finder_firstOf : YV y_Finder_firstOf b_Finder_firstOf 4 (some .long) 2 0 := ⟨m1 611 (by decide +kernel) (by decide +kernel), m1 612 (by decide +kernel) (by decide +kernel), ini_Finder, m1 613 (by decide +kernel) (by decide +kernel), ⟨by decide +kernel, by decide +kernel, by decide +kernel⟩, by decide, by decide, T_Finder, 10, rfl⟩
theorem d_Finder_firstOf_0 : decode b_Finder_firstOf 0 = .ok (.iconst 0, 1) := by decide +kernel
theorem d_Finder_firstOf_1 : decode b_Finder_firstOf 1 = .ok (.istore_n 3, 1) := by decide +kernel
theorem d_Finder_firstOf_2 : decode b_Finder_firstOf 2 = .ok (.iload_n 3, 1) := by decide +kernel
theorem d_Finder_firstOf_3 : decode b_Finder_firstOf 3 = .ok (.aload_n 0, 1) := by decide +kernel
theorem d_Finder_firstOf_4 : decode b_Finder_firstOf 4 = .ok (.getfield 15, 3) := by decide +kernel
theorem d_Finder_firstOf_7 : decode b_Finder_firstOf 7 = .ok (.if_icmp .ge 34, 3) := by decide +kernel
theorem d_Finder_firstOf_10 : decode b_Finder_firstOf 10 = .ok (.aload_n 0, 1) := by decide +kernel
theorem d_Finder_firstOf_11 : decode b_Finder_firstOf 11 = .ok (.getfield 41, 3) := by decide +kernel
theorem d_Finder_firstOf_14 : decode b_Finder_firstOf 14 = .ok (.iload_n 1, 1) := by decide +kernel
theorem d_Finder_firstOf_15 : decode b_Finder_firstOf 15 = .ok (.aload_n 0, 1) := by decide +kernel
theorem d_Finder_firstOf_16 : decode b_Finder_firstOf 16 = .ok (.getfield 9, 3) := by decide +kernel
theorem d_Finder_firstOf_19 : decode b_Finder_firstOf 19 = .ok (.iload_n 3, 1) := by decide +kernel
theorem d_Finder_firstOf_20 : decode b_Finder_firstOf 20 = .ok (.laload, 1) := by decide +kernel
theorem d_Finder_firstOf_21 : decode b_Finder_firstOf 21 = .ok (.invokevirtual 72, 3) := by decide +kernel
theorem d_Finder_firstOf_24 : decode b_Finder_firstOf 24 = .ok (.iload_n 2, 1) := by decide +kernel
theorem d_Finder_firstOf_25 : decode b_Finder_firstOf 25 = .ok (.if_icmp .ne 10, 3) := by decide +kernel
theorem d_Finder_firstOf_28 : decode b_Finder_firstOf 28 = .ok (.aload_n 0, 1) := by decide +kernel
theorem d_Finder_firstOf_29 : decode b_Finder_firstOf 29 = .ok (.getfield 9, 3) := by decide +kernel
theorem d_Finder_firstOf_32 : decode b_Finder_firstOf 32 = .ok (.iload_n 3, 1) := by decide +kernel
theorem d_Finder_firstOf_33 : decode b_Finder_firstOf 33 = .ok (.laload, 1) := by decide +kernel
theorem d_Finder_firstOf_34 : decode b_Finder_firstOf 34 = .ok (.lreturn, 1) := by decide +kernel
theorem d_Finder_firstOf_35 : decode b_Finder_firstOf 35 = .ok (.iinc 3 1, 3) := by decide +kernel
theorem d_Finder_firstOf_38 : decode b_Finder_firstOf 38 = .ok (.goto (-36), 3) := by decide +kernel
theorem d_Finder_firstOf_41 : decode b_Finder_firstOf 41 = .ok (.lconst 0, 1) := by decide +kernel
theorem d_Finder_firstOf_42 : decode b_Finder_firstOf 42 = .ok (.lreturn, 1) := by decide +kernel
def B_Finder_firstOf_2 (k2 : Int32 → Int32 → Int32 → Sto → Option (Int64 × Sto)) (v1 : Int32) (v2 : Int32) (v3 : Int32) (σ : Sto) : Option (Int64 × Sto) :=
  (if (gI σ 26 1) ≤ v3 then some ((0 : Int64), σ)
 else (if cls (gN σ) = 4 then (if inb v3 324 = true then ((f_Net_worth (gN σ) v1 (gL σ 27 (Int32.toNatClampNeg v3)) σ).bind fun q2 => (if q2.1 = v2 then (if inb v3 324 = true then some ((gL q2.2 27 (Int32.toNatClampNeg v3)), q2.2) else none)
  else k2 v1 v2 (v3 + (1 : Int32)) q2.2)) else none) else none))
set_option maxHeartbeats 4000000 in
set_option maxRecDepth 100000 in
theorem vB_Finder_firstOf_2 {X : Xt} {E : En} (g : GG X E 3 b_Finder_firstOf R_Finder 4) {k2 : Int32 → Int32 → Int32 → Sto → Option (Int64 × Sto)} (hk2 : ∀ (v1 : Int32) (v2 : Int32) (v3 : Int32) (σ : Sto), VV X E b_Finder_firstOf 4 eL 2 [(0, .ref (E.2.1 26)), (1, .int v1), (2, .int v2), (3, .int v3)] [] σ (k2 v1 v2 v3 σ)) (v1 : Int32) (v2 : Int32) (v3 : Int32) (σ : Sto) : VV X E b_Finder_firstOf 4 eL 2 [(0, .ref (E.2.1 26)), (1, .int v1), (2, .int v2), (3, .int v3)] [] σ (B_Finder_firstOf_2 k2 v1 v2 v3 σ) := by
  unfold B_Finder_firstOf_2
  refine v_iload_n 3 g d_Finder_firstOf_2 rfl ?_
  refine v_aload_n 0 g d_Finder_firstOf_3 rfl ?_
  refine v_getI g ff_Finder_15 rfl rfl d_Finder_firstOf_4 ?_
  refine v_icmp_ge 41 g d_Finder_firstOf_7 (by decide) (fun _ => ?_) (fun _ => ?_)
  · refine v_lconst (v := (0 : Int64)) g d_Finder_firstOf_41 (by decide +kernel) ?_
    exact v_ret d_Finder_firstOf_42 rfl
  · refine v_aload_n 0 g d_Finder_firstOf_10 rfl ?_
    refine v_getN g ff_Finder_41 rfl rfl d_Finder_firstOf_11 ?_
    refine v_grd _ (fun h1 => ?_)
    refine v_iload_n 1 g d_Finder_firstOf_14 rfl ?_
    refine v_aload_n 0 g d_Finder_firstOf_15 rfl ?_
    refine v_getR 27 g ff_Finder_9 rfl rfl rfl d_Finder_firstOf_16 ?_
    refine v_iload_n 3 g d_Finder_firstOf_19 rfl ?_
    refine v_lald g rfl rfl d_Finder_firstOf_20 (fun _ => ?_)
    refine v_callI (r_V (rest := []) [.int v1, .long (gL σ 27 (Int32.toNatClampNeg v3))] g (m1 608 (by decide +kernel) (by decide +kernel)) yv_Net_worth h1 (fun r σ1 h => sp_Net_worth g.2.2.1 h1 h) rfl rfl (by decide) (Nat.le_of_ble_eq_true rfl) d_Finder_firstOf_21) (fun q2 => ?_)
    refine v_iload_n 2 g d_Finder_firstOf_24 rfl ?_
    refine v_icmp_ne 35 g d_Finder_firstOf_25 (by decide) (fun _ => ?_) (fun _ => ?_)
    · refine v_iinc 3 [(3, .int (v3 + (1 : Int32))), (0, .ref (E.2.1 26)), (1, .int v1), (2, .int v2)] g d_Finder_firstOf_35 rfl (v := (1 : Int32)) (by decide +kernel) (by decide) rfl ?_
      refine v_goto 2 g d_Finder_firstOf_38 (by decide) ?_
      exact v_sub [1,2,3,0] rfl (hk2 v1 v2 (v3 + (1 : Int32)) q2.2)
    · refine v_aload_n 0 g d_Finder_firstOf_28 rfl ?_
      refine v_getR 27 g ff_Finder_9 rfl rfl rfl d_Finder_firstOf_29 ?_
      refine v_iload_n 3 g d_Finder_firstOf_32 rfl ?_
      refine v_lald g rfl rfl d_Finder_firstOf_33 (fun _ => ?_)
      exact v_ret d_Finder_firstOf_34 rfl
def L_Finder_firstOf_2 : Nat → Int32 → Int32 → Int32 → Sto → Option (Int64 × Sto)
  | 0, _, _, _, _ => none
  | fu + 1, v1, v2, v3, σ => B_Finder_firstOf_2 (L_Finder_firstOf_2 fu) v1 v2 v3 σ
theorem vL_Finder_firstOf_2 {X : Xt} {E : En} (g : GG X E 3 b_Finder_firstOf R_Finder 4) (fu : Nat) : ∀ (v1 : Int32) (v2 : Int32) (v3 : Int32) (σ : Sto), VV X E b_Finder_firstOf 4 eL 2 [(0, .ref (E.2.1 26)), (1, .int v1), (2, .int v2), (3, .int v3)] [] σ (L_Finder_firstOf_2 fu v1 v2 v3 σ) := by
  induction fu with
  | zero => intros; exact v_none
  | succ fu ih =>
    intro v1 v2 v3 σ
    exact vB_Finder_firstOf_2 g ih v1 v2 v3 σ
def B_Finder_firstOf_0 (a1 : Int32) (a2 : Int32) (σ : Sto) : Option (Int64 × Sto) :=
  L_Finder_firstOf_2 LF a1 a2 (0 : Int32) σ
set_option maxHeartbeats 4000000 in
set_option maxRecDepth 100000 in
theorem vB_Finder_firstOf_0 {X : Xt} {E : En} (g : GG X E 3 b_Finder_firstOf R_Finder 4) (a1 : Int32) (a2 : Int32) (σ : Sto) : VV X E b_Finder_firstOf 4 eL 0 [(0, .ref (E.2.1 26)), (1, .int a1), (2, .int a2)] [] σ (B_Finder_firstOf_0 a1 a2 σ) := by
  unfold B_Finder_firstOf_0
  refine v_iconst (v := (0 : Int32)) g d_Finder_firstOf_0 (by decide +kernel) ?_
  refine v_istore_n [(3, .int (0 : Int32)), (0, .ref (E.2.1 26)), (1, .int a1), (2, .int a2)] g d_Finder_firstOf_1 (by decide) rfl ?_
  exact v_sub [1,2,3,0] rfl (vL_Finder_firstOf_2 g LF a1 a2 (0 : Int32) σ)
def f_Finder_firstOf (a1 : Int32) (a2 : Int32) (σ : Sto) : Option (Int64 × Sto) := B_Finder_firstOf_0 a1 a2 σ
theorem sp_Finder_firstOf {l : Launch} {E : En} (hE : Dj E) {a1 : Int32} {a2 : Int32} {σ : Sto} {r : Int64} {σ' : Sto} (h : f_Finder_firstOf a1 a2 σ = some (r, σ')) : Ct l E y_Finder_firstOf (wsM y_Finder_firstOf b_Finder_firstOf 4 (some .long)) 3 [.ref (E.2.1 26), .int a1, .int a2] σ (eL r) σ' :=
  ct_of hE (by decide +kernel) (Nat.le_of_ble_eq_true rfl) (fun x => Or.inr (Or.inr (Or.inl ⟨rfl, x, rfl⟩))) (fun X _ g => vB_Finder_firstOf_0 g a1 a2 σ) r σ' h
/-! method FittingRings$Finder.inEach(IIJ)J -/
theorem yv_Finder_inEach : YV y_Finder_inEach b_Finder_inEach 8 (some .long) 3 0 := ⟨m1 623 (by decide +kernel) (by decide +kernel), m1 624 (by decide +kernel) (by decide +kernel), ini_Finder, m1 625 (by decide +kernel) (by decide +kernel), ⟨by decide +kernel, by decide +kernel, by decide +kernel⟩, by decide, by decide, T_Finder, 10, rfl⟩
theorem d_Finder_inEach_0 : decode b_Finder_inEach 0 = .ok (.lload_n 3, 1) := by decide +kernel
theorem d_Finder_inEach_1 : decode b_Finder_inEach 1 = .ok (.lstore 5, 2) := by decide +kernel
theorem d_Finder_inEach_3 : decode b_Finder_inEach 3 = .ok (.iconst 0, 1) := by decide +kernel
theorem d_Finder_inEach_4 : decode b_Finder_inEach 4 = .ok (.istore 7, 2) := by decide +kernel
theorem d_Finder_inEach_6 : decode b_Finder_inEach 6 = .ok (.iload 7, 2) := by decide +kernel
theorem d_Finder_inEach_8 : decode b_Finder_inEach 8 = .ok (.aload_n 0, 1) := by decide +kernel
theorem d_Finder_inEach_9 : decode b_Finder_inEach 9 = .ok (.getfield 15, 3) := by decide +kernel
theorem d_Finder_inEach_12 : decode b_Finder_inEach 12 = .ok (.if_icmp .ge 40, 3) := by decide +kernel
theorem d_Finder_inEach_15 : decode b_Finder_inEach 15 = .ok (.aload_n 0, 1) := by decide +kernel
theorem d_Finder_inEach_16 : decode b_Finder_inEach 16 = .ok (.getfield 41, 3) := by decide +kernel
theorem d_Finder_inEach_19 : decode b_Finder_inEach 19 = .ok (.iload_n 1, 1) := by decide +kernel
theorem d_Finder_inEach_20 : decode b_Finder_inEach 20 = .ok (.aload_n 0, 1) := by decide +kernel
theorem d_Finder_inEach_21 : decode b_Finder_inEach 21 = .ok (.getfield 9, 3) := by decide +kernel
theorem d_Finder_inEach_24 : decode b_Finder_inEach 24 = .ok (.iload 7, 2) := by decide +kernel
theorem d_Finder_inEach_26 : decode b_Finder_inEach 26 = .ok (.laload, 1) := by decide +kernel
theorem d_Finder_inEach_27 : decode b_Finder_inEach 27 = .ok (.invokevirtual 72, 3) := by decide +kernel
theorem d_Finder_inEach_30 : decode b_Finder_inEach 30 = .ok (.iload_n 2, 1) := by decide +kernel
theorem d_Finder_inEach_31 : decode b_Finder_inEach 31 = .ok (.if_icmp .ne 15, 3) := by decide +kernel
theorem d_Finder_inEach_34 : decode b_Finder_inEach 34 = .ok (.lload 5, 2) := by decide +kernel
theorem d_Finder_inEach_36 : decode b_Finder_inEach 36 = .ok (.aload_n 0, 1) := by decide +kernel
theorem d_Finder_inEach_37 : decode b_Finder_inEach 37 = .ok (.getfield 9, 3) := by decide +kernel
theorem d_Finder_inEach_40 : decode b_Finder_inEach 40 = .ok (.iload 7, 2) := by decide +kernel
theorem d_Finder_inEach_42 : decode b_Finder_inEach 42 = .ok (.laload, 1) := by decide +kernel
theorem d_Finder_inEach_43 : decode b_Finder_inEach 43 = .ok (.land, 1) := by decide +kernel
theorem d_Finder_inEach_44 : decode b_Finder_inEach 44 = .ok (.lstore 5, 2) := by decide +kernel
theorem d_Finder_inEach_46 : decode b_Finder_inEach 46 = .ok (.iinc 7 1, 3) := by decide +kernel
theorem d_Finder_inEach_49 : decode b_Finder_inEach 49 = .ok (.goto (-43), 3) := by decide +kernel
theorem d_Finder_inEach_52 : decode b_Finder_inEach 52 = .ok (.lload 5, 2) := by decide +kernel
theorem d_Finder_inEach_54 : decode b_Finder_inEach 54 = .ok (.lreturn, 1) := by decide +kernel
def B_Finder_inEach_6 (k6 : Int32 → Int32 → Int64 → Int32 → Sto → Option (Int64 × Sto)) (v1 : Int32) (v2 : Int32) (v5 : Int64) (v7 : Int32) (σ : Sto) : Option (Int64 × Sto) :=
  (if (gI σ 26 1) ≤ v7 then some (v5, σ)
 else (if cls (gN σ) = 4 then (if inb v7 324 = true then ((f_Net_worth (gN σ) v1 (gL σ 27 (Int32.toNatClampNeg v7)) σ).bind fun q2 => (if q2.1 = v2 then (if inb v7 324 = true then (lt1 (v5 &&& (gL q2.2 27 (Int32.toNatClampNeg v7))) fun x3 => k6 v1 v2 x3 (v7 + (1 : Int32)) q2.2) else none)
  else k6 v1 v2 v5 (v7 + (1 : Int32)) q2.2)) else none) else none))
set_option maxHeartbeats 4000000 in
set_option maxRecDepth 100000 in
theorem vB_Finder_inEach_6 {X : Xt} {E : En} (g : GG X E 3 b_Finder_inEach R_Finder 8) {k6 : Int32 → Int32 → Int64 → Int32 → Sto → Option (Int64 × Sto)} (hk6 : ∀ (v1 : Int32) (v2 : Int32) (v5 : Int64) (v7 : Int32) (σ : Sto), VV X E b_Finder_inEach 8 eL 6 [(0, .ref (E.2.1 26)), (1, .int v1), (2, .int v2), (5, .long v5), (7, .int v7)] [] σ (k6 v1 v2 v5 v7 σ)) (v1 : Int32) (v2 : Int32) (v5 : Int64) (v7 : Int32) (σ : Sto) : VV X E b_Finder_inEach 8 eL 6 [(0, .ref (E.2.1 26)), (1, .int v1), (2, .int v2), (5, .long v5), (7, .int v7)] [] σ (B_Finder_inEach_6 k6 v1 v2 v5 v7 σ) := by
  unfold B_Finder_inEach_6
  refine v_iload 4 g d_Finder_inEach_6 rfl ?_
  refine v_aload_n 0 g d_Finder_inEach_8 rfl ?_
  refine v_getI g ff_Finder_15 rfl rfl d_Finder_inEach_9 ?_
  refine v_icmp_ge 52 g d_Finder_inEach_12 (by decide) (fun _ => ?_) (fun _ => ?_)
  · refine v_lload 3 g d_Finder_inEach_52 rfl ?_
    exact v_ret d_Finder_inEach_54 rfl
  · refine v_aload_n 0 g d_Finder_inEach_15 rfl ?_
    refine v_getN g ff_Finder_41 rfl rfl d_Finder_inEach_16 ?_
    refine v_grd _ (fun h1 => ?_)
    refine v_iload_n 1 g d_Finder_inEach_19 rfl ?_
    refine v_aload_n 0 g d_Finder_inEach_20 rfl ?_
    refine v_getR 27 g ff_Finder_9 rfl rfl rfl d_Finder_inEach_21 ?_
    refine v_iload 4 g d_Finder_inEach_24 rfl ?_
    refine v_lald g rfl rfl d_Finder_inEach_26 (fun _ => ?_)
    refine v_callI (r_V (rest := []) [.int v1, .long (gL σ 27 (Int32.toNatClampNeg v7))] g (m1 608 (by decide +kernel) (by decide +kernel)) yv_Net_worth h1 (fun r σ1 h => sp_Net_worth g.2.2.1 h1 h) rfl rfl (by decide) (Nat.le_of_ble_eq_true rfl) d_Finder_inEach_27) (fun q2 => ?_)
    refine v_iload_n 2 g d_Finder_inEach_30 rfl ?_
    refine v_icmp_ne 46 g d_Finder_inEach_31 (by decide) (fun _ => ?_) (fun _ => ?_)
    · refine v_iinc 4 [(7, .int (v7 + (1 : Int32))), (0, .ref (E.2.1 26)), (1, .int v1), (2, .int v2), (5, .long v5)] g d_Finder_inEach_46 rfl (v := (1 : Int32)) (by decide +kernel) (by decide) rfl ?_
      refine v_goto 6 g d_Finder_inEach_49 (by decide) ?_
      exact v_sub [1,2,3,4,0] rfl (hk6 v1 v2 v5 (v7 + (1 : Int32)) q2.2)
    · refine v_lload 3 g d_Finder_inEach_34 rfl ?_
      refine v_aload_n 0 g d_Finder_inEach_36 rfl ?_
      refine v_getR 27 g ff_Finder_9 rfl rfl rfl d_Finder_inEach_37 ?_
      refine v_iload 4 g d_Finder_inEach_40 rfl ?_
      refine v_lald g rfl rfl d_Finder_inEach_42 (fun _ => ?_)
      refine v_land g d_Finder_inEach_43 ?_
      refine v_nlet (fun x3 ex3 => ?_)
      rw [← ex3]
      refine v_lstore [(5, .long x3), (0, .ref (E.2.1 26)), (1, .int v1), (2, .int v2), (7, .int v7)] g d_Finder_inEach_44 (by decide) rfl ?_
      refine v_iinc 4 [(7, .int (v7 + (1 : Int32))), (5, .long x3), (0, .ref (E.2.1 26)), (1, .int v1), (2, .int v2)] g d_Finder_inEach_46 rfl (v := (1 : Int32)) (by decide +kernel) (by decide) rfl ?_
      refine v_goto 6 g d_Finder_inEach_49 (by decide) ?_
      exact v_sub [2,3,4,1,0] rfl (hk6 v1 v2 x3 (v7 + (1 : Int32)) q2.2)
def L_Finder_inEach_6 : Nat → Int32 → Int32 → Int64 → Int32 → Sto → Option (Int64 × Sto)
  | 0, _, _, _, _, _ => none
  | fu + 1, v1, v2, v5, v7, σ => B_Finder_inEach_6 (L_Finder_inEach_6 fu) v1 v2 v5 v7 σ
theorem vL_Finder_inEach_6 {X : Xt} {E : En} (g : GG X E 3 b_Finder_inEach R_Finder 8) (fu : Nat) : ∀ (v1 : Int32) (v2 : Int32) (v5 : Int64) (v7 : Int32) (σ : Sto), VV X E b_Finder_inEach 8 eL 6 [(0, .ref (E.2.1 26)), (1, .int v1), (2, .int v2), (5, .long v5), (7, .int v7)] [] σ (L_Finder_inEach_6 fu v1 v2 v5 v7 σ) := by
  induction fu with
  | zero => intros; exact v_none
  | succ fu ih =>
    intro v1 v2 v5 v7 σ
    exact vB_Finder_inEach_6 g ih v1 v2 v5 v7 σ
def B_Finder_inEach_0 (a1 : Int32) (a2 : Int32) (a3 : Int64) (σ : Sto) : Option (Int64 × Sto) :=
  L_Finder_inEach_6 LF a1 a2 a3 (0 : Int32) σ
set_option maxHeartbeats 4000000 in
set_option maxRecDepth 100000 in
theorem vB_Finder_inEach_0 {X : Xt} {E : En} (g : GG X E 3 b_Finder_inEach R_Finder 8) (a1 : Int32) (a2 : Int32) (a3 : Int64) (σ : Sto) : VV X E b_Finder_inEach 8 eL 0 [(0, .ref (E.2.1 26)), (1, .int a1), (2, .int a2), (3, .long a3)] [] σ (B_Finder_inEach_0 a1 a2 a3 σ) := by
  unfold B_Finder_inEach_0
  refine v_lload_n 3 g d_Finder_inEach_0 rfl ?_
  refine v_lstore [(5, .long a3), (0, .ref (E.2.1 26)), (1, .int a1), (2, .int a2), (3, .long a3)] g d_Finder_inEach_1 (by decide) rfl ?_
  refine v_iconst (v := (0 : Int32)) g d_Finder_inEach_3 (by decide +kernel) ?_
  refine v_istore [(7, .int (0 : Int32)), (5, .long a3), (0, .ref (E.2.1 26)), (1, .int a1), (2, .int a2), (3, .long a3)] g d_Finder_inEach_4 (by decide) rfl ?_
  exact v_sub [2,3,4,1,0] rfl (vL_Finder_inEach_6 g LF a1 a2 a3 (0 : Int32) σ)
def f_Finder_inEach (a1 : Int32) (a2 : Int32) (a3 : Int64) (σ : Sto) : Option (Int64 × Sto) := B_Finder_inEach_0 a1 a2 a3 σ
theorem sp_Finder_inEach {l : Launch} {E : En} (hE : Dj E) {a1 : Int32} {a2 : Int32} {a3 : Int64} {σ : Sto} {r : Int64} {σ' : Sto} (h : f_Finder_inEach a1 a2 a3 σ = some (r, σ')) : Ct l E y_Finder_inEach (wsM y_Finder_inEach b_Finder_inEach 8 (some .long)) 3 [.ref (E.2.1 26), .int a1, .int a2, .long a3] σ (eL r) σ' :=
  ct_of hE (by decide +kernel) (Nat.le_of_ble_eq_true rfl) (fun x => Or.inr (Or.inr (Or.inl ⟨rfl, x, rfl⟩))) (fun X _ g => vB_Finder_inEach_0 g a1 a2 a3 σ) r σ' h
/-! method FittingRings$Finder.inAny(II)J -/
theorem yv_Finder_inAny : YV y_Finder_inAny b_Finder_inAny 6 (some .long) 2 0 := ⟨m1 627 (by decide +kernel) (by decide +kernel), m1 628 (by decide +kernel) (by decide +kernel), ini_Finder, m1 629 (by decide +kernel) (by decide +kernel), ⟨by decide +kernel, by decide +kernel, by decide +kernel⟩, by decide, by decide, T_Finder, 10, rfl⟩
theorem d_Finder_inAny_0 : decode b_Finder_inAny 0 = .ok (.lconst 0, 1) := by decide +kernel
theorem d_Finder_inAny_1 : decode b_Finder_inAny 1 = .ok (.lstore_n 3, 1) := by decide +kernel
theorem d_Finder_inAny_2 : decode b_Finder_inAny 2 = .ok (.iconst 0, 1) := by decide +kernel
theorem d_Finder_inAny_3 : decode b_Finder_inAny 3 = .ok (.istore 5, 2) := by decide +kernel
theorem d_Finder_inAny_5 : decode b_Finder_inAny 5 = .ok (.iload 5, 2) := by decide +kernel
theorem d_Finder_inAny_7 : decode b_Finder_inAny 7 = .ok (.aload_n 0, 1) := by decide +kernel
theorem d_Finder_inAny_8 : decode b_Finder_inAny 8 = .ok (.getfield 15, 3) := by decide +kernel
theorem d_Finder_inAny_11 : decode b_Finder_inAny 11 = .ok (.if_icmp .ge 38, 3) := by decide +kernel
theorem d_Finder_inAny_14 : decode b_Finder_inAny 14 = .ok (.aload_n 0, 1) := by decide +kernel
theorem d_Finder_inAny_15 : decode b_Finder_inAny 15 = .ok (.getfield 41, 3) := by decide +kernel
theorem d_Finder_inAny_18 : decode b_Finder_inAny 18 = .ok (.iload_n 1, 1) := by decide +kernel
theorem d_Finder_inAny_19 : decode b_Finder_inAny 19 = .ok (.aload_n 0, 1) := by decide +kernel
theorem d_Finder_inAny_20 : decode b_Finder_inAny 20 = .ok (.getfield 9, 3) := by decide +kernel
theorem d_Finder_inAny_23 : decode b_Finder_inAny 23 = .ok (.iload 5, 2) := by decide +kernel
theorem d_Finder_inAny_25 : decode b_Finder_inAny 25 = .ok (.laload, 1) := by decide +kernel
theorem d_Finder_inAny_26 : decode b_Finder_inAny 26 = .ok (.invokevirtual 72, 3) := by decide +kernel
theorem d_Finder_inAny_29 : decode b_Finder_inAny 29 = .ok (.iload_n 2, 1) := by decide +kernel
theorem d_Finder_inAny_30 : decode b_Finder_inAny 30 = .ok (.if_icmp .ne 13, 3) := by decide +kernel
theorem d_Finder_inAny_33 : decode b_Finder_inAny 33 = .ok (.lload_n 3, 1) := by decide +kernel
theorem d_Finder_inAny_34 : decode b_Finder_inAny 34 = .ok (.aload_n 0, 1) := by decide +kernel
theorem d_Finder_inAny_35 : decode b_Finder_inAny 35 = .ok (.getfield 9, 3) := by decide +kernel
theorem d_Finder_inAny_38 : decode b_Finder_inAny 38 = .ok (.iload 5, 2) := by decide +kernel
theorem d_Finder_inAny_40 : decode b_Finder_inAny 40 = .ok (.laload, 1) := by decide +kernel
theorem d_Finder_inAny_41 : decode b_Finder_inAny 41 = .ok (.lor, 1) := by decide +kernel
theorem d_Finder_inAny_42 : decode b_Finder_inAny 42 = .ok (.lstore_n 3, 1) := by decide +kernel
theorem d_Finder_inAny_43 : decode b_Finder_inAny 43 = .ok (.iinc 5 1, 3) := by decide +kernel
theorem d_Finder_inAny_46 : decode b_Finder_inAny 46 = .ok (.goto (-41), 3) := by decide +kernel
theorem d_Finder_inAny_49 : decode b_Finder_inAny 49 = .ok (.lload_n 3, 1) := by decide +kernel
theorem d_Finder_inAny_50 : decode b_Finder_inAny 50 = .ok (.lreturn, 1) := by decide +kernel
def B_Finder_inAny_5 (k5 : Int32 → Int32 → Int64 → Int32 → Sto → Option (Int64 × Sto)) (v1 : Int32) (v2 : Int32) (v3 : Int64) (v5 : Int32) (σ : Sto) : Option (Int64 × Sto) :=
  (if (gI σ 26 1) ≤ v5 then some (v3, σ)
 else (if cls (gN σ) = 4 then (if inb v5 324 = true then ((f_Net_worth (gN σ) v1 (gL σ 27 (Int32.toNatClampNeg v5)) σ).bind fun q2 => (if q2.1 = v2 then (if inb v5 324 = true then (lt1 (v3 ||| (gL q2.2 27 (Int32.toNatClampNeg v5))) fun x3 => k5 v1 v2 x3 (v5 + (1 : Int32)) q2.2) else none)
  else k5 v1 v2 v3 (v5 + (1 : Int32)) q2.2)) else none) else none))
set_option maxHeartbeats 4000000 in
set_option maxRecDepth 100000 in
theorem vB_Finder_inAny_5 {X : Xt} {E : En} (g : GG X E 3 b_Finder_inAny R_Finder 6) {k5 : Int32 → Int32 → Int64 → Int32 → Sto → Option (Int64 × Sto)} (hk5 : ∀ (v1 : Int32) (v2 : Int32) (v3 : Int64) (v5 : Int32) (σ : Sto), VV X E b_Finder_inAny 6 eL 5 [(0, .ref (E.2.1 26)), (1, .int v1), (2, .int v2), (3, .long v3), (5, .int v5)] [] σ (k5 v1 v2 v3 v5 σ)) (v1 : Int32) (v2 : Int32) (v3 : Int64) (v5 : Int32) (σ : Sto) : VV X E b_Finder_inAny 6 eL 5 [(0, .ref (E.2.1 26)), (1, .int v1), (2, .int v2), (3, .long v3), (5, .int v5)] [] σ (B_Finder_inAny_5 k5 v1 v2 v3 v5 σ) := by
  unfold B_Finder_inAny_5
  refine v_iload 4 g d_Finder_inAny_5 rfl ?_
  refine v_aload_n 0 g d_Finder_inAny_7 rfl ?_
  refine v_getI g ff_Finder_15 rfl rfl d_Finder_inAny_8 ?_
  refine v_icmp_ge 49 g d_Finder_inAny_11 (by decide) (fun _ => ?_) (fun _ => ?_)
  · refine v_lload_n 3 g d_Finder_inAny_49 rfl ?_
    exact v_ret d_Finder_inAny_50 rfl
  · refine v_aload_n 0 g d_Finder_inAny_14 rfl ?_
    refine v_getN g ff_Finder_41 rfl rfl d_Finder_inAny_15 ?_
    refine v_grd _ (fun h1 => ?_)
    refine v_iload_n 1 g d_Finder_inAny_18 rfl ?_
    refine v_aload_n 0 g d_Finder_inAny_19 rfl ?_
    refine v_getR 27 g ff_Finder_9 rfl rfl rfl d_Finder_inAny_20 ?_
    refine v_iload 4 g d_Finder_inAny_23 rfl ?_
    refine v_lald g rfl rfl d_Finder_inAny_25 (fun _ => ?_)
    refine v_callI (r_V (rest := []) [.int v1, .long (gL σ 27 (Int32.toNatClampNeg v5))] g (m1 608 (by decide +kernel) (by decide +kernel)) yv_Net_worth h1 (fun r σ1 h => sp_Net_worth g.2.2.1 h1 h) rfl rfl (by decide) (Nat.le_of_ble_eq_true rfl) d_Finder_inAny_26) (fun q2 => ?_)
    refine v_iload_n 2 g d_Finder_inAny_29 rfl ?_
    refine v_icmp_ne 43 g d_Finder_inAny_30 (by decide) (fun _ => ?_) (fun _ => ?_)
    · refine v_iinc 4 [(5, .int (v5 + (1 : Int32))), (0, .ref (E.2.1 26)), (1, .int v1), (2, .int v2), (3, .long v3)] g d_Finder_inAny_43 rfl (v := (1 : Int32)) (by decide +kernel) (by decide) rfl ?_
      refine v_goto 5 g d_Finder_inAny_46 (by decide) ?_
      exact v_sub [1,2,3,4,0] rfl (hk5 v1 v2 v3 (v5 + (1 : Int32)) q2.2)
    · refine v_lload_n 3 g d_Finder_inAny_33 rfl ?_
      refine v_aload_n 0 g d_Finder_inAny_34 rfl ?_
      refine v_getR 27 g ff_Finder_9 rfl rfl rfl d_Finder_inAny_35 ?_
      refine v_iload 4 g d_Finder_inAny_38 rfl ?_
      refine v_lald g rfl rfl d_Finder_inAny_40 (fun _ => ?_)
      refine v_lor g d_Finder_inAny_41 ?_
      refine v_nlet (fun x3 ex3 => ?_)
      rw [← ex3]
      refine v_lstore_n [(3, .long x3), (0, .ref (E.2.1 26)), (1, .int v1), (2, .int v2), (5, .int v5)] g d_Finder_inAny_42 (by decide) rfl ?_
      refine v_iinc 4 [(5, .int (v5 + (1 : Int32))), (3, .long x3), (0, .ref (E.2.1 26)), (1, .int v1), (2, .int v2)] g d_Finder_inAny_43 rfl (v := (1 : Int32)) (by decide +kernel) (by decide) rfl ?_
      refine v_goto 5 g d_Finder_inAny_46 (by decide) ?_
      exact v_sub [2,3,4,1,0] rfl (hk5 v1 v2 x3 (v5 + (1 : Int32)) q2.2)
def L_Finder_inAny_5 : Nat → Int32 → Int32 → Int64 → Int32 → Sto → Option (Int64 × Sto)
  | 0, _, _, _, _, _ => none
  | fu + 1, v1, v2, v3, v5, σ => B_Finder_inAny_5 (L_Finder_inAny_5 fu) v1 v2 v3 v5 σ
theorem vL_Finder_inAny_5 {X : Xt} {E : En} (g : GG X E 3 b_Finder_inAny R_Finder 6) (fu : Nat) : ∀ (v1 : Int32) (v2 : Int32) (v3 : Int64) (v5 : Int32) (σ : Sto), VV X E b_Finder_inAny 6 eL 5 [(0, .ref (E.2.1 26)), (1, .int v1), (2, .int v2), (3, .long v3), (5, .int v5)] [] σ (L_Finder_inAny_5 fu v1 v2 v3 v5 σ) := by
  induction fu with
  | zero => intros; exact v_none
  | succ fu ih =>
    intro v1 v2 v3 v5 σ
    exact vB_Finder_inAny_5 g ih v1 v2 v3 v5 σ
def B_Finder_inAny_0 (a1 : Int32) (a2 : Int32) (σ : Sto) : Option (Int64 × Sto) :=
  L_Finder_inAny_5 LF a1 a2 (0 : Int64) (0 : Int32) σ
set_option maxHeartbeats 4000000 in
set_option maxRecDepth 100000 in
theorem vB_Finder_inAny_0 {X : Xt} {E : En} (g : GG X E 3 b_Finder_inAny R_Finder 6) (a1 : Int32) (a2 : Int32) (σ : Sto) : VV X E b_Finder_inAny 6 eL 0 [(0, .ref (E.2.1 26)), (1, .int a1), (2, .int a2)] [] σ (B_Finder_inAny_0 a1 a2 σ) := by
  unfold B_Finder_inAny_0
  refine v_lconst (v := (0 : Int64)) g d_Finder_inAny_0 (by decide +kernel) ?_
  refine v_lstore_n [(3, .long (0 : Int64)), (0, .ref (E.2.1 26)), (1, .int a1), (2, .int a2)] g d_Finder_inAny_1 (by decide) rfl ?_
  refine v_iconst (v := (0 : Int32)) g d_Finder_inAny_2 (by decide +kernel) ?_
  refine v_istore [(5, .int (0 : Int32)), (3, .long (0 : Int64)), (0, .ref (E.2.1 26)), (1, .int a1), (2, .int a2)] g d_Finder_inAny_3 (by decide) rfl ?_
  exact v_sub [2,3,4,1,0] rfl (vL_Finder_inAny_5 g LF a1 a2 (0 : Int64) (0 : Int32) σ)
def f_Finder_inAny (a1 : Int32) (a2 : Int32) (σ : Sto) : Option (Int64 × Sto) := B_Finder_inAny_0 a1 a2 σ
theorem sp_Finder_inAny {l : Launch} {E : En} (hE : Dj E) {a1 : Int32} {a2 : Int32} {σ : Sto} {r : Int64} {σ' : Sto} (h : f_Finder_inAny a1 a2 σ = some (r, σ')) : Ct l E y_Finder_inAny (wsM y_Finder_inAny b_Finder_inAny 6 (some .long)) 3 [.ref (E.2.1 26), .int a1, .int a2] σ (eL r) σ' :=
  ct_of hE (by decide +kernel) (Nat.le_of_ble_eq_true rfl) (fun x => Or.inr (Or.inr (Or.inl ⟨rfl, x, rfl⟩))) (fun X _ g => vB_Finder_inAny_0 g a1 a2 σ) r σ' h
/-! method FittingRings$Finder.howMany(II)I -/
theorem yv_Finder_howMany : YV y_Finder_howMany b_Finder_howMany 5 (some .int) 2 0 := ⟨m1 631 (by decide +kernel) (by decide +kernel), m1 632 (by decide +kernel) (by decide +kernel), ini_Finder, m1 633 (by decide +kernel) (by decide +kernel), ⟨by decide +kernel, by decide +kernel, by decide +kernel⟩, by decide, by decide, T_Finder, 10, rfl⟩
theorem d_Finder_howMany_0 : decode b_Finder_howMany 0 = .ok (.iconst 0, 1) := by decide +kernel
theorem d_Finder_howMany_1 : decode b_Finder_howMany 1 = .ok (.istore_n 3, 1) := by decide +kernel
theorem d_Finder_howMany_2 : decode b_Finder_howMany 2 = .ok (.iconst 0, 1) := by decide +kernel
theorem d_Finder_howMany_3 : decode b_Finder_howMany 3 = .ok (.istore 4, 2) := by decide +kernel
theorem d_Finder_howMany_5 : decode b_Finder_howMany 5 = .ok (.iload 4, 2) := by decide +kernel
theorem d_Finder_howMany_7 : decode b_Finder_howMany 7 = .ok (.aload_n 0, 1) := by decide +kernel
theorem d_Finder_howMany_8 : decode b_Finder_howMany 8 = .ok (.getfield 15, 3) := by decide +kernel
theorem d_Finder_howMany_11 : decode b_Finder_howMany 11 = .ok (.if_icmp .ge 31, 3) := by decide +kernel
theorem d_Finder_howMany_14 : decode b_Finder_howMany 14 = .ok (.aload_n 0, 1) := by decide +kernel
theorem d_Finder_howMany_15 : decode b_Finder_howMany 15 = .ok (.getfield 41, 3) := by decide +kernel
theorem d_Finder_howMany_18 : decode b_Finder_howMany 18 = .ok (.iload_n 1, 1) := by decide +kernel
theorem d_Finder_howMany_19 : decode b_Finder_howMany 19 = .ok (.aload_n 0, 1) := by decide +kernel
theorem d_Finder_howMany_20 : decode b_Finder_howMany 20 = .ok (.getfield 9, 3) := by decide +kernel
theorem d_Finder_howMany_23 : decode b_Finder_howMany 23 = .ok (.iload 4, 2) := by decide +kernel
theorem d_Finder_howMany_25 : decode b_Finder_howMany 25 = .ok (.laload, 1) := by decide +kernel
theorem d_Finder_howMany_26 : decode b_Finder_howMany 26 = .ok (.invokevirtual 72, 3) := by decide +kernel
theorem d_Finder_howMany_29 : decode b_Finder_howMany 29 = .ok (.iload_n 2, 1) := by decide +kernel
theorem d_Finder_howMany_30 : decode b_Finder_howMany 30 = .ok (.if_icmp .ne 6, 3) := by decide +kernel
theorem d_Finder_howMany_33 : decode b_Finder_howMany 33 = .ok (.iinc 3 1, 3) := by decide +kernel
theorem d_Finder_howMany_36 : decode b_Finder_howMany 36 = .ok (.iinc 4 1, 3) := by decide +kernel
theorem d_Finder_howMany_39 : decode b_Finder_howMany 39 = .ok (.goto (-34), 3) := by decide +kernel
theorem d_Finder_howMany_42 : decode b_Finder_howMany 42 = .ok (.iload_n 3, 1) := by decide +kernel
theorem d_Finder_howMany_43 : decode b_Finder_howMany 43 = .ok (.ireturn, 1) := by decide +kernel
def B_Finder_howMany_5 (k5 : Int32 → Int32 → Int32 → Int32 → Sto → Option (Int32 × Sto)) (v1 : Int32) (v2 : Int32) (v3 : Int32) (v4 : Int32) (σ : Sto) : Option (Int32 × Sto) :=
  (if (gI σ 26 1) ≤ v4 then some (v3, σ)
 else (if cls (gN σ) = 4 then (if inb v4 324 = true then ((f_Net_worth (gN σ) v1 (gL σ 27 (Int32.toNatClampNeg v4)) σ).bind fun q2 => (if q2.1 = v2 then k5 v1 v2 (v3 + (1 : Int32)) (v4 + (1 : Int32)) q2.2
  else k5 v1 v2 v3 (v4 + (1 : Int32)) q2.2)) else none) else none))
set_option maxHeartbeats 4000000 in
set_option maxRecDepth 100000 in
theorem vB_Finder_howMany_5 {X : Xt} {E : En} (g : GG X E 3 b_Finder_howMany R_Finder 5) {k5 : Int32 → Int32 → Int32 → Int32 → Sto → Option (Int32 × Sto)} (hk5 : ∀ (v1 : Int32) (v2 : Int32) (v3 : Int32) (v4 : Int32) (σ : Sto), VV X E b_Finder_howMany 5 eI 5 [(0, .ref (E.2.1 26)), (1, .int v1), (2, .int v2), (3, .int v3), (4, .int v4)] [] σ (k5 v1 v2 v3 v4 σ)) (v1 : Int32) (v2 : Int32) (v3 : Int32) (v4 : Int32) (σ : Sto) : VV X E b_Finder_howMany 5 eI 5 [(0, .ref (E.2.1 26)), (1, .int v1), (2, .int v2), (3, .int v3), (4, .int v4)] [] σ (B_Finder_howMany_5 k5 v1 v2 v3 v4 σ) := by
  unfold B_Finder_howMany_5
  refine v_iload 4 g d_Finder_howMany_5 rfl ?_
  refine v_aload_n 0 g d_Finder_howMany_7 rfl ?_
  refine v_getI g ff_Finder_15 rfl rfl d_Finder_howMany_8 ?_
  refine v_icmp_ge 42 g d_Finder_howMany_11 (by decide) (fun _ => ?_) (fun _ => ?_)
  · refine v_iload_n 3 g d_Finder_howMany_42 rfl ?_
    exact v_ret d_Finder_howMany_43 rfl
  · refine v_aload_n 0 g d_Finder_howMany_14 rfl ?_
    refine v_getN g ff_Finder_41 rfl rfl d_Finder_howMany_15 ?_
    refine v_grd _ (fun h1 => ?_)
    refine v_iload_n 1 g d_Finder_howMany_18 rfl ?_
    refine v_aload_n 0 g d_Finder_howMany_19 rfl ?_
    refine v_getR 27 g ff_Finder_9 rfl rfl rfl d_Finder_howMany_20 ?_
    refine v_iload 4 g d_Finder_howMany_23 rfl ?_
    refine v_lald g rfl rfl d_Finder_howMany_25 (fun _ => ?_)
    refine v_callI (r_V (rest := []) [.int v1, .long (gL σ 27 (Int32.toNatClampNeg v4))] g (m1 608 (by decide +kernel) (by decide +kernel)) yv_Net_worth h1 (fun r σ1 h => sp_Net_worth g.2.2.1 h1 h) rfl rfl (by decide) (Nat.le_of_ble_eq_true rfl) d_Finder_howMany_26) (fun q2 => ?_)
    refine v_iload_n 2 g d_Finder_howMany_29 rfl ?_
    refine v_icmp_ne 36 g d_Finder_howMany_30 (by decide) (fun _ => ?_) (fun _ => ?_)
    · refine v_iinc 4 [(4, .int (v4 + (1 : Int32))), (0, .ref (E.2.1 26)), (1, .int v1), (2, .int v2), (3, .int v3)] g d_Finder_howMany_36 rfl (v := (1 : Int32)) (by decide +kernel) (by decide) rfl ?_
      refine v_goto 5 g d_Finder_howMany_39 (by decide) ?_
      exact v_sub [1,2,3,4,0] rfl (hk5 v1 v2 v3 (v4 + (1 : Int32)) q2.2)
    · refine v_iinc 3 [(3, .int (v3 + (1 : Int32))), (0, .ref (E.2.1 26)), (1, .int v1), (2, .int v2), (4, .int v4)] g d_Finder_howMany_33 rfl (v := (1 : Int32)) (by decide +kernel) (by decide) rfl ?_
      refine v_iinc 4 [(4, .int (v4 + (1 : Int32))), (3, .int (v3 + (1 : Int32))), (0, .ref (E.2.1 26)), (1, .int v1), (2, .int v2)] g d_Finder_howMany_36 rfl (v := (1 : Int32)) (by decide +kernel) (by decide) rfl ?_
      refine v_goto 5 g d_Finder_howMany_39 (by decide) ?_
      exact v_sub [2,3,4,1,0] rfl (hk5 v1 v2 (v3 + (1 : Int32)) (v4 + (1 : Int32)) q2.2)
def L_Finder_howMany_5 : Nat → Int32 → Int32 → Int32 → Int32 → Sto → Option (Int32 × Sto)
  | 0, _, _, _, _, _ => none
  | fu + 1, v1, v2, v3, v4, σ => B_Finder_howMany_5 (L_Finder_howMany_5 fu) v1 v2 v3 v4 σ
theorem vL_Finder_howMany_5 {X : Xt} {E : En} (g : GG X E 3 b_Finder_howMany R_Finder 5) (fu : Nat) : ∀ (v1 : Int32) (v2 : Int32) (v3 : Int32) (v4 : Int32) (σ : Sto), VV X E b_Finder_howMany 5 eI 5 [(0, .ref (E.2.1 26)), (1, .int v1), (2, .int v2), (3, .int v3), (4, .int v4)] [] σ (L_Finder_howMany_5 fu v1 v2 v3 v4 σ) := by
  induction fu with
  | zero => intros; exact v_none
  | succ fu ih =>
    intro v1 v2 v3 v4 σ
    exact vB_Finder_howMany_5 g ih v1 v2 v3 v4 σ
def B_Finder_howMany_0 (a1 : Int32) (a2 : Int32) (σ : Sto) : Option (Int32 × Sto) :=
  L_Finder_howMany_5 LF a1 a2 (0 : Int32) (0 : Int32) σ
set_option maxHeartbeats 4000000 in
set_option maxRecDepth 100000 in
theorem vB_Finder_howMany_0 {X : Xt} {E : En} (g : GG X E 3 b_Finder_howMany R_Finder 5) (a1 : Int32) (a2 : Int32) (σ : Sto) : VV X E b_Finder_howMany 5 eI 0 [(0, .ref (E.2.1 26)), (1, .int a1), (2, .int a2)] [] σ (B_Finder_howMany_0 a1 a2 σ) := by
  unfold B_Finder_howMany_0
  refine v_iconst (v := (0 : Int32)) g d_Finder_howMany_0 (by decide +kernel) ?_
  refine v_istore_n [(3, .int (0 : Int32)), (0, .ref (E.2.1 26)), (1, .int a1), (2, .int a2)] g d_Finder_howMany_1 (by decide) rfl ?_
  refine v_iconst (v := (0 : Int32)) g d_Finder_howMany_2 (by decide +kernel) ?_
  refine v_istore [(4, .int (0 : Int32)), (3, .int (0 : Int32)), (0, .ref (E.2.1 26)), (1, .int a1), (2, .int a2)] g d_Finder_howMany_3 (by decide) rfl ?_
  exact v_sub [2,3,4,1,0] rfl (vL_Finder_howMany_5 g LF a1 a2 (0 : Int32) (0 : Int32) σ)
def f_Finder_howMany (a1 : Int32) (a2 : Int32) (σ : Sto) : Option (Int32 × Sto) := B_Finder_howMany_0 a1 a2 σ
theorem sp_Finder_howMany {l : Launch} {E : En} (hE : Dj E) {a1 : Int32} {a2 : Int32} {σ : Sto} {r : Int32} {σ' : Sto} (h : f_Finder_howMany a1 a2 σ = some (r, σ')) : Ct l E y_Finder_howMany (wsM y_Finder_howMany b_Finder_howMany 5 (some .int)) 3 [.ref (E.2.1 26), .int a1, .int a2] σ (eI r) σ' :=
  ct_of hE (by decide +kernel) (Nat.le_of_ble_eq_true rfl) (fun x => Or.inl ⟨rfl, x, rfl⟩) (fun X _ g => vB_Finder_howMany_0 g a1 a2 σ) r σ' h
/-! method FittingRings$Finder.prepare(LFittingRings$Net;II)V -/
theorem yv_Finder_prepare : YV y_Finder_prepare b_Finder_prepare 5 (none) 3 0 := ⟨m1 644 (by decide +kernel) (by decide +kernel), m1 7 (by decide +kernel) (by decide +kernel), ini_Finder, m1 645 (by decide +kernel) (by decide +kernel), ⟨by decide +kernel, by decide +kernel, by decide +kernel⟩, by decide, by decide, T_Finder, 10, rfl⟩
theorem d_Finder_prepare_0 : decode b_Finder_prepare 0 = .ok (.aload_n 0, 1) := by decide +kernel
theorem d_Finder_prepare_1 : decode b_Finder_prepare 1 = .ok (.aload_n 1, 1) := by decide +kernel
theorem d_Finder_prepare_2 : decode b_Finder_prepare 2 = .ok (.putfield 41, 3) := by decide +kernel
theorem d_Finder_prepare_5 : decode b_Finder_prepare 5 = .ok (.aload_n 0, 1) := by decide +kernel
theorem d_Finder_prepare_6 : decode b_Finder_prepare 6 = .ok (.iload_n 2, 1) := by decide +kernel
theorem d_Finder_prepare_7 : decode b_Finder_prepare 7 = .ok (.putfield 19, 3) := by decide +kernel
theorem d_Finder_prepare_10 : decode b_Finder_prepare 10 = .ok (.iconst 0, 1) := by decide +kernel
theorem d_Finder_prepare_11 : decode b_Finder_prepare 11 = .ok (.istore 4, 2) := by decide +kernel
theorem d_Finder_prepare_13 : decode b_Finder_prepare 13 = .ok (.iload 4, 2) := by decide +kernel
theorem d_Finder_prepare_15 : decode b_Finder_prepare 15 = .ok (.aload_n 0, 1) := by decide +kernel
theorem d_Finder_prepare_16 : decode b_Finder_prepare 16 = .ok (.getfield 41, 3) := by decide +kernel
theorem d_Finder_prepare_19 : decode b_Finder_prepare 19 = .ok (.getfield 45, 3) := by decide +kernel
theorem d_Finder_prepare_22 : decode b_Finder_prepare 22 = .ok (.if_icmp .ge 26, 3) := by decide +kernel
theorem d_Finder_prepare_25 : decode b_Finder_prepare 25 = .ok (.aload_n 0, 1) := by decide +kernel
theorem d_Finder_prepare_26 : decode b_Finder_prepare 26 = .ok (.getfield 22, 3) := by decide +kernel
theorem d_Finder_prepare_29 : decode b_Finder_prepare 29 = .ok (.iload 4, 2) := by decide +kernel
theorem d_Finder_prepare_31 : decode b_Finder_prepare 31 = .ok (.aload_n 0, 1) := by decide +kernel
theorem d_Finder_prepare_32 : decode b_Finder_prepare 32 = .ok (.getfield 41, 3) := by decide +kernel
theorem d_Finder_prepare_35 : decode b_Finder_prepare 35 = .ok (.iload_n 3, 1) := by decide +kernel
theorem d_Finder_prepare_36 : decode b_Finder_prepare 36 = .ok (.iload 4, 2) := by decide +kernel
theorem d_Finder_prepare_38 : decode b_Finder_prepare 38 = .ok (.invokevirtual 91, 3) := by decide +kernel
theorem d_Finder_prepare_41 : decode b_Finder_prepare 41 = .ok (.iastore, 1) := by decide +kernel
theorem d_Finder_prepare_42 : decode b_Finder_prepare 42 = .ok (.iinc 4 1, 3) := by decide +kernel
theorem d_Finder_prepare_45 : decode b_Finder_prepare 45 = .ok (.goto (-32), 3) := by decide +kernel
theorem d_Finder_prepare_48 : decode b_Finder_prepare 48 = .ok (.return_, 1) := by decide +kernel
def B_Finder_prepare_13 (k13 : Int32 → Int32 → Sto → Option (Unit × Sto)) (v3 : Int32) (v4 : Int32) (σ : Sto) : Option (Unit × Sto) :=
  (if cls (gN σ) = 4 then (if (gI σ (gN σ) 0) ≤ v4 then some ((), σ)
 else (if cls (gN σ) = 4 then ((f_Net_worthOf (gN σ) v3 v4 σ).bind fun q3 => (if inb v4 40 = true then k13 v3 (v4 + (1 : Int32)) (sI q3.2 28 (Int32.toNatClampNeg v4) q3.1) else none)) else none)) else none)
set_option maxHeartbeats 4000000 in
set_option maxRecDepth 100000 in
theorem vB_Finder_prepare_13 {X : Xt} {E : En} (g : GG X E 3 b_Finder_prepare R_Finder 5) {k13 : Int32 → Int32 → Sto → Option (Unit × Sto)} (hk13 : ∀ (v3 : Int32) (v4 : Int32) (σ : Sto), VV X E b_Finder_prepare 5 eU 13 [(0, .ref (E.2.1 26)), (3, .int v3), (4, .int v4)] [] σ (k13 v3 v4 σ)) (v3 : Int32) (v4 : Int32) (σ : Sto) : VV X E b_Finder_prepare 5 eU 13 [(0, .ref (E.2.1 26)), (3, .int v3), (4, .int v4)] [] σ (B_Finder_prepare_13 k13 v3 v4 σ) := by
  unfold B_Finder_prepare_13
  refine v_iload 2 g d_Finder_prepare_13 rfl ?_
  refine v_aload_n 0 g d_Finder_prepare_15 rfl ?_
  refine v_getN g ff_Finder_41 rfl rfl d_Finder_prepare_16 ?_
  refine v_grd _ (fun h1 => ?_)
  refine v_getI g ff_Finder_45 h1 rfl d_Finder_prepare_19 ?_
  refine v_icmp_ge 48 g d_Finder_prepare_22 (by decide) (fun _ => ?_) (fun _ => ?_)
  · exact v_ret d_Finder_prepare_48 rfl
  · refine v_aload_n 0 g d_Finder_prepare_25 rfl ?_
    refine v_getR 28 g ff_Finder_22 rfl rfl rfl d_Finder_prepare_26 ?_
    refine v_iload 2 g d_Finder_prepare_29 rfl ?_
    refine v_aload_n 0 g d_Finder_prepare_31 rfl ?_
    refine v_getN g ff_Finder_41 rfl rfl d_Finder_prepare_32 ?_
    refine v_grd _ (fun h2 => ?_)
    refine v_iload_n 1 g d_Finder_prepare_35 rfl ?_
    refine v_iload 2 g d_Finder_prepare_36 rfl ?_
    refine v_callI (r_V (rest := [.int v4, .ref (E.2.1 28)]) [.int v3, .int v4] g (m1 646 (by decide +kernel) (by decide +kernel)) yv_Net_worthOf h2 (fun r σ1 h => sp_Net_worthOf g.2.2.1 h2 h) rfl rfl (by decide) (Nat.le_of_ble_eq_true rfl) d_Finder_prepare_38) (fun q3 => ?_)
    refine v_iast g rfl rfl d_Finder_prepare_41 (fun _ => ?_)
    refine v_iinc 2 [(4, .int (v4 + (1 : Int32))), (0, .ref (E.2.1 26)), (3, .int v3)] g d_Finder_prepare_42 rfl (v := (1 : Int32)) (by decide +kernel) (by decide) rfl ?_
    refine v_goto 13 g d_Finder_prepare_45 (by decide) ?_
    exact v_sub [1,2,0] rfl (hk13 v3 (v4 + (1 : Int32)) (sI q3.2 28 (Int32.toNatClampNeg v4) q3.1))
def L_Finder_prepare_13 : Nat → Int32 → Int32 → Sto → Option (Unit × Sto)
  | 0, _, _, _ => none
  | fu + 1, v3, v4, σ => B_Finder_prepare_13 (L_Finder_prepare_13 fu) v3 v4 σ
theorem vL_Finder_prepare_13 {X : Xt} {E : En} (g : GG X E 3 b_Finder_prepare R_Finder 5) (fu : Nat) : ∀ (v3 : Int32) (v4 : Int32) (σ : Sto), VV X E b_Finder_prepare 5 eU 13 [(0, .ref (E.2.1 26)), (3, .int v3), (4, .int v4)] [] σ (L_Finder_prepare_13 fu v3 v4 σ) := by
  induction fu with
  | zero => intros; exact v_none
  | succ fu ih =>
    intro v3 v4 σ
    exact vB_Finder_prepare_13 g ih v3 v4 σ
def B_Finder_prepare_0 (a1 : Nat) (a2 : Int32) (a3 : Int32) (σ : Sto) : Option (Unit × Sto) :=
  L_Finder_prepare_13 LF a3 (0 : Int32) (sI (sN σ a1) 26 3 a2)
set_option maxHeartbeats 4000000 in
set_option maxRecDepth 100000 in
theorem vB_Finder_prepare_0 {X : Xt} {E : En} (g : GG X E 3 b_Finder_prepare R_Finder 5) (a1 : Nat) (a2 : Int32) (a3 : Int32) (ha1 : cls a1 = 4) (σ : Sto) : VV X E b_Finder_prepare 5 eU 0 [(0, .ref (E.2.1 26)), (1, .ref (E.2.1 a1)), (2, .int a2), (3, .int a3)] [] σ (B_Finder_prepare_0 a1 a2 a3 σ) := by
  unfold B_Finder_prepare_0
  refine v_aload_n 0 g d_Finder_prepare_0 rfl ?_
  refine v_aload_n 1 g d_Finder_prepare_1 rfl ?_
  refine v_putN g fp_Finder_41 d_Finder_prepare_2 ?_
  refine v_aload_n 0 g d_Finder_prepare_5 rfl ?_
  refine v_iload_n 2 g d_Finder_prepare_6 rfl ?_
  refine v_putI g fp_Finder_19 rfl rfl d_Finder_prepare_7 ?_
  refine v_iconst (v := (0 : Int32)) g d_Finder_prepare_10 (by decide +kernel) ?_
  refine v_istore [(4, .int (0 : Int32)), (0, .ref (E.2.1 26)), (1, .ref (E.2.1 a1)), (2, .int a2), (3, .int a3)] g d_Finder_prepare_11 (by decide) rfl ?_
  exact v_sub [1,4,0] rfl (vL_Finder_prepare_13 g LF a3 (0 : Int32) (sI (sN σ a1) 26 3 a2))
def f_Finder_prepare (a1 : Nat) (a2 : Int32) (a3 : Int32) (σ : Sto) : Option (Unit × Sto) := B_Finder_prepare_0 a1 a2 a3 σ
theorem sp_Finder_prepare {l : Launch} {E : En} (hE : Dj E) {a1 : Nat} {a2 : Int32} {a3 : Int32} (ha1 : cls a1 = 4) {σ : Sto} {r : Unit} {σ' : Sto} (h : f_Finder_prepare a1 a2 a3 σ = some (r, σ')) : Ct l E y_Finder_prepare (wsM y_Finder_prepare b_Finder_prepare 5 (none)) 3 [.ref (E.2.1 26), .ref (E.2.1 a1), .int a2, .int a3] σ (eU r) σ' :=
  ct_of hE (by decide +kernel) (Nat.le_of_ble_eq_true rfl) (fun _ => Or.inr (Or.inr (Or.inr (Or.inl ⟨rfl, rfl⟩)))) (fun X _ g => vB_Finder_prepare_0 g a1 a2 a3 ha1 σ) r σ' h
/-! method FittingRings$Finder.worthTogether(JI)I -/
theorem yv_Finder_worthTogether : YV y_Finder_worthTogether b_Finder_worthTogether 6 (some .int) 2 0 := ⟨m1 655 (by decide +kernel) (by decide +kernel), m1 9 (by decide +kernel) (by decide +kernel), ini_Finder, m1 656 (by decide +kernel) (by decide +kernel), ⟨by decide +kernel, by decide +kernel, by decide +kernel⟩, by decide, by decide, T_Finder, 10, rfl⟩
theorem d_Finder_worthTogether_0 : decode b_Finder_worthTogether 0 = .ok (.iconst 0, 1) := by decide +kernel
theorem d_Finder_worthTogether_1 : decode b_Finder_worthTogether 1 = .ok (.istore 4, 2) := by decide +kernel
theorem d_Finder_worthTogether_3 : decode b_Finder_worthTogether 3 = .ok (.iconst 0, 1) := by decide +kernel
theorem d_Finder_worthTogether_4 : decode b_Finder_worthTogether 4 = .ok (.istore 5, 2) := by decide +kernel
theorem d_Finder_worthTogether_6 : decode b_Finder_worthTogether 6 = .ok (.iload 5, 2) := by decide +kernel
theorem d_Finder_worthTogether_8 : decode b_Finder_worthTogether 8 = .ok (.iload_n 3, 1) := by decide +kernel
theorem d_Finder_worthTogether_9 : decode b_Finder_worthTogether 9 = .ok (.if_icmp .gt 30, 3) := by decide +kernel
theorem d_Finder_worthTogether_12 : decode b_Finder_worthTogether 12 = .ok (.lload_n 1, 1) := by decide +kernel
theorem d_Finder_worthTogether_13 : decode b_Finder_worthTogether 13 = .ok (.iload 5, 2) := by decide +kernel
theorem d_Finder_worthTogether_15 : decode b_Finder_worthTogether 15 = .ok (.invokestatic 68, 3) := by decide +kernel
theorem d_Finder_worthTogether_18 : decode b_Finder_worthTogether 18 = .ok (.ifCond .eq 15, 3) := by decide +kernel
theorem d_Finder_worthTogether_21 : decode b_Finder_worthTogether 21 = .ok (.iload 4, 2) := by decide +kernel
theorem d_Finder_worthTogether_23 : decode b_Finder_worthTogether 23 = .ok (.aload_n 0, 1) := by decide +kernel
theorem d_Finder_worthTogether_24 : decode b_Finder_worthTogether 24 = .ok (.getfield 22, 3) := by decide +kernel
theorem d_Finder_worthTogether_27 : decode b_Finder_worthTogether 27 = .ok (.iload 5, 2) := by decide +kernel
theorem d_Finder_worthTogether_29 : decode b_Finder_worthTogether 29 = .ok (.iaload, 1) := by decide +kernel
theorem d_Finder_worthTogether_30 : decode b_Finder_worthTogether 30 = .ok (.iadd, 1) := by decide +kernel
theorem d_Finder_worthTogether_31 : decode b_Finder_worthTogether 31 = .ok (.istore 4, 2) := by decide +kernel
theorem d_Finder_worthTogether_33 : decode b_Finder_worthTogether 33 = .ok (.iinc 5 1, 3) := by decide +kernel
theorem d_Finder_worthTogether_36 : decode b_Finder_worthTogether 36 = .ok (.goto (-30), 3) := by decide +kernel
theorem d_Finder_worthTogether_39 : decode b_Finder_worthTogether 39 = .ok (.iload 4, 2) := by decide +kernel
theorem d_Finder_worthTogether_41 : decode b_Finder_worthTogether 41 = .ok (.ireturn, 1) := by decide +kernel
def B_Finder_worthTogether_6 (k6 : Int64 → Int32 → Int32 → Int32 → Sto → Option (Int32 × Sto)) (v1 : Int64) (v3 : Int32) (v4 : Int32) (v5 : Int32) (σ : Sto) : Option (Int32 × Sto) :=
  (if v3 < v5 then some (v4, σ)
 else ((f_FR_isOf v1 v5 σ).bind fun q1 => (if (b2i q1.1) = 0 then k6 v1 v3 v4 (v5 + (1 : Int32)) q1.2
  else (if inb v5 40 = true then (lt1 (v4 + (gI q1.2 28 (Int32.toNatClampNeg v5))) fun x2 => k6 v1 v3 x2 (v5 + (1 : Int32)) q1.2) else none))))
set_option maxHeartbeats 4000000 in
set_option maxRecDepth 100000 in
theorem vB_Finder_worthTogether_6 {X : Xt} {E : En} (g : GG X E 2 b_Finder_worthTogether R_Finder 6) {k6 : Int64 → Int32 → Int32 → Int32 → Sto → Option (Int32 × Sto)} (hk6 : ∀ (v1 : Int64) (v3 : Int32) (v4 : Int32) (v5 : Int32) (σ : Sto), VV X E b_Finder_worthTogether 6 eI 6 [(0, .ref (E.2.1 26)), (1, .long v1), (3, .int v3), (4, .int v4), (5, .int v5)] [] σ (k6 v1 v3 v4 v5 σ)) (v1 : Int64) (v3 : Int32) (v4 : Int32) (v5 : Int32) (σ : Sto) : VV X E b_Finder_worthTogether 6 eI 6 [(0, .ref (E.2.1 26)), (1, .long v1), (3, .int v3), (4, .int v4), (5, .int v5)] [] σ (B_Finder_worthTogether_6 k6 v1 v3 v4 v5 σ) := by
  unfold B_Finder_worthTogether_6
  refine v_iload 4 g d_Finder_worthTogether_6 rfl ?_
  refine v_iload_n 2 g d_Finder_worthTogether_8 rfl ?_
  refine v_icmp_gt 39 g d_Finder_worthTogether_9 (by decide) (fun _ => ?_) (fun _ => ?_)
  · refine v_iload 3 g d_Finder_worthTogether_39 rfl ?_
    exact v_ret d_Finder_worthTogether_41 rfl
  · refine v_lload_n 1 g d_Finder_worthTogether_12 rfl ?_
    refine v_iload 4 g d_Finder_worthTogether_13 rfl ?_
    refine v_callB (r_SN (rest := []) (host := R_FR) [.long v1, .int v5] g (by decide +kernel) ys_FR_isOf (fun r σ1 h => sp_FR_isOf g.2.2.1  h) rfl rfl (by decide) (Nat.le_of_ble_eq_true rfl) d_Finder_worthTogether_15) (fun q1 => ?_)
    refine v_if_eq 33 g d_Finder_worthTogether_18 (by decide) (fun _ => ?_) (fun _ => ?_)
    · refine v_iinc 4 [(5, .int (v5 + (1 : Int32))), (0, .ref (E.2.1 26)), (1, .long v1), (3, .int v3), (4, .int v4)] g d_Finder_worthTogether_33 rfl (v := (1 : Int32)) (by decide +kernel) (by decide) rfl ?_
      refine v_goto 6 g d_Finder_worthTogether_36 (by decide) ?_
      exact v_sub [1,2,3,4,0] rfl (hk6 v1 v3 v4 (v5 + (1 : Int32)) q1.2)
    · refine v_iload 3 g d_Finder_worthTogether_21 rfl ?_
      refine v_aload_n 0 g d_Finder_worthTogether_23 rfl ?_
      refine v_getR 28 g ff_Finder_22 rfl rfl rfl d_Finder_worthTogether_24 ?_
      refine v_iload 4 g d_Finder_worthTogether_27 rfl ?_
      refine v_iald g rfl rfl d_Finder_worthTogether_29 (fun _ => ?_)
      refine v_iadd g d_Finder_worthTogether_30 ?_
      refine v_nlet (fun x2 ex2 => ?_)
      rw [← ex2]
      refine v_istore [(4, .int x2), (0, .ref (E.2.1 26)), (1, .long v1), (3, .int v3), (5, .int v5)] g d_Finder_worthTogether_31 (by decide) rfl ?_
      refine v_iinc 4 [(5, .int (v5 + (1 : Int32))), (4, .int x2), (0, .ref (E.2.1 26)), (1, .long v1), (3, .int v3)] g d_Finder_worthTogether_33 rfl (v := (1 : Int32)) (by decide +kernel) (by decide) rfl ?_
      refine v_goto 6 g d_Finder_worthTogether_36 (by decide) ?_
      exact v_sub [2,3,4,1,0] rfl (hk6 v1 v3 x2 (v5 + (1 : Int32)) q1.2)
def L_Finder_worthTogether_6 : Nat → Int64 → Int32 → Int32 → Int32 → Sto → Option (Int32 × Sto)
  | 0, _, _, _, _, _ => none
  | fu + 1, v1, v3, v4, v5, σ => B_Finder_worthTogether_6 (L_Finder_worthTogether_6 fu) v1 v3 v4 v5 σ
theorem vL_Finder_worthTogether_6 {X : Xt} {E : En} (g : GG X E 2 b_Finder_worthTogether R_Finder 6) (fu : Nat) : ∀ (v1 : Int64) (v3 : Int32) (v4 : Int32) (v5 : Int32) (σ : Sto), VV X E b_Finder_worthTogether 6 eI 6 [(0, .ref (E.2.1 26)), (1, .long v1), (3, .int v3), (4, .int v4), (5, .int v5)] [] σ (L_Finder_worthTogether_6 fu v1 v3 v4 v5 σ) := by
  induction fu with
  | zero => intros; exact v_none
  | succ fu ih =>
    intro v1 v3 v4 v5 σ
    exact vB_Finder_worthTogether_6 g ih v1 v3 v4 v5 σ
def B_Finder_worthTogether_0 (a1 : Int64) (a3 : Int32) (σ : Sto) : Option (Int32 × Sto) :=
  L_Finder_worthTogether_6 LF a1 a3 (0 : Int32) (0 : Int32) σ
set_option maxHeartbeats 4000000 in
set_option maxRecDepth 100000 in
theorem vB_Finder_worthTogether_0 {X : Xt} {E : En} (g : GG X E 2 b_Finder_worthTogether R_Finder 6) (a1 : Int64) (a3 : Int32) (σ : Sto) : VV X E b_Finder_worthTogether 6 eI 0 [(0, .ref (E.2.1 26)), (1, .long a1), (3, .int a3)] [] σ (B_Finder_worthTogether_0 a1 a3 σ) := by
  unfold B_Finder_worthTogether_0
  refine v_iconst (v := (0 : Int32)) g d_Finder_worthTogether_0 (by decide +kernel) ?_
  refine v_istore [(4, .int (0 : Int32)), (0, .ref (E.2.1 26)), (1, .long a1), (3, .int a3)] g d_Finder_worthTogether_1 (by decide) rfl ?_
  refine v_iconst (v := (0 : Int32)) g d_Finder_worthTogether_3 (by decide +kernel) ?_
  refine v_istore [(5, .int (0 : Int32)), (4, .int (0 : Int32)), (0, .ref (E.2.1 26)), (1, .long a1), (3, .int a3)] g d_Finder_worthTogether_4 (by decide) rfl ?_
  exact v_sub [2,3,4,1,0] rfl (vL_Finder_worthTogether_6 g LF a1 a3 (0 : Int32) (0 : Int32) σ)
def f_Finder_worthTogether (a1 : Int64) (a3 : Int32) (σ : Sto) : Option (Int32 × Sto) := B_Finder_worthTogether_0 a1 a3 σ
theorem sp_Finder_worthTogether {l : Launch} {E : En} (hE : Dj E) {a1 : Int64} {a3 : Int32} {σ : Sto} {r : Int32} {σ' : Sto} (h : f_Finder_worthTogether a1 a3 σ = some (r, σ')) : Ct l E y_Finder_worthTogether (wsM y_Finder_worthTogether b_Finder_worthTogether 6 (some .int)) 2 [.ref (E.2.1 26), .long a1, .int a3] σ (eI r) σ' :=
  ct_of hE (by decide +kernel) (Nat.le_of_ble_eq_true rfl) (fun x => Or.inl ⟨rfl, x, rfl⟩) (fun X _ g => vB_Finder_worthTogether_0 g a1 a3 σ) r σ' h
/-! method FittingRings$Finder.climb(JII)V -/
theorem yv_Finder_climb : YV y_Finder_climb b_Finder_climb 10 (none) 3 0 := ⟨m1 650 (by decide +kernel) (by decide +kernel), m1 8 (by decide +kernel) (by decide +kernel), ini_Finder, m1 651 (by decide +kernel) (by decide +kernel), ⟨by decide +kernel, by decide +kernel, by decide +kernel⟩, by decide, by decide, T_Finder, 10, rfl⟩
theorem d_Finder_climb_0 : decode b_Finder_climb 0 = .ok (.aload_n 0, 1) := by decide +kernel
theorem d_Finder_climb_1 : decode b_Finder_climb 1 = .ok (.aload_n 0, 1) := by decide +kernel
theorem d_Finder_climb_2 : decode b_Finder_climb 2 = .ok (.getfield 35, 3) := by decide +kernel
theorem d_Finder_climb_5 : decode b_Finder_climb 5 = .ok (.iload_n 3, 1) := by decide +kernel
theorem d_Finder_climb_6 : decode b_Finder_climb 6 = .ok (.invokestatic 76, 3) := by decide +kernel
theorem d_Finder_climb_9 : decode b_Finder_climb 9 = .ok (.putfield 35, 3) := by decide +kernel
theorem d_Finder_climb_12 : decode b_Finder_climb 12 = .ok (.lload_n 1, 1) := by decide +kernel
theorem d_Finder_climb_13 : decode b_Finder_climb 13 = .ok (.iload 4, 2) := by decide +kernel
theorem d_Finder_climb_15 : decode b_Finder_climb 15 = .ok (.invokestatic 54, 3) := by decide +kernel
theorem d_Finder_climb_18 : decode b_Finder_climb 18 = .ok (.istore 5, 2) := by decide +kernel
theorem d_Finder_climb_20 : decode b_Finder_climb 20 = .ok (.aload_n 0, 1) := by decide +kernel
theorem d_Finder_climb_21 : decode b_Finder_climb 21 = .ok (.getfield 41, 3) := by decide +kernel
theorem d_Finder_climb_24 : decode b_Finder_climb 24 = .ok (.iload 5, 2) := by decide +kernel
theorem d_Finder_climb_26 : decode b_Finder_climb 26 = .ok (.i2l, 1) := by decide +kernel
theorem d_Finder_climb_27 : decode b_Finder_climb 27 = .ok (.invokevirtual 94, 3) := by decide +kernel
theorem d_Finder_climb_30 : decode b_Finder_climb 30 = .ok (.ifCond .eq 30, 3) := by decide +kernel
theorem d_Finder_climb_33 : decode b_Finder_climb 33 = .ok (.aload_n 0, 1) := by decide +kernel
theorem d_Finder_climb_34 : decode b_Finder_climb 34 = .ok (.getfield 35, 3) := by decide +kernel
theorem d_Finder_climb_37 : decode b_Finder_climb 37 = .ok (.aload_n 0, 1) := by decide +kernel
theorem d_Finder_climb_38 : decode b_Finder_climb 38 = .ok (.getfield 38, 3) := by decide +kernel
theorem d_Finder_climb_41 : decode b_Finder_climb 41 = .ok (.if_icmp .ge 19, 3) := by decide +kernel
theorem d_Finder_climb_44 : decode b_Finder_climb 44 = .ok (.iload_n 3, 1) := by decide +kernel
theorem d_Finder_climb_45 : decode b_Finder_climb 45 = .ok (.aload_n 0, 1) := by decide +kernel
theorem d_Finder_climb_46 : decode b_Finder_climb 46 = .ok (.lload_n 1, 1) := by decide +kernel
theorem d_Finder_climb_47 : decode b_Finder_climb 47 = .ok (.iload 5, 2) := by decide +kernel
theorem d_Finder_climb_49 : decode b_Finder_climb 49 = .ok (.invokevirtual 98, 3) := by decide +kernel
theorem d_Finder_climb_52 : decode b_Finder_climb 52 = .ok (.iadd, 1) := by decide +kernel
theorem d_Finder_climb_53 : decode b_Finder_climb 53 = .ok (.aload_n 0, 1) := by decide +kernel
theorem d_Finder_climb_54 : decode b_Finder_climb 54 = .ok (.getfield 35, 3) := by decide +kernel
theorem d_Finder_climb_57 : decode b_Finder_climb 57 = .ok (.if_icmp .gt 4, 3) := by decide +kernel
theorem d_Finder_climb_60 : decode b_Finder_climb 60 = .ok (.return_, 1) := by decide +kernel
theorem d_Finder_climb_61 : decode b_Finder_climb 61 = .ok (.lload_n 1, 1) := by decide +kernel
theorem d_Finder_climb_62 : decode b_Finder_climb 62 = .ok (.lconst 1, 1) := by decide +kernel
theorem d_Finder_climb_63 : decode b_Finder_climb 63 = .ok (.iload 5, 2) := by decide +kernel
theorem d_Finder_climb_65 : decode b_Finder_climb 65 = .ok (.lshl, 1) := by decide +kernel
theorem d_Finder_climb_66 : decode b_Finder_climb 66 = .ok (.ldc2_w 62, 3) := by decide +kernel
theorem d_Finder_climb_69 : decode b_Finder_climb 69 = .ok (.lxor, 1) := by decide +kernel
theorem d_Finder_climb_70 : decode b_Finder_climb 70 = .ok (.land, 1) := by decide +kernel
theorem d_Finder_climb_71 : decode b_Finder_climb 71 = .ok (.lstore 6, 2) := by decide +kernel
theorem d_Finder_climb_73 : decode b_Finder_climb 73 = .ok (.aload_n 0, 1) := by decide +kernel
theorem d_Finder_climb_74 : decode b_Finder_climb 74 = .ok (.getfield 41, 3) := by decide +kernel
theorem d_Finder_climb_77 : decode b_Finder_climb 77 = .ok (.aload_n 0, 1) := by decide +kernel
theorem d_Finder_climb_78 : decode b_Finder_climb 78 = .ok (.getfield 19, 3) := by decide +kernel
theorem d_Finder_climb_81 : decode b_Finder_climb 81 = .ok (.iload 5, 2) := by decide +kernel
theorem d_Finder_climb_83 : decode b_Finder_climb 83 = .ok (.lload 6, 2) := by decide +kernel
theorem d_Finder_climb_85 : decode b_Finder_climb 85 = .ok (.invokevirtual 64, 3) := by decide +kernel
theorem d_Finder_climb_88 : decode b_Finder_climb 88 = .ok (.lstore 8, 2) := by decide +kernel
theorem d_Finder_climb_90 : decode b_Finder_climb 90 = .ok (.aload_n 0, 1) := by decide +kernel
theorem d_Finder_climb_91 : decode b_Finder_climb 91 = .ok (.lload 8, 2) := by decide +kernel
theorem d_Finder_climb_93 : decode b_Finder_climb 93 = .ok (.iload_n 3, 1) := by decide +kernel
theorem d_Finder_climb_94 : decode b_Finder_climb 94 = .ok (.aload_n 0, 1) := by decide +kernel
theorem d_Finder_climb_95 : decode b_Finder_climb 95 = .ok (.getfield 22, 3) := by decide +kernel
theorem d_Finder_climb_98 : decode b_Finder_climb 98 = .ok (.iload 5, 2) := by decide +kernel
theorem d_Finder_climb_100 : decode b_Finder_climb 100 = .ok (.iaload, 1) := by decide +kernel
theorem d_Finder_climb_101 : decode b_Finder_climb 101 = .ok (.iadd, 1) := by decide +kernel
theorem d_Finder_climb_102 : decode b_Finder_climb 102 = .ok (.iload 5, 2) := by decide +kernel
theorem d_Finder_climb_104 : decode b_Finder_climb 104 = .ok (.iconst 1, 1) := by decide +kernel
theorem d_Finder_climb_105 : decode b_Finder_climb 105 = .ok (.isub, 1) := by decide +kernel
theorem d_Finder_climb_106 : decode b_Finder_climb 106 = .ok (.invokevirtual 87, 3) := by decide +kernel
theorem d_Finder_climb_109 : decode b_Finder_climb 109 = .ok (.lload 8, 2) := by decide +kernel
theorem d_Finder_climb_111 : decode b_Finder_climb 111 = .ok (.lload 6, 2) := by decide +kernel
theorem d_Finder_climb_113 : decode b_Finder_climb 113 = .ok (.lcmp, 1) := by decide +kernel
theorem d_Finder_climb_114 : decode b_Finder_climb 114 = .ok (.ifCond .eq 14, 3) := by decide +kernel
theorem d_Finder_climb_117 : decode b_Finder_climb 117 = .ok (.aload_n 0, 1) := by decide +kernel
theorem d_Finder_climb_118 : decode b_Finder_climb 118 = .ok (.lload 6, 2) := by decide +kernel
theorem d_Finder_climb_120 : decode b_Finder_climb 120 = .ok (.iload_n 3, 1) := by decide +kernel
theorem d_Finder_climb_121 : decode b_Finder_climb 121 = .ok (.iload 5, 2) := by decide +kernel
theorem d_Finder_climb_123 : decode b_Finder_climb 123 = .ok (.iconst 1, 1) := by decide +kernel
theorem d_Finder_climb_124 : decode b_Finder_climb 124 = .ok (.isub, 1) := by decide +kernel
theorem d_Finder_climb_125 : decode b_Finder_climb 125 = .ok (.invokevirtual 87, 3) := by decide +kernel
theorem d_Finder_climb_128 : decode b_Finder_climb 128 = .ok (.return_, 1) := by decide +kernel
def B_Finder_climb_0 (self : Int64 → Int32 → Int32 → Sto → Option (Unit × Sto)) (a1 : Int64) (a3 : Int32) (a4 : Int32) (σ : Sto) : Option (Unit × Sto) :=
  ((f_FR_lastOf a1 a4 (sI σ 26 8 (mxI (gI σ 26 8) a3))).bind fun q1 => (if cls (gN q1.2) = 4 then ((f_Net_has (gN q1.2) (Int32.toInt64 q1.1) q1.2).bind fun q3 => (if (b2i q3.1) = 0 then some ((), q3.2)
 else (if (gI q3.2 26 9) ≤ (gI q3.2 26 8) then some ((), q3.2)
  else ((f_Finder_worthTogether a1 q1.1 q3.2).bind fun q4 => (if (gI q4.2 26 8) < (a3 + q4.1) then (lt1 (a1 &&& ((lsh (1 : Int64) q1.1) ^^^ (-1 : Int64))) fun x5 => (if cls (gN q4.2) = 4 then ((f_Net_fitting (gN q4.2) (gI q4.2 26 3) q1.1 x5 q4.2).bind fun q7 => (if inb q1.1 40 = true then ((self q7.1 (a3 + (gI q7.2 28 (Int32.toNatClampNeg q1.1))) (q1.1 - (1 : Int32)) q7.2).bind fun q8 => (if q7.1 = x5 then some ((), q8.2)
    else ((self x5 a3 (q1.1 - (1 : Int32)) q8.2).bind fun q9 => some ((), q9.2)))) else none)) else none))
   else some ((), q4.2)))))) else none))
set_option maxHeartbeats 4000000 in
set_option maxRecDepth 100000 in
theorem vB_Finder_climb_0 {X : Xt} {E : En} {hs : Nat} (hbs : 2 ≤ hs) (g : GG X E (1 + hs) b_Finder_climb R_Finder 10) {self : Int64 → Int32 → Int32 → Sto → Option (Unit × Sto)} (hself : ∀ (a1 : Int64) (a3 : Int32) (a4 : Int32) (σ : Sto) {r : Unit} {σ' : Sto}, self a1 a3 a4 σ = some (r, σ') → Ct (x_l X) E y_Finder_climb (wsM y_Finder_climb b_Finder_climb 10 (none)) hs [.ref (E.2.1 26), .long a1, .int a3, .int a4] σ (eU r) σ') (a1 : Int64) (a3 : Int32) (a4 : Int32) (σ : Sto) : VV X E b_Finder_climb 10 eU 0 [(0, .ref (E.2.1 26)), (1, .long a1), (3, .int a3), (4, .int a4)] [] σ (B_Finder_climb_0 self a1 a3 a4 σ) := by
  unfold B_Finder_climb_0
  refine v_aload_n 0 g d_Finder_climb_0 rfl ?_
  refine v_aload_n 0 g d_Finder_climb_1 rfl ?_
  refine v_getI g ff_Finder_35 rfl rfl d_Finder_climb_2 ?_
  refine v_iload_n 2 g d_Finder_climb_5 rfl ?_
  refine v_mmax g (m1 609 (by decide +kernel) (by decide +kernel)) (by omega) (Nat.le_of_ble_eq_true rfl) d_Finder_climb_6 ?_
  refine v_putI g fp_Finder_35 rfl rfl d_Finder_climb_9 ?_
  refine v_lload_n 1 g d_Finder_climb_12 rfl ?_
  refine v_iload 3 g d_Finder_climb_13 rfl ?_
  refine v_callI (r_SN (rest := []) (host := R_FR) [.long a1, .int a4] g (by decide +kernel) ys_FR_lastOf (fun r σ1 h => sp_FR_lastOf g.2.2.1  h) rfl rfl (by omega) (Nat.le_of_ble_eq_true rfl) d_Finder_climb_15) (fun q1 => ?_)
  refine v_istore [(5, .int q1.1), (0, .ref (E.2.1 26)), (1, .long a1), (3, .int a3), (4, .int a4)] g d_Finder_climb_18 (by decide) rfl ?_
  refine v_aload_n 1 g d_Finder_climb_20 rfl ?_
  refine v_getN g ff_Finder_41 rfl rfl d_Finder_climb_21 ?_
  refine v_grd _ (fun h2 => ?_)
  refine v_iload 0 g d_Finder_climb_24 rfl ?_
  refine v_i2l g d_Finder_climb_26 ?_
  refine v_callB (r_V (rest := []) [.long (Int32.toInt64 q1.1)] g (m1 652 (by decide +kernel) (by decide +kernel)) yv_Net_has h2 (fun r σ1 h => sp_Net_has g.2.2.1 h2 h) rfl rfl (by omega) (Nat.le_of_ble_eq_true rfl) d_Finder_climb_27) (fun q3 => ?_)
  refine v_if_eq 60 g d_Finder_climb_30 (by decide) (fun _ => ?_) (fun _ => ?_)
  · exact v_ret d_Finder_climb_60 rfl
  · refine v_aload_n 1 g d_Finder_climb_33 rfl ?_
    refine v_getI g ff_Finder_35 rfl rfl d_Finder_climb_34 ?_
    refine v_aload_n 1 g d_Finder_climb_37 rfl ?_
    refine v_getI g ff_Finder_38 rfl rfl d_Finder_climb_38 ?_
    refine v_icmp_ge 60 g d_Finder_climb_41 (by decide) (fun _ => ?_) (fun _ => ?_)
    · exact v_ret d_Finder_climb_60 rfl
    · refine v_iload_n 3 g d_Finder_climb_44 rfl ?_
      refine v_aload_n 1 g d_Finder_climb_45 rfl ?_
      refine v_lload_n 2 g d_Finder_climb_46 rfl ?_
      refine v_iload 0 g d_Finder_climb_47 rfl ?_
      refine v_callI (r_V (rest := [.int a3]) [.long a1, .int q1.1] g (m1 653 (by decide +kernel) (by decide +kernel)) yv_Finder_worthTogether rfl (fun r σ1 h => sp_Finder_worthTogether g.2.2.1  h) rfl rfl (by omega) (Nat.le_of_ble_eq_true rfl) d_Finder_climb_49) (fun q4 => ?_)
      refine v_iadd g d_Finder_climb_52 ?_
      refine v_aload_n 1 g d_Finder_climb_53 rfl ?_
      refine v_getI g ff_Finder_35 rfl rfl d_Finder_climb_54 ?_
      refine v_icmp_gt 61 g d_Finder_climb_57 (by decide) (fun _ => ?_) (fun _ => ?_)
      · refine v_lload_n 2 g d_Finder_climb_61 rfl ?_
        refine v_lconst (v := (1 : Int64)) g d_Finder_climb_62 (by decide +kernel) ?_
        refine v_iload 0 g d_Finder_climb_63 rfl ?_
        refine v_lshl g d_Finder_climb_65 ?_
        refine v_ldc2 (v := (-1 : Int64)) g (m1 603 (by decide +kernel) (by decide +kernel)) d_Finder_climb_66 ?_
        refine v_lxor g d_Finder_climb_69 ?_
        refine v_land g d_Finder_climb_70 ?_
        refine v_nlet (fun x5 ex5 => ?_)
        rw [← ex5]
        refine v_lstore [(6, .long x5), (5, .int q1.1), (0, .ref (E.2.1 26)), (1, .long a1), (3, .int a3), (4, .int a4)] g d_Finder_climb_71 (by decide) rfl ?_
        refine v_aload_n 2 g d_Finder_climb_73 rfl ?_
        refine v_getN g ff_Finder_41 rfl rfl d_Finder_climb_74 ?_
        refine v_grd _ (fun h6 => ?_)
        refine v_aload_n 2 g d_Finder_climb_77 rfl ?_
        refine v_getI g ff_Finder_19 rfl rfl d_Finder_climb_78 ?_
        refine v_iload 1 g d_Finder_climb_81 rfl ?_
        refine v_lload 0 g d_Finder_climb_83 rfl ?_
        refine v_callL (r_V (rest := []) [.int (gI q4.2 26 3), .int q1.1, .long x5] g (m1 602 (by decide +kernel) (by decide +kernel)) yv_Net_fitting h6 (fun r σ1 h => sp_Net_fitting g.2.2.1 h6 h) rfl rfl (by omega) (Nat.le_of_ble_eq_true rfl) d_Finder_climb_85) (fun q7 => ?_)
        refine v_lstore [(8, .long q7.1), (6, .long x5), (5, .int q1.1), (0, .ref (E.2.1 26)), (1, .long a1), (3, .int a3), (4, .int a4)] g d_Finder_climb_88 (by decide) rfl ?_
        refine v_aload_n 3 g d_Finder_climb_90 rfl ?_
        refine v_lload 0 g d_Finder_climb_91 rfl ?_
        refine v_iload_n 5 g d_Finder_climb_93 rfl ?_
        refine v_aload_n 3 g d_Finder_climb_94 rfl ?_
        refine v_getR 28 g ff_Finder_22 rfl rfl rfl d_Finder_climb_95 ?_
        refine v_iload 2 g d_Finder_climb_98 rfl ?_
        refine v_iald g rfl rfl d_Finder_climb_100 (fun _ => ?_)
        refine v_iadd g d_Finder_climb_101 ?_
        refine v_iload 2 g d_Finder_climb_102 rfl ?_
        refine v_iconst (v := (1 : Int32)) g d_Finder_climb_104 (by decide +kernel) ?_
        refine v_isub g d_Finder_climb_105 ?_
        refine v_callU (r_V (rest := []) [.long q7.1, .int (a3 + (gI q7.2 28 (Int32.toNatClampNeg q1.1))), .int (q1.1 - (1 : Int32))] g (m1 648 (by decide +kernel) (by decide +kernel)) yv_Finder_climb rfl (fun r σ1 h => hself q7.1 (a3 + (gI q7.2 28 (Int32.toNatClampNeg q1.1))) (q1.1 - (1 : Int32)) q7.2 h) rfl rfl (by omega) (Nat.le_of_ble_eq_true rfl) d_Finder_climb_106) (fun q8 => ?_)
        refine v_lload 0 g d_Finder_climb_109 rfl ?_
        refine v_lload 1 g d_Finder_climb_111 rfl ?_
        refine v_lcmp_eq 128 g d_Finder_climb_113 d_Finder_climb_114 (by decide) (fun _ => ?_) (fun _ => ?_)
        · exact v_ret d_Finder_climb_128 rfl
        · refine v_aload_n 3 g d_Finder_climb_117 rfl ?_
          refine v_lload 1 g d_Finder_climb_118 rfl ?_
          refine v_iload_n 5 g d_Finder_climb_120 rfl ?_
          refine v_iload 2 g d_Finder_climb_121 rfl ?_
          refine v_iconst (v := (1 : Int32)) g d_Finder_climb_123 (by decide +kernel) ?_
          refine v_isub g d_Finder_climb_124 ?_
          refine v_callU (r_V (rest := []) [.long x5, .int a3, .int (q1.1 - (1 : Int32))] g (m1 648 (by decide +kernel) (by decide +kernel)) yv_Finder_climb rfl (fun r σ1 h => hself x5 a3 (q1.1 - (1 : Int32)) q8.2 h) rfl rfl (by omega) (Nat.le_of_ble_eq_true rfl) d_Finder_climb_125) (fun q9 => ?_)
          exact v_ret d_Finder_climb_128 rfl
      · exact v_ret d_Finder_climb_60 rfl
def f_Finder_climb : Nat → Int64 → Int32 → Int32 → Sto → Option (Unit × Sto)
  | 0, _, _, _, _ => none
  | fu + 1, a1, a3, a4, σ => B_Finder_climb_0 (f_Finder_climb fu) a1 a3 a4 σ
theorem sp_Finder_climb {l : Launch} {E : En} (hE : Dj E) (fu : Nat) : ∀ {a1 : Int64} {a3 : Int32} {a4 : Int32} {σ : Sto} {r : Unit} {σ' : Sto}, f_Finder_climb fu a1 a3 a4 σ = some (r, σ') → Ct l E y_Finder_climb (wsM y_Finder_climb b_Finder_climb 10 (none)) (2 + fu) [.ref (E.2.1 26), .long a1, .int a3, .int a4] σ (eU r) σ' := by
  induction fu with
  | zero => intros; rename_i h; cases h
  | succ fu ih =>
    intro a1 a3 a4 σ r σ' h
    exact ct_of hE (by decide +kernel) (Nat.le_of_ble_eq_true rfl) (fun _ => Or.inr (Or.inr (Or.inr (Or.inl ⟨rfl, rfl⟩)))) (fun X hX g => vB_Finder_climb_0 (hs := 2 + fu) (by omega) (by rw [show 1 + (2 + fu) = 2 + (fu + 1) by omega]; exact g) (fun _ _ _ _ _ _ hh => by rw [hX]; exact ih hh) a1 a3 a4 σ) r σ' h
/-! method FittingRings$Finder.search(LFittingRings$Net;IIJ)I -/
theorem yv_Finder_search : YV y_Finder_search b_Finder_search 6 (some .int) 4 0 := ⟨m1 639 (by decide +kernel) (by decide +kernel), m1 640 (by decide +kernel) (by decide +kernel), ini_Finder, m1 641 (by decide +kernel) (by decide +kernel), ⟨by decide +kernel, by decide +kernel, by decide +kernel⟩, by decide, by decide, T_Finder, 10, rfl⟩
theorem d_Finder_search_0 : decode b_Finder_search 0 = .ok (.aload_n 0, 1) := by decide +kernel
theorem d_Finder_search_1 : decode b_Finder_search 1 = .ok (.aload_n 1, 1) := by decide +kernel
theorem d_Finder_search_2 : decode b_Finder_search 2 = .ok (.iload_n 2, 1) := by decide +kernel
theorem d_Finder_search_3 : decode b_Finder_search 3 = .ok (.iload_n 3, 1) := by decide +kernel
theorem d_Finder_search_4 : decode b_Finder_search 4 = .ok (.invokevirtual 82, 3) := by decide +kernel
theorem d_Finder_search_7 : decode b_Finder_search 7 = .ok (.aload_n 0, 1) := by decide +kernel
theorem d_Finder_search_8 : decode b_Finder_search 8 = .ok (.iconst 0, 1) := by decide +kernel
theorem d_Finder_search_9 : decode b_Finder_search 9 = .ok (.putfield 35, 3) := by decide +kernel
theorem d_Finder_search_12 : decode b_Finder_search 12 = .ok (.aload_n 0, 1) := by decide +kernel
theorem d_Finder_search_13 : decode b_Finder_search 13 = .ok (.ldc 86, 2) := by decide +kernel
theorem d_Finder_search_15 : decode b_Finder_search 15 = .ok (.putfield 38, 3) := by decide +kernel
theorem d_Finder_search_18 : decode b_Finder_search 18 = .ok (.aload_n 0, 1) := by decide +kernel
theorem d_Finder_search_19 : decode b_Finder_search 19 = .ok (.lload 4, 2) := by decide +kernel
theorem d_Finder_search_21 : decode b_Finder_search 21 = .ok (.iconst 0, 1) := by decide +kernel
theorem d_Finder_search_22 : decode b_Finder_search 22 = .ok (.aload_n 0, 1) := by decide +kernel
theorem d_Finder_search_23 : decode b_Finder_search 23 = .ok (.getfield 41, 3) := by decide +kernel
theorem d_Finder_search_26 : decode b_Finder_search 26 = .ok (.getfield 45, 3) := by decide +kernel
theorem d_Finder_search_29 : decode b_Finder_search 29 = .ok (.iconst 1, 1) := by decide +kernel
theorem d_Finder_search_30 : decode b_Finder_search 30 = .ok (.isub, 1) := by decide +kernel
theorem d_Finder_search_31 : decode b_Finder_search 31 = .ok (.invokevirtual 87, 3) := by decide +kernel
theorem d_Finder_search_34 : decode b_Finder_search 34 = .ok (.aload_n 0, 1) := by decide +kernel
theorem d_Finder_search_35 : decode b_Finder_search 35 = .ok (.getfield 35, 3) := by decide +kernel
theorem d_Finder_search_38 : decode b_Finder_search 38 = .ok (.ireturn, 1) := by decide +kernel
def B_Finder_search_0 (a1 : Nat) (a2 : Int32) (a3 : Int32) (a4 : Int64) (σ : Sto) : Option (Int32 × Sto) :=
  ((f_Finder_prepare a1 a2 a3 σ).bind fun q1 => (if cls (gN (sI (sI q1.2 26 8 (0 : Int32)) 26 9 (1000000 : Int32))) = 4 then ((f_Finder_climb 64 a4 (0 : Int32) ((gI (sI (sI q1.2 26 8 (0 : Int32)) 26 9 (1000000 : Int32)) (gN (sI (sI q1.2 26 8 (0 : Int32)) 26 9 (1000000 : Int32))) 0) - (1 : Int32)) (sI (sI q1.2 26 8 (0 : Int32)) 26 9 (1000000 : Int32))).bind fun q3 => some ((gI q3.2 26 8), q3.2)) else none))
set_option maxHeartbeats 4000000 in
set_option maxRecDepth 100000 in
theorem vB_Finder_search_0 {X : Xt} {E : En} (g : GG X E 68 b_Finder_search R_Finder 6) (a1 : Nat) (a2 : Int32) (a3 : Int32) (a4 : Int64) (ha1 : cls a1 = 4) (σ : Sto) : VV X E b_Finder_search 6 eI 0 [(0, .ref (E.2.1 26)), (1, .ref (E.2.1 a1)), (2, .int a2), (3, .int a3), (4, .long a4)] [] σ (B_Finder_search_0 a1 a2 a3 a4 σ) := by
  unfold B_Finder_search_0
  refine v_aload_n 0 g d_Finder_search_0 rfl ?_
  refine v_aload_n 1 g d_Finder_search_1 rfl ?_
  refine v_iload_n 2 g d_Finder_search_2 rfl ?_
  refine v_iload_n 3 g d_Finder_search_3 rfl ?_
  refine v_callU (r_V (rest := []) [.ref (E.2.1 a1), .int a2, .int a3] g (m1 642 (by decide +kernel) (by decide +kernel)) yv_Finder_prepare rfl (fun r σ1 h => sp_Finder_prepare g.2.2.1 ha1 h) rfl rfl (by decide) (Nat.le_of_ble_eq_true rfl) d_Finder_search_4) (fun q1 => ?_)
  refine v_aload_n 0 g d_Finder_search_7 rfl ?_
  refine v_iconst (v := (0 : Int32)) g d_Finder_search_8 (by decide +kernel) ?_
  refine v_putI g fp_Finder_35 rfl rfl d_Finder_search_9 ?_
  refine v_aload_n 0 g d_Finder_search_12 rfl ?_
  refine v_ldc (v := (1000000 : Int32)) g (m1 647 (by decide +kernel) (by decide +kernel)) d_Finder_search_13 ?_
  refine v_putI g fp_Finder_38 rfl rfl d_Finder_search_15 ?_
  refine v_aload_n 0 g d_Finder_search_18 rfl ?_
  refine v_lload 4 g d_Finder_search_19 rfl ?_
  refine v_iconst (v := (0 : Int32)) g d_Finder_search_21 (by decide +kernel) ?_
  refine v_aload_n 0 g d_Finder_search_22 rfl ?_
  refine v_getN g ff_Finder_41 rfl rfl d_Finder_search_23 ?_
  refine v_grd _ (fun h2 => ?_)
  refine v_getI g ff_Finder_45 h2 rfl d_Finder_search_26 ?_
  refine v_iconst (v := (1 : Int32)) g d_Finder_search_29 (by decide +kernel) ?_
  refine v_isub g d_Finder_search_30 ?_
  refine v_callU (r_V (rest := []) [.long a4, .int (0 : Int32), .int ((gI (sI (sI q1.2 26 8 (0 : Int32)) 26 9 (1000000 : Int32)) (gN (sI (sI q1.2 26 8 (0 : Int32)) 26 9 (1000000 : Int32))) 0) - (1 : Int32))] g (m1 648 (by decide +kernel) (by decide +kernel)) yv_Finder_climb rfl (fun r σ1 h => sp_Finder_climb g.2.2.1 64  h) rfl rfl (by decide) (Nat.le_of_ble_eq_true rfl) d_Finder_search_31) (fun q3 => ?_)
  refine v_aload_n 0 g d_Finder_search_34 rfl ?_
  refine v_getI g ff_Finder_35 rfl rfl d_Finder_search_35 ?_
  exact v_ret d_Finder_search_38 rfl
def f_Finder_search (a1 : Nat) (a2 : Int32) (a3 : Int32) (a4 : Int64) (σ : Sto) : Option (Int32 × Sto) := B_Finder_search_0 a1 a2 a3 a4 σ
theorem sp_Finder_search {l : Launch} {E : En} (hE : Dj E) {a1 : Nat} {a2 : Int32} {a3 : Int32} {a4 : Int64} (ha1 : cls a1 = 4) {σ : Sto} {r : Int32} {σ' : Sto} (h : f_Finder_search a1 a2 a3 a4 σ = some (r, σ')) : Ct l E y_Finder_search (wsM y_Finder_search b_Finder_search 6 (some .int)) 68 [.ref (E.2.1 26), .ref (E.2.1 a1), .int a2, .int a3, .long a4] σ (eI r) σ' :=
  ct_of hE (by decide +kernel) (Nat.le_of_ble_eq_true rfl) (fun x => Or.inl ⟨rfl, x, rfl⟩) (fun X _ g => vB_Finder_search_0 g a1 a2 a3 a4 ha1 σ) r σ' h
/-! method FittingRings$Finder.reaches(LFittingRings$Net;IIJI)Z -/
theorem yv_Finder_reaches : YV y_Finder_reaches b_Finder_reaches 7 (some .boolean) 5 0 := ⟨m1 664 (by decide +kernel) (by decide +kernel), m1 665 (by decide +kernel) (by decide +kernel), ini_Finder, m1 666 (by decide +kernel) (by decide +kernel), ⟨by decide +kernel, by decide +kernel, by decide +kernel⟩, by decide, by decide, T_Finder, 10, rfl⟩
theorem d_Finder_reaches_0 : decode b_Finder_reaches 0 = .ok (.aload_n 0, 1) := by decide +kernel
theorem d_Finder_reaches_1 : decode b_Finder_reaches 1 = .ok (.aload_n 1, 1) := by decide +kernel
theorem d_Finder_reaches_2 : decode b_Finder_reaches 2 = .ok (.iload_n 2, 1) := by decide +kernel
theorem d_Finder_reaches_3 : decode b_Finder_reaches 3 = .ok (.iload_n 3, 1) := by decide +kernel
theorem d_Finder_reaches_4 : decode b_Finder_reaches 4 = .ok (.invokevirtual 82, 3) := by decide +kernel
theorem d_Finder_reaches_7 : decode b_Finder_reaches 7 = .ok (.aload_n 0, 1) := by decide +kernel
theorem d_Finder_reaches_8 : decode b_Finder_reaches 8 = .ok (.iload 6, 2) := by decide +kernel
theorem d_Finder_reaches_10 : decode b_Finder_reaches 10 = .ok (.iconst 1, 1) := by decide +kernel
theorem d_Finder_reaches_11 : decode b_Finder_reaches 11 = .ok (.isub, 1) := by decide +kernel
theorem d_Finder_reaches_12 : decode b_Finder_reaches 12 = .ok (.putfield 35, 3) := by decide +kernel
theorem d_Finder_reaches_15 : decode b_Finder_reaches 15 = .ok (.aload_n 0, 1) := by decide +kernel
theorem d_Finder_reaches_16 : decode b_Finder_reaches 16 = .ok (.iload 6, 2) := by decide +kernel
theorem d_Finder_reaches_18 : decode b_Finder_reaches 18 = .ok (.putfield 38, 3) := by decide +kernel
theorem d_Finder_reaches_21 : decode b_Finder_reaches 21 = .ok (.aload_n 0, 1) := by decide +kernel
theorem d_Finder_reaches_22 : decode b_Finder_reaches 22 = .ok (.lload 4, 2) := by decide +kernel
theorem d_Finder_reaches_24 : decode b_Finder_reaches 24 = .ok (.iconst 0, 1) := by decide +kernel
theorem d_Finder_reaches_25 : decode b_Finder_reaches 25 = .ok (.aload_n 0, 1) := by decide +kernel
theorem d_Finder_reaches_26 : decode b_Finder_reaches 26 = .ok (.getfield 41, 3) := by decide +kernel
theorem d_Finder_reaches_29 : decode b_Finder_reaches 29 = .ok (.getfield 45, 3) := by decide +kernel
theorem d_Finder_reaches_32 : decode b_Finder_reaches 32 = .ok (.iconst 1, 1) := by decide +kernel
theorem d_Finder_reaches_33 : decode b_Finder_reaches 33 = .ok (.isub, 1) := by decide +kernel
theorem d_Finder_reaches_34 : decode b_Finder_reaches 34 = .ok (.invokevirtual 87, 3) := by decide +kernel
theorem d_Finder_reaches_37 : decode b_Finder_reaches 37 = .ok (.aload_n 0, 1) := by decide +kernel
theorem d_Finder_reaches_38 : decode b_Finder_reaches 38 = .ok (.getfield 35, 3) := by decide +kernel
theorem d_Finder_reaches_41 : decode b_Finder_reaches 41 = .ok (.aload_n 0, 1) := by decide +kernel
theorem d_Finder_reaches_42 : decode b_Finder_reaches 42 = .ok (.getfield 38, 3) := by decide +kernel
theorem d_Finder_reaches_45 : decode b_Finder_reaches 45 = .ok (.if_icmp .lt 7, 3) := by decide +kernel
theorem d_Finder_reaches_48 : decode b_Finder_reaches 48 = .ok (.iconst 1, 1) := by decide +kernel
theorem d_Finder_reaches_49 : decode b_Finder_reaches 49 = .ok (.goto 4, 3) := by decide +kernel
theorem d_Finder_reaches_52 : decode b_Finder_reaches 52 = .ok (.iconst 0, 1) := by decide +kernel
theorem d_Finder_reaches_53 : decode b_Finder_reaches 53 = .ok (.ireturn, 1) := by decide +kernel
def B_Finder_reaches_0 (a1 : Nat) (a2 : Int32) (a3 : Int32) (a4 : Int64) (a6 : Int32) (σ : Sto) : Option (Bool × Sto) :=
  ((f_Finder_prepare a1 a2 a3 σ).bind fun q1 => (if cls (gN (sI (sI q1.2 26 8 (a6 - (1 : Int32))) 26 9 a6)) = 4 then ((f_Finder_climb 64 a4 (0 : Int32) ((gI (sI (sI q1.2 26 8 (a6 - (1 : Int32))) 26 9 a6) (gN (sI (sI q1.2 26 8 (a6 - (1 : Int32))) 26 9 a6)) 0) - (1 : Int32)) (sI (sI q1.2 26 8 (a6 - (1 : Int32))) 26 9 a6)).bind fun q3 => (if (gI q3.2 26 8) < (gI q3.2 26 9) then some (false, q3.2)
 else some (true, q3.2))) else none))
set_option maxHeartbeats 4000000 in
set_option maxRecDepth 100000 in
theorem vB_Finder_reaches_0 {X : Xt} {E : En} (g : GG X E 68 b_Finder_reaches R_Finder 7) (a1 : Nat) (a2 : Int32) (a3 : Int32) (a4 : Int64) (a6 : Int32) (ha1 : cls a1 = 4) (σ : Sto) : VV X E b_Finder_reaches 7 eB 0 [(0, .ref (E.2.1 26)), (1, .ref (E.2.1 a1)), (2, .int a2), (3, .int a3), (4, .long a4), (6, .int a6)] [] σ (B_Finder_reaches_0 a1 a2 a3 a4 a6 σ) := by
  unfold B_Finder_reaches_0
  refine v_aload_n 0 g d_Finder_reaches_0 rfl ?_
  refine v_aload_n 1 g d_Finder_reaches_1 rfl ?_
  refine v_iload_n 2 g d_Finder_reaches_2 rfl ?_
  refine v_iload_n 3 g d_Finder_reaches_3 rfl ?_
  refine v_callU (r_V (rest := []) [.ref (E.2.1 a1), .int a2, .int a3] g (m1 642 (by decide +kernel) (by decide +kernel)) yv_Finder_prepare rfl (fun r σ1 h => sp_Finder_prepare g.2.2.1 ha1 h) rfl rfl (by decide) (Nat.le_of_ble_eq_true rfl) d_Finder_reaches_4) (fun q1 => ?_)
  refine v_aload_n 0 g d_Finder_reaches_7 rfl ?_
  refine v_iload 5 g d_Finder_reaches_8 rfl ?_
  refine v_iconst (v := (1 : Int32)) g d_Finder_reaches_10 (by decide +kernel) ?_
  refine v_isub g d_Finder_reaches_11 ?_
  refine v_putI g fp_Finder_35 rfl rfl d_Finder_reaches_12 ?_
  refine v_aload_n 0 g d_Finder_reaches_15 rfl ?_
  refine v_iload 5 g d_Finder_reaches_16 rfl ?_
  refine v_putI g fp_Finder_38 rfl rfl d_Finder_reaches_18 ?_
  refine v_aload_n 0 g d_Finder_reaches_21 rfl ?_
  refine v_lload 4 g d_Finder_reaches_22 rfl ?_
  refine v_iconst (v := (0 : Int32)) g d_Finder_reaches_24 (by decide +kernel) ?_
  refine v_aload_n 0 g d_Finder_reaches_25 rfl ?_
  refine v_getN g ff_Finder_41 rfl rfl d_Finder_reaches_26 ?_
  refine v_grd _ (fun h2 => ?_)
  refine v_getI g ff_Finder_45 h2 rfl d_Finder_reaches_29 ?_
  refine v_iconst (v := (1 : Int32)) g d_Finder_reaches_32 (by decide +kernel) ?_
  refine v_isub g d_Finder_reaches_33 ?_
  refine v_callU (r_V (rest := []) [.long a4, .int (0 : Int32), .int ((gI (sI (sI q1.2 26 8 (a6 - (1 : Int32))) 26 9 a6) (gN (sI (sI q1.2 26 8 (a6 - (1 : Int32))) 26 9 a6)) 0) - (1 : Int32))] g (m1 648 (by decide +kernel) (by decide +kernel)) yv_Finder_climb rfl (fun r σ1 h => sp_Finder_climb g.2.2.1 64  h) rfl rfl (by decide) (Nat.le_of_ble_eq_true rfl) d_Finder_reaches_34) (fun q3 => ?_)
  refine v_aload_n 0 g d_Finder_reaches_37 rfl ?_
  refine v_getI g ff_Finder_35 rfl rfl d_Finder_reaches_38 ?_
  refine v_aload_n 0 g d_Finder_reaches_41 rfl ?_
  refine v_getI g ff_Finder_38 rfl rfl d_Finder_reaches_42 ?_
  refine v_icmp_lt 52 g d_Finder_reaches_45 (by decide) (fun _ => ?_) (fun _ => ?_)
  · refine v_iconst (v := (0 : Int32)) g d_Finder_reaches_52 (by decide +kernel) ?_
    exact v_ret d_Finder_reaches_53 rfl
  · refine v_iconst (v := (1 : Int32)) g d_Finder_reaches_48 (by decide +kernel) ?_
    refine v_goto 53 g d_Finder_reaches_49 (by decide) ?_
    exact v_ret d_Finder_reaches_53 rfl
def f_Finder_reaches (a1 : Nat) (a2 : Int32) (a3 : Int32) (a4 : Int64) (a6 : Int32) (σ : Sto) : Option (Bool × Sto) := B_Finder_reaches_0 a1 a2 a3 a4 a6 σ
theorem sp_Finder_reaches {l : Launch} {E : En} (hE : Dj E) {a1 : Nat} {a2 : Int32} {a3 : Int32} {a4 : Int64} {a6 : Int32} (ha1 : cls a1 = 4) {σ : Sto} {r : Bool} {σ' : Sto} (h : f_Finder_reaches a1 a2 a3 a4 a6 σ = some (r, σ')) : Ct l E y_Finder_reaches (wsM y_Finder_reaches b_Finder_reaches 7 (some .boolean)) 68 [.ref (E.2.1 26), .ref (E.2.1 a1), .int a2, .int a3, .long a4, .int a6] σ (eB r) σ' :=
  ct_of hE (by decide +kernel) (Nat.le_of_ble_eq_true rfl) (fun b => Or.inr (Or.inl ⟨rfl, b, rfl⟩)) (fun X _ g => vB_Finder_reaches_0 g a1 a2 a3 a4 a6 ha1 σ) r σ' h
/-! method FittingRings$Finder.part(II)V -/
theorem yv_Finder_part : YV y_Finder_part b_Finder_part 8 (none) 2 0 := ⟨m1 680 (by decide +kernel) (by decide +kernel), m1 10 (by decide +kernel) (by decide +kernel), ini_Finder, m1 681 (by decide +kernel) (by decide +kernel), ⟨by decide +kernel, by decide +kernel, by decide +kernel⟩, by decide, by decide, T_Finder, 10, rfl⟩
theorem d_Finder_part_0 : decode b_Finder_part 0 = .ok (.iload_n 2, 1) := by decide +kernel
theorem d_Finder_part_1 : decode b_Finder_part 1 = .ok (.aload_n 0, 1) := by decide +kernel
theorem d_Finder_part_2 : decode b_Finder_part 2 = .ok (.getfield 35, 3) := by decide +kernel
theorem d_Finder_part_5 : decode b_Finder_part 5 = .ok (.if_icmp .lt 4, 3) := by decide +kernel
theorem d_Finder_part_8 : decode b_Finder_part 8 = .ok (.return_, 1) := by decide +kernel
theorem d_Finder_part_9 : decode b_Finder_part 9 = .ok (.iload_n 1, 1) := by decide +kernel
theorem d_Finder_part_10 : decode b_Finder_part 10 = .ok (.aload_n 0, 1) := by decide +kernel
theorem d_Finder_part_11 : decode b_Finder_part 11 = .ok (.getfield 32, 3) := by decide +kernel
theorem d_Finder_part_14 : decode b_Finder_part 14 = .ok (.if_icmp .ge 9, 3) := by decide +kernel
theorem d_Finder_part_17 : decode b_Finder_part 17 = .ok (.iload_n 1, 1) := by decide +kernel
theorem d_Finder_part_18 : decode b_Finder_part 18 = .ok (.bipush 10, 2) := by decide +kernel
theorem d_Finder_part_20 : decode b_Finder_part 20 = .ok (.if_icmp .lt 9, 3) := by decide +kernel
theorem d_Finder_part_23 : decode b_Finder_part 23 = .ok (.aload_n 0, 1) := by decide +kernel
theorem d_Finder_part_24 : decode b_Finder_part 24 = .ok (.iload_n 2, 1) := by decide +kernel
theorem d_Finder_part_25 : decode b_Finder_part 25 = .ok (.putfield 35, 3) := by decide +kernel
theorem d_Finder_part_28 : decode b_Finder_part 28 = .ok (.return_, 1) := by decide +kernel
theorem d_Finder_part_29 : decode b_Finder_part 29 = .ok (.lconst 1, 1) := by decide +kernel
theorem d_Finder_part_30 : decode b_Finder_part 30 = .ok (.aload_n 0, 1) := by decide +kernel
theorem d_Finder_part_31 : decode b_Finder_part 31 = .ok (.getfield 26, 3) := by decide +kernel
theorem d_Finder_part_34 : decode b_Finder_part 34 = .ok (.iload_n 1, 1) := by decide +kernel
theorem d_Finder_part_35 : decode b_Finder_part 35 = .ok (.iaload, 1) := by decide +kernel
theorem d_Finder_part_36 : decode b_Finder_part 36 = .ok (.lshl, 1) := by decide +kernel
theorem d_Finder_part_37 : decode b_Finder_part 37 = .ok (.lstore_n 3, 1) := by decide +kernel
theorem d_Finder_part_38 : decode b_Finder_part 38 = .ok (.iconst 0, 1) := by decide +kernel
theorem d_Finder_part_39 : decode b_Finder_part 39 = .ok (.istore 5, 2) := by decide +kernel
theorem d_Finder_part_41 : decode b_Finder_part 41 = .ok (.iload 5, 2) := by decide +kernel
theorem d_Finder_part_43 : decode b_Finder_part 43 = .ok (.iload_n 2, 1) := by decide +kernel
theorem d_Finder_part_44 : decode b_Finder_part 44 = .ok (.if_icmp .gt 94, 3) := by decide +kernel
theorem d_Finder_part_47 : decode b_Finder_part 47 = .ok (.iload 5, 2) := by decide +kernel
theorem d_Finder_part_49 : decode b_Finder_part 49 = .ok (.bipush 10, 2) := by decide +kernel
theorem d_Finder_part_51 : decode b_Finder_part 51 = .ok (.if_icmp .ge 87, 3) := by decide +kernel
theorem d_Finder_part_54 : decode b_Finder_part 54 = .ok (.iload 5, 2) := by decide +kernel
theorem d_Finder_part_56 : decode b_Finder_part 56 = .ok (.iload_n 2, 1) := by decide +kernel
theorem d_Finder_part_57 : decode b_Finder_part 57 = .ok (.if_icmp .ge 13, 3) := by decide +kernel
theorem d_Finder_part_60 : decode b_Finder_part 60 = .ok (.aload_n 0, 1) := by decide +kernel
theorem d_Finder_part_61 : decode b_Finder_part 61 = .ok (.getfield 29, 3) := by decide +kernel
theorem d_Finder_part_64 : decode b_Finder_part 64 = .ok (.iload 5, 2) := by decide +kernel
theorem d_Finder_part_66 : decode b_Finder_part 66 = .ok (.laload, 1) := by decide +kernel
theorem d_Finder_part_67 : decode b_Finder_part 67 = .ok (.goto 4, 3) := by decide +kernel
theorem d_Finder_part_70 : decode b_Finder_part 70 = .ok (.lconst 0, 1) := by decide +kernel
theorem d_Finder_part_71 : decode b_Finder_part 71 = .ok (.lstore 6, 2) := by decide +kernel
theorem d_Finder_part_73 : decode b_Finder_part 73 = .ok (.aload_n 0, 1) := by decide +kernel
theorem d_Finder_part_74 : decode b_Finder_part 74 = .ok (.getfield 41, 3) := by decide +kernel
theorem d_Finder_part_77 : decode b_Finder_part 77 = .ok (.aload_n 0, 1) := by decide +kernel
theorem d_Finder_part_78 : decode b_Finder_part 78 = .ok (.getfield 19, 3) := by decide +kernel
theorem d_Finder_part_81 : decode b_Finder_part 81 = .ok (.aload_n 0, 1) := by decide +kernel
theorem d_Finder_part_82 : decode b_Finder_part 82 = .ok (.getfield 26, 3) := by decide +kernel
theorem d_Finder_part_85 : decode b_Finder_part 85 = .ok (.iload_n 1, 1) := by decide +kernel
theorem d_Finder_part_86 : decode b_Finder_part 86 = .ok (.iaload, 1) := by decide +kernel
theorem d_Finder_part_87 : decode b_Finder_part 87 = .ok (.lload 6, 2) := by decide +kernel
theorem d_Finder_part_89 : decode b_Finder_part 89 = .ok (.invokevirtual 64, 3) := by decide +kernel
theorem d_Finder_part_92 : decode b_Finder_part 92 = .ok (.lconst 0, 1) := by decide +kernel
theorem d_Finder_part_93 : decode b_Finder_part 93 = .ok (.lcmp, 1) := by decide +kernel
theorem d_Finder_part_94 : decode b_Finder_part 94 = .ok (.ifCond .ne 38, 3) := by decide +kernel
theorem d_Finder_part_97 : decode b_Finder_part 97 = .ok (.aload_n 0, 1) := by decide +kernel
theorem d_Finder_part_98 : decode b_Finder_part 98 = .ok (.getfield 29, 3) := by decide +kernel
theorem d_Finder_part_101 : decode b_Finder_part 101 = .ok (.iload 5, 2) := by decide +kernel
theorem d_Finder_part_103 : decode b_Finder_part 103 = .ok (.lload 6, 2) := by decide +kernel
theorem d_Finder_part_105 : decode b_Finder_part 105 = .ok (.lload_n 3, 1) := by decide +kernel
theorem d_Finder_part_106 : decode b_Finder_part 106 = .ok (.lor, 1) := by decide +kernel
theorem d_Finder_part_107 : decode b_Finder_part 107 = .ok (.lastore, 1) := by decide +kernel
theorem d_Finder_part_108 : decode b_Finder_part 108 = .ok (.aload_n 0, 1) := by decide +kernel
theorem d_Finder_part_109 : decode b_Finder_part 109 = .ok (.iload_n 1, 1) := by decide +kernel
theorem d_Finder_part_110 : decode b_Finder_part 110 = .ok (.iconst 1, 1) := by decide +kernel
theorem d_Finder_part_111 : decode b_Finder_part 111 = .ok (.iadd, 1) := by decide +kernel
theorem d_Finder_part_112 : decode b_Finder_part 112 = .ok (.iload_n 2, 1) := by decide +kernel
theorem d_Finder_part_113 : decode b_Finder_part 113 = .ok (.iload 5, 2) := by decide +kernel
theorem d_Finder_part_115 : decode b_Finder_part 115 = .ok (.iconst 1, 1) := by decide +kernel
theorem d_Finder_part_116 : decode b_Finder_part 116 = .ok (.iadd, 1) := by decide +kernel
theorem d_Finder_part_117 : decode b_Finder_part 117 = .ok (.invokestatic 76, 3) := by decide +kernel
theorem d_Finder_part_120 : decode b_Finder_part 120 = .ok (.invokevirtual 101, 3) := by decide +kernel
theorem d_Finder_part_123 : decode b_Finder_part 123 = .ok (.aload_n 0, 1) := by decide +kernel
theorem d_Finder_part_124 : decode b_Finder_part 124 = .ok (.getfield 29, 3) := by decide +kernel
theorem d_Finder_part_127 : decode b_Finder_part 127 = .ok (.iload 5, 2) := by decide +kernel
theorem d_Finder_part_129 : decode b_Finder_part 129 = .ok (.lload 6, 2) := by decide +kernel
theorem d_Finder_part_131 : decode b_Finder_part 131 = .ok (.lastore, 1) := by decide +kernel
theorem d_Finder_part_132 : decode b_Finder_part 132 = .ok (.iinc 5 1, 3) := by decide +kernel
theorem d_Finder_part_135 : decode b_Finder_part 135 = .ok (.goto (-94), 3) := by decide +kernel
theorem d_Finder_part_138 : decode b_Finder_part 138 = .ok (.return_, 1) := by decide +kernel
def B_Finder_part_71 (self : Int32 → Int32 → Sto → Option (Unit × Sto)) (k41 : Int32 → Int32 → Int64 → Int32 → Sto → Option (Unit × Sto)) (v1 : Int32) (v2 : Int32) (v3 : Int64) (v5 : Int32) (s0 : Int64) (σ : Sto) : Option (Unit × Sto) :=
  (if cls (gN σ) = 4 then (if inb v1 10 = true then ((f_Net_fitting (gN σ) (gI σ 26 3) (gI σ 29 (Int32.toNatClampNeg v1)) s0 σ).bind fun q3 => (if q3.1 = (0 : Int64) then (if inb v5 10 = true then ((self (v1 + (1 : Int32)) (mxI v2 (v5 + (1 : Int32))) (sL q3.2 30 (Int32.toNatClampNeg v5) (s0 ||| v3))).bind fun q4 => (if inb v5 10 = true then k41 v1 v2 v3 (v5 + (1 : Int32)) (sL q4.2 30 (Int32.toNatClampNeg v5) s0) else none)) else none)
 else k41 v1 v2 v3 (v5 + (1 : Int32)) q3.2)) else none) else none)
set_option maxHeartbeats 4000000 in
set_option maxRecDepth 100000 in
theorem vB_Finder_part_71 {X : Xt} {E : En} {hs : Nat} (hbs : 2 ≤ hs) (g : GG X E (1 + hs) b_Finder_part R_Finder 8) {self : Int32 → Int32 → Sto → Option (Unit × Sto)} (hself : ∀ (a1 : Int32) (a2 : Int32) (σ : Sto) {r : Unit} {σ' : Sto}, self a1 a2 σ = some (r, σ') → Ct (x_l X) E y_Finder_part (wsM y_Finder_part b_Finder_part 8 (none)) hs [.ref (E.2.1 26), .int a1, .int a2] σ (eU r) σ') {k41 : Int32 → Int32 → Int64 → Int32 → Sto → Option (Unit × Sto)} (hk41 : ∀ (v1 : Int32) (v2 : Int32) (v3 : Int64) (v5 : Int32) (σ : Sto), VV X E b_Finder_part 8 eU 41 [(0, .ref (E.2.1 26)), (1, .int v1), (2, .int v2), (3, .long v3), (5, .int v5)] [] σ (k41 v1 v2 v3 v5 σ)) (v1 : Int32) (v2 : Int32) (v3 : Int64) (v5 : Int32) (s0 : Int64) (σ : Sto) : VV X E b_Finder_part 8 eU 71 [(0, .ref (E.2.1 26)), (1, .int v1), (2, .int v2), (3, .long v3), (5, .int v5)] [.long s0] σ (B_Finder_part_71 self k41 v1 v2 v3 v5 s0 σ) := by
  unfold B_Finder_part_71
  refine v_lstore [(6, .long s0), (0, .ref (E.2.1 26)), (1, .int v1), (2, .int v2), (3, .long v3), (5, .int v5)] g d_Finder_part_71 (by decide) rfl ?_
  refine v_aload_n 1 g d_Finder_part_73 rfl ?_
  refine v_getN g ff_Finder_41 rfl rfl d_Finder_part_74 ?_
  refine v_grd _ (fun h2 => ?_)
  refine v_aload_n 1 g d_Finder_part_77 rfl ?_
  refine v_getI g ff_Finder_19 rfl rfl d_Finder_part_78 ?_
  refine v_aload_n 1 g d_Finder_part_81 rfl ?_
  refine v_getR 29 g ff_Finder_26 rfl rfl rfl d_Finder_part_82 ?_
  refine v_iload_n 2 g d_Finder_part_85 rfl ?_
  refine v_iald g rfl rfl d_Finder_part_86 (fun _ => ?_)
  refine v_lload 0 g d_Finder_part_87 rfl ?_
  refine v_callL (r_V (rest := []) [.int (gI σ 26 3), .int (gI σ 29 (Int32.toNatClampNeg v1)), .long s0] g (m1 602 (by decide +kernel) (by decide +kernel)) yv_Net_fitting h2 (fun r σ1 h => sp_Net_fitting g.2.2.1 h2 h) rfl rfl (by omega) (Nat.le_of_ble_eq_true rfl) d_Finder_part_89) (fun q3 => ?_)
  refine v_lconst (v := (0 : Int64)) g d_Finder_part_92 (by decide +kernel) ?_
  refine v_lcmp_ne 132 g d_Finder_part_93 d_Finder_part_94 (by decide) (fun _ => ?_) (fun _ => ?_)
  · refine v_iinc 5 [(5, .int (v5 + (1 : Int32))), (6, .long s0), (0, .ref (E.2.1 26)), (1, .int v1), (2, .int v2), (3, .long v3)] g d_Finder_part_132 rfl (v := (1 : Int32)) (by decide +kernel) (by decide) rfl ?_
    refine v_goto 41 g d_Finder_part_135 (by decide) ?_
    exact v_sub [2,3,4,5,0] rfl (hk41 v1 v2 v3 (v5 + (1 : Int32)) q3.2)
  · refine v_aload_n 1 g d_Finder_part_97 rfl ?_
    refine v_getR 30 g ff_Finder_29 rfl rfl rfl d_Finder_part_98 ?_
    refine v_iload 5 g d_Finder_part_101 rfl ?_
    refine v_lload 0 g d_Finder_part_103 rfl ?_
    refine v_lload_n 4 g d_Finder_part_105 rfl ?_
    refine v_lor g d_Finder_part_106 ?_
    refine v_last g rfl rfl d_Finder_part_107 (fun _ => ?_)
    refine v_aload_n 1 g d_Finder_part_108 rfl ?_
    refine v_iload_n 2 g d_Finder_part_109 rfl ?_
    refine v_iconst (v := (1 : Int32)) g d_Finder_part_110 (by decide +kernel) ?_
    refine v_iadd g d_Finder_part_111 ?_
    refine v_iload_n 3 g d_Finder_part_112 rfl ?_
    refine v_iload 5 g d_Finder_part_113 rfl ?_
    refine v_iconst (v := (1 : Int32)) g d_Finder_part_115 (by decide +kernel) ?_
    refine v_iadd g d_Finder_part_116 ?_
    refine v_mmax g (m1 609 (by decide +kernel) (by decide +kernel)) (by omega) (Nat.le_of_ble_eq_true rfl) d_Finder_part_117 ?_
    refine v_callU (r_V (rest := []) [.int (v1 + (1 : Int32)), .int (mxI v2 (v5 + (1 : Int32)))] g (m1 678 (by decide +kernel) (by decide +kernel)) yv_Finder_part rfl (fun r σ1 h => hself (v1 + (1 : Int32)) (mxI v2 (v5 + (1 : Int32))) (sL q3.2 30 (Int32.toNatClampNeg v5) (s0 ||| v3)) h) rfl rfl (by omega) (Nat.le_of_ble_eq_true rfl) d_Finder_part_120) (fun q4 => ?_)
    refine v_aload_n 1 g d_Finder_part_123 rfl ?_
    refine v_getR 30 g ff_Finder_29 rfl rfl rfl d_Finder_part_124 ?_
    refine v_iload 5 g d_Finder_part_127 rfl ?_
    refine v_lload 0 g d_Finder_part_129 rfl ?_
    refine v_last g rfl rfl d_Finder_part_131 (fun _ => ?_)
    refine v_iinc 5 [(5, .int (v5 + (1 : Int32))), (6, .long s0), (0, .ref (E.2.1 26)), (1, .int v1), (2, .int v2), (3, .long v3)] g d_Finder_part_132 rfl (v := (1 : Int32)) (by decide +kernel) (by decide) rfl ?_
    refine v_goto 41 g d_Finder_part_135 (by decide) ?_
    exact v_sub [2,3,4,5,0] rfl (hk41 v1 v2 v3 (v5 + (1 : Int32)) (sL q4.2 30 (Int32.toNatClampNeg v5) s0))
def B_Finder_part_41 (self : Int32 → Int32 → Sto → Option (Unit × Sto)) (k41 : Int32 → Int32 → Int64 → Int32 → Sto → Option (Unit × Sto)) (v1 : Int32) (v2 : Int32) (v3 : Int64) (v5 : Int32) (σ : Sto) : Option (Unit × Sto) :=
  (if v2 < v5 then some ((), σ)
 else (if (10 : Int32) ≤ v5 then some ((), σ)
  else (if v2 ≤ v5 then B_Finder_part_71 self k41 v1 v2 v3 v5 (0 : Int64) σ
   else (if inb v5 10 = true then B_Finder_part_71 self k41 v1 v2 v3 v5 (gL σ 30 (Int32.toNatClampNeg v5)) σ else none))))
set_option maxHeartbeats 4000000 in
set_option maxRecDepth 100000 in
theorem vB_Finder_part_41 {X : Xt} {E : En} {hs : Nat} (hbs : 2 ≤ hs) (g : GG X E (1 + hs) b_Finder_part R_Finder 8) {self : Int32 → Int32 → Sto → Option (Unit × Sto)} (hself : ∀ (a1 : Int32) (a2 : Int32) (σ : Sto) {r : Unit} {σ' : Sto}, self a1 a2 σ = some (r, σ') → Ct (x_l X) E y_Finder_part (wsM y_Finder_part b_Finder_part 8 (none)) hs [.ref (E.2.1 26), .int a1, .int a2] σ (eU r) σ') {k41 : Int32 → Int32 → Int64 → Int32 → Sto → Option (Unit × Sto)} (hk41 : ∀ (v1 : Int32) (v2 : Int32) (v3 : Int64) (v5 : Int32) (σ : Sto), VV X E b_Finder_part 8 eU 41 [(0, .ref (E.2.1 26)), (1, .int v1), (2, .int v2), (3, .long v3), (5, .int v5)] [] σ (k41 v1 v2 v3 v5 σ)) (v1 : Int32) (v2 : Int32) (v3 : Int64) (v5 : Int32) (σ : Sto) : VV X E b_Finder_part 8 eU 41 [(0, .ref (E.2.1 26)), (1, .int v1), (2, .int v2), (3, .long v3), (5, .int v5)] [] σ (B_Finder_part_41 self k41 v1 v2 v3 v5 σ) := by
  unfold B_Finder_part_41
  refine v_iload 4 g d_Finder_part_41 rfl ?_
  refine v_iload_n 2 g d_Finder_part_43 rfl ?_
  refine v_icmp_gt 138 g d_Finder_part_44 (by decide) (fun _ => ?_) (fun _ => ?_)
  · exact v_ret d_Finder_part_138 rfl
  · refine v_iload 4 g d_Finder_part_47 rfl ?_
    refine v_bipush (v := (10 : Int32)) g d_Finder_part_49 (by decide +kernel) ?_
    refine v_icmp_ge 138 g d_Finder_part_51 (by decide) (fun _ => ?_) (fun _ => ?_)
    · exact v_ret d_Finder_part_138 rfl
    · refine v_iload 4 g d_Finder_part_54 rfl ?_
      refine v_iload_n 2 g d_Finder_part_56 rfl ?_
      refine v_icmp_ge 70 g d_Finder_part_57 (by decide) (fun _ => ?_) (fun _ => ?_)
      · refine v_lconst (v := (0 : Int64)) g d_Finder_part_70 (by decide +kernel) ?_
        exact v_sub [0,1,2,3,4] rfl (vB_Finder_part_71 hbs g hself hk41 v1 v2 v3 v5 (0 : Int64) σ)
      · refine v_aload_n 0 g d_Finder_part_60 rfl ?_
        refine v_getR 30 g ff_Finder_29 rfl rfl rfl d_Finder_part_61 ?_
        refine v_iload 4 g d_Finder_part_64 rfl ?_
        refine v_lald g rfl rfl d_Finder_part_66 (fun _ => ?_)
        refine v_goto 71 g d_Finder_part_67 (by decide) ?_
        exact v_sub [0,1,2,3,4] rfl (vB_Finder_part_71 hbs g hself hk41 v1 v2 v3 v5 (gL σ 30 (Int32.toNatClampNeg v5)) σ)
def L_Finder_part_41 (self : Int32 → Int32 → Sto → Option (Unit × Sto)) : Nat → Int32 → Int32 → Int64 → Int32 → Sto → Option (Unit × Sto)
  | 0, _, _, _, _, _ => none
  | fu + 1, v1, v2, v3, v5, σ => B_Finder_part_41 self (L_Finder_part_41 self fu) v1 v2 v3 v5 σ
theorem vL_Finder_part_41 {X : Xt} {E : En} {hs : Nat} (hbs : 2 ≤ hs) (g : GG X E (1 + hs) b_Finder_part R_Finder 8) {self : Int32 → Int32 → Sto → Option (Unit × Sto)} (hself : ∀ (a1 : Int32) (a2 : Int32) (σ : Sto) {r : Unit} {σ' : Sto}, self a1 a2 σ = some (r, σ') → Ct (x_l X) E y_Finder_part (wsM y_Finder_part b_Finder_part 8 (none)) hs [.ref (E.2.1 26), .int a1, .int a2] σ (eU r) σ') (fu : Nat) : ∀ (v1 : Int32) (v2 : Int32) (v3 : Int64) (v5 : Int32) (σ : Sto), VV X E b_Finder_part 8 eU 41 [(0, .ref (E.2.1 26)), (1, .int v1), (2, .int v2), (3, .long v3), (5, .int v5)] [] σ (L_Finder_part_41 self fu v1 v2 v3 v5 σ) := by
  induction fu with
  | zero => intros; exact v_none
  | succ fu ih =>
    intro v1 v2 v3 v5 σ
    exact vB_Finder_part_41 hbs g hself ih v1 v2 v3 v5 σ
def B_Finder_part_0 (self : Int32 → Int32 → Sto → Option (Unit × Sto)) (a1 : Int32) (a2 : Int32) (σ : Sto) : Option (Unit × Sto) :=
  (if a2 < (gI σ 26 8) then (if (gI σ 26 7) ≤ a1 then some ((), (sI σ 26 8 a2))
  else (if a1 < (10 : Int32) then (if inb a1 10 = true then (lt1 (lsh (1 : Int64) (gI σ 29 (Int32.toNatClampNeg a1))) fun x1 => L_Finder_part_41 self LF a1 a2 x1 (0 : Int32) σ) else none)
   else some ((), (sI σ 26 8 a2))))
 else some ((), σ))
set_option maxHeartbeats 4000000 in
set_option maxRecDepth 100000 in
theorem vB_Finder_part_0 {X : Xt} {E : En} {hs : Nat} (hbs : 2 ≤ hs) (g : GG X E (1 + hs) b_Finder_part R_Finder 8) {self : Int32 → Int32 → Sto → Option (Unit × Sto)} (hself : ∀ (a1 : Int32) (a2 : Int32) (σ : Sto) {r : Unit} {σ' : Sto}, self a1 a2 σ = some (r, σ') → Ct (x_l X) E y_Finder_part (wsM y_Finder_part b_Finder_part 8 (none)) hs [.ref (E.2.1 26), .int a1, .int a2] σ (eU r) σ') (a1 : Int32) (a2 : Int32) (σ : Sto) : VV X E b_Finder_part 8 eU 0 [(0, .ref (E.2.1 26)), (1, .int a1), (2, .int a2)] [] σ (B_Finder_part_0 self a1 a2 σ) := by
  unfold B_Finder_part_0
  refine v_iload_n 2 g d_Finder_part_0 rfl ?_
  refine v_aload_n 0 g d_Finder_part_1 rfl ?_
  refine v_getI g ff_Finder_35 rfl rfl d_Finder_part_2 ?_
  refine v_icmp_lt 9 g d_Finder_part_5 (by decide) (fun _ => ?_) (fun _ => ?_)
  · refine v_iload_n 1 g d_Finder_part_9 rfl ?_
    refine v_aload_n 0 g d_Finder_part_10 rfl ?_
    refine v_getI g ff_Finder_32 rfl rfl d_Finder_part_11 ?_
    refine v_icmp_ge 23 g d_Finder_part_14 (by decide) (fun _ => ?_) (fun _ => ?_)
    · refine v_aload_n 0 g d_Finder_part_23 rfl ?_
      refine v_iload_n 2 g d_Finder_part_24 rfl ?_
      refine v_putI g fp_Finder_35 rfl rfl d_Finder_part_25 ?_
      exact v_ret d_Finder_part_28 rfl
    · refine v_iload_n 1 g d_Finder_part_17 rfl ?_
      refine v_bipush (v := (10 : Int32)) g d_Finder_part_18 (by decide +kernel) ?_
      refine v_icmp_lt 29 g d_Finder_part_20 (by decide) (fun _ => ?_) (fun _ => ?_)
      · refine v_lconst (v := (1 : Int64)) g d_Finder_part_29 (by decide +kernel) ?_
        refine v_aload_n 0 g d_Finder_part_30 rfl ?_
        refine v_getR 29 g ff_Finder_26 rfl rfl rfl d_Finder_part_31 ?_
        refine v_iload_n 1 g d_Finder_part_34 rfl ?_
        refine v_iald g rfl rfl d_Finder_part_35 (fun _ => ?_)
        refine v_lshl g d_Finder_part_36 ?_
        refine v_nlet (fun x1 ex1 => ?_)
        rw [← ex1]
        refine v_lstore_n [(3, .long x1), (0, .ref (E.2.1 26)), (1, .int a1), (2, .int a2)] g d_Finder_part_37 (by decide) rfl ?_
        refine v_iconst (v := (0 : Int32)) g d_Finder_part_38 (by decide +kernel) ?_
        refine v_istore [(5, .int (0 : Int32)), (3, .long x1), (0, .ref (E.2.1 26)), (1, .int a1), (2, .int a2)] g d_Finder_part_39 (by decide) rfl ?_
        exact v_sub [2,3,4,1,0] rfl (vL_Finder_part_41 hbs g hself LF a1 a2 x1 (0 : Int32) σ)
      · refine v_aload_n 0 g d_Finder_part_23 rfl ?_
        refine v_iload_n 2 g d_Finder_part_24 rfl ?_
        refine v_putI g fp_Finder_35 rfl rfl d_Finder_part_25 ?_
        exact v_ret d_Finder_part_28 rfl
  · exact v_ret d_Finder_part_8 rfl
def f_Finder_part : Nat → Int32 → Int32 → Sto → Option (Unit × Sto)
  | 0, _, _, _ => none
  | fu + 1, a1, a2, σ => B_Finder_part_0 (f_Finder_part fu) a1 a2 σ
theorem sp_Finder_part {l : Launch} {E : En} (hE : Dj E) (fu : Nat) : ∀ {a1 : Int32} {a2 : Int32} {σ : Sto} {r : Unit} {σ' : Sto}, f_Finder_part fu a1 a2 σ = some (r, σ') → Ct l E y_Finder_part (wsM y_Finder_part b_Finder_part 8 (none)) (2 + fu) [.ref (E.2.1 26), .int a1, .int a2] σ (eU r) σ' := by
  induction fu with
  | zero => intros; rename_i h; cases h
  | succ fu ih =>
    intro a1 a2 σ r σ' h
    exact ct_of hE (by decide +kernel) (Nat.le_of_ble_eq_true rfl) (fun _ => Or.inr (Or.inr (Or.inr (Or.inl ⟨rfl, rfl⟩)))) (fun X hX g => vB_Finder_part_0 (hs := 2 + fu) (by omega) (by rw [show 1 + (2 + fu) = 2 + (fu + 1) by omega]; exact g) (fun _ _ _ _ _ hh => by rw [hX]; exact ih hh) a1 a2 σ) r σ' h
/-! method FittingRings$Finder.fewestParts(LFittingRings$Net;IJ)I -/
theorem yv_Finder_fewestParts : YV y_Finder_fewestParts b_Finder_fewestParts 6 (some .int) 3 0 := ⟨m1 675 (by decide +kernel) (by decide +kernel), m1 676 (by decide +kernel) (by decide +kernel), ini_Finder, m1 677 (by decide +kernel) (by decide +kernel), ⟨by decide +kernel, by decide +kernel, by decide +kernel⟩, by decide, by decide, T_Finder, 10, rfl⟩
theorem d_Finder_fewestParts_0 : decode b_Finder_fewestParts 0 = .ok (.aload_n 0, 1) := by decide +kernel
theorem d_Finder_fewestParts_1 : decode b_Finder_fewestParts 1 = .ok (.aload_n 1, 1) := by decide +kernel
theorem d_Finder_fewestParts_2 : decode b_Finder_fewestParts 2 = .ok (.putfield 41, 3) := by decide +kernel
theorem d_Finder_fewestParts_5 : decode b_Finder_fewestParts 5 = .ok (.aload_n 0, 1) := by decide +kernel
theorem d_Finder_fewestParts_6 : decode b_Finder_fewestParts 6 = .ok (.iload_n 2, 1) := by decide +kernel
theorem d_Finder_fewestParts_7 : decode b_Finder_fewestParts 7 = .ok (.putfield 19, 3) := by decide +kernel
theorem d_Finder_fewestParts_10 : decode b_Finder_fewestParts 10 = .ok (.aload_n 0, 1) := by decide +kernel
theorem d_Finder_fewestParts_11 : decode b_Finder_fewestParts 11 = .ok (.iconst 0, 1) := by decide +kernel
theorem d_Finder_fewestParts_12 : decode b_Finder_fewestParts 12 = .ok (.putfield 32, 3) := by decide +kernel
theorem d_Finder_fewestParts_15 : decode b_Finder_fewestParts 15 = .ok (.iconst 0, 1) := by decide +kernel
theorem d_Finder_fewestParts_16 : decode b_Finder_fewestParts 16 = .ok (.istore 5, 2) := by decide +kernel
theorem d_Finder_fewestParts_18 : decode b_Finder_fewestParts 18 = .ok (.iload 5, 2) := by decide +kernel
theorem d_Finder_fewestParts_20 : decode b_Finder_fewestParts 20 = .ok (.aload_n 0, 1) := by decide +kernel
theorem d_Finder_fewestParts_21 : decode b_Finder_fewestParts 21 = .ok (.getfield 41, 3) := by decide +kernel
theorem d_Finder_fewestParts_24 : decode b_Finder_fewestParts 24 = .ok (.getfield 45, 3) := by decide +kernel
theorem d_Finder_fewestParts_27 : decode b_Finder_fewestParts 27 = .ok (.if_icmp .ge 48, 3) := by decide +kernel
theorem d_Finder_fewestParts_30 : decode b_Finder_fewestParts 30 = .ok (.lload_n 3, 1) := by decide +kernel
theorem d_Finder_fewestParts_31 : decode b_Finder_fewestParts 31 = .ok (.iload 5, 2) := by decide +kernel
theorem d_Finder_fewestParts_33 : decode b_Finder_fewestParts 33 = .ok (.invokestatic 68, 3) := by decide +kernel
theorem d_Finder_fewestParts_36 : decode b_Finder_fewestParts 36 = .ok (.ifCond .eq 33, 3) := by decide +kernel
theorem d_Finder_fewestParts_39 : decode b_Finder_fewestParts 39 = .ok (.aload_n 0, 1) := by decide +kernel
theorem d_Finder_fewestParts_40 : decode b_Finder_fewestParts 40 = .ok (.getfield 32, 3) := by decide +kernel
theorem d_Finder_fewestParts_43 : decode b_Finder_fewestParts 43 = .ok (.bipush 10, 2) := by decide +kernel
theorem d_Finder_fewestParts_45 : decode b_Finder_fewestParts 45 = .ok (.if_icmp .ge 24, 3) := by decide +kernel
theorem d_Finder_fewestParts_48 : decode b_Finder_fewestParts 48 = .ok (.aload_n 0, 1) := by decide +kernel
theorem d_Finder_fewestParts_49 : decode b_Finder_fewestParts 49 = .ok (.getfield 26, 3) := by decide +kernel
theorem d_Finder_fewestParts_52 : decode b_Finder_fewestParts 52 = .ok (.aload_n 0, 1) := by decide +kernel
theorem d_Finder_fewestParts_53 : decode b_Finder_fewestParts 53 = .ok (.getfield 32, 3) := by decide +kernel
theorem d_Finder_fewestParts_56 : decode b_Finder_fewestParts 56 = .ok (.iload 5, 2) := by decide +kernel
theorem d_Finder_fewestParts_58 : decode b_Finder_fewestParts 58 = .ok (.iastore, 1) := by decide +kernel
theorem d_Finder_fewestParts_59 : decode b_Finder_fewestParts 59 = .ok (.aload_n 0, 1) := by decide +kernel
theorem d_Finder_fewestParts_60 : decode b_Finder_fewestParts 60 = .ok (.dup, 1) := by decide +kernel
theorem d_Finder_fewestParts_61 : decode b_Finder_fewestParts 61 = .ok (.getfield 32, 3) := by decide +kernel
theorem d_Finder_fewestParts_64 : decode b_Finder_fewestParts 64 = .ok (.iconst 1, 1) := by decide +kernel
theorem d_Finder_fewestParts_65 : decode b_Finder_fewestParts 65 = .ok (.iadd, 1) := by decide +kernel
theorem d_Finder_fewestParts_66 : decode b_Finder_fewestParts 66 = .ok (.putfield 32, 3) := by decide +kernel
theorem d_Finder_fewestParts_69 : decode b_Finder_fewestParts 69 = .ok (.iinc 5 1, 3) := by decide +kernel
theorem d_Finder_fewestParts_72 : decode b_Finder_fewestParts 72 = .ok (.goto (-54), 3) := by decide +kernel
theorem d_Finder_fewestParts_75 : decode b_Finder_fewestParts 75 = .ok (.aload_n 0, 1) := by decide +kernel
theorem d_Finder_fewestParts_76 : decode b_Finder_fewestParts 76 = .ok (.aload_n 0, 1) := by decide +kernel
theorem d_Finder_fewestParts_77 : decode b_Finder_fewestParts 77 = .ok (.getfield 32, 3) := by decide +kernel
theorem d_Finder_fewestParts_80 : decode b_Finder_fewestParts 80 = .ok (.putfield 35, 3) := by decide +kernel
theorem d_Finder_fewestParts_83 : decode b_Finder_fewestParts 83 = .ok (.aload_n 0, 1) := by decide +kernel
theorem d_Finder_fewestParts_84 : decode b_Finder_fewestParts 84 = .ok (.iconst 0, 1) := by decide +kernel
theorem d_Finder_fewestParts_85 : decode b_Finder_fewestParts 85 = .ok (.iconst 0, 1) := by decide +kernel
theorem d_Finder_fewestParts_86 : decode b_Finder_fewestParts 86 = .ok (.invokevirtual 101, 3) := by decide +kernel
theorem d_Finder_fewestParts_89 : decode b_Finder_fewestParts 89 = .ok (.aload_n 0, 1) := by decide +kernel
theorem d_Finder_fewestParts_90 : decode b_Finder_fewestParts 90 = .ok (.getfield 35, 3) := by decide +kernel
theorem d_Finder_fewestParts_93 : decode b_Finder_fewestParts 93 = .ok (.ireturn, 1) := by decide +kernel
def B_Finder_fewestParts_18 (k18 : Int64 → Int32 → Sto → Option (Int32 × Sto)) (v3 : Int64) (v5 : Int32) (σ : Sto) : Option (Int32 × Sto) :=
  (if cls (gN σ) = 4 then (if (gI σ (gN σ) 0) ≤ v5 then ((f_Finder_part 64 (0 : Int32) (0 : Int32) (sI σ 26 8 (gI σ 26 7))).bind fun q2 => some ((gI q2.2 26 8), q2.2))
 else ((f_FR_isOf v3 v5 σ).bind fun q3 => (if (b2i q3.1) = 0 then k18 v3 (v5 + (1 : Int32)) q3.2
  else (if (10 : Int32) ≤ (gI q3.2 26 7) then k18 v3 (v5 + (1 : Int32)) q3.2
   else (if inb (gI q3.2 26 7) 10 = true then (lt1 (sI (sI q3.2 29 (Int32.toNatClampNeg (gI q3.2 26 7)) v5) 26 7 ((gI (sI q3.2 29 (Int32.toNatClampNeg (gI q3.2 26 7)) v5) 26 7) + (1 : Int32))) fun σ4 => k18 v3 (v5 + (1 : Int32)) σ4) else none))))) else none)
set_option maxHeartbeats 4000000 in
set_option maxRecDepth 100000 in
theorem vB_Finder_fewestParts_18 {X : Xt} {E : En} (g : GG X E 68 b_Finder_fewestParts R_Finder 6) {k18 : Int64 → Int32 → Sto → Option (Int32 × Sto)} (hk18 : ∀ (v3 : Int64) (v5 : Int32) (σ : Sto), VV X E b_Finder_fewestParts 6 eI 18 [(0, .ref (E.2.1 26)), (3, .long v3), (5, .int v5)] [] σ (k18 v3 v5 σ)) (v3 : Int64) (v5 : Int32) (σ : Sto) : VV X E b_Finder_fewestParts 6 eI 18 [(0, .ref (E.2.1 26)), (3, .long v3), (5, .int v5)] [] σ (B_Finder_fewestParts_18 k18 v3 v5 σ) := by
  unfold B_Finder_fewestParts_18
  refine v_iload 2 g d_Finder_fewestParts_18 rfl ?_
  refine v_aload_n 0 g d_Finder_fewestParts_20 rfl ?_
  refine v_getN g ff_Finder_41 rfl rfl d_Finder_fewestParts_21 ?_
  refine v_grd _ (fun h1 => ?_)
  refine v_getI g ff_Finder_45 h1 rfl d_Finder_fewestParts_24 ?_
  refine v_icmp_ge 75 g d_Finder_fewestParts_27 (by decide) (fun _ => ?_) (fun _ => ?_)
  · refine v_aload_n 0 g d_Finder_fewestParts_75 rfl ?_
    refine v_aload_n 0 g d_Finder_fewestParts_76 rfl ?_
    refine v_getI g ff_Finder_32 rfl rfl d_Finder_fewestParts_77 ?_
    refine v_putI g fp_Finder_35 rfl rfl d_Finder_fewestParts_80 ?_
    refine v_aload_n 0 g d_Finder_fewestParts_83 rfl ?_
    refine v_iconst (v := (0 : Int32)) g d_Finder_fewestParts_84 (by decide +kernel) ?_
    refine v_iconst (v := (0 : Int32)) g d_Finder_fewestParts_85 (by decide +kernel) ?_
    refine v_callU (r_V (rest := []) [.int (0 : Int32), .int (0 : Int32)] g (m1 678 (by decide +kernel) (by decide +kernel)) yv_Finder_part rfl (fun r σ1 h => sp_Finder_part g.2.2.1 64  h) rfl rfl (by decide) (Nat.le_of_ble_eq_true rfl) d_Finder_fewestParts_86) (fun q2 => ?_)
    refine v_aload_n 0 g d_Finder_fewestParts_89 rfl ?_
    refine v_getI g ff_Finder_35 rfl rfl d_Finder_fewestParts_90 ?_
    exact v_ret d_Finder_fewestParts_93 rfl
  · refine v_lload_n 1 g d_Finder_fewestParts_30 rfl ?_
    refine v_iload 2 g d_Finder_fewestParts_31 rfl ?_
    refine v_callB (r_SN (rest := []) (host := R_FR) [.long v3, .int v5] g (by decide +kernel) ys_FR_isOf (fun r σ1 h => sp_FR_isOf g.2.2.1  h) rfl rfl (by decide) (Nat.le_of_ble_eq_true rfl) d_Finder_fewestParts_33) (fun q3 => ?_)
    refine v_if_eq 69 g d_Finder_fewestParts_36 (by decide) (fun _ => ?_) (fun _ => ?_)
    · refine v_iinc 2 [(5, .int (v5 + (1 : Int32))), (0, .ref (E.2.1 26)), (3, .long v3)] g d_Finder_fewestParts_69 rfl (v := (1 : Int32)) (by decide +kernel) (by decide) rfl ?_
      refine v_goto 18 g d_Finder_fewestParts_72 (by decide) ?_
      exact v_sub [1,2,0] rfl (hk18 v3 (v5 + (1 : Int32)) q3.2)
    · refine v_aload_n 0 g d_Finder_fewestParts_39 rfl ?_
      refine v_getI g ff_Finder_32 rfl rfl d_Finder_fewestParts_40 ?_
      refine v_bipush (v := (10 : Int32)) g d_Finder_fewestParts_43 (by decide +kernel) ?_
      refine v_icmp_ge 69 g d_Finder_fewestParts_45 (by decide) (fun _ => ?_) (fun _ => ?_)
      · refine v_iinc 2 [(5, .int (v5 + (1 : Int32))), (0, .ref (E.2.1 26)), (3, .long v3)] g d_Finder_fewestParts_69 rfl (v := (1 : Int32)) (by decide +kernel) (by decide) rfl ?_
        refine v_goto 18 g d_Finder_fewestParts_72 (by decide) ?_
        exact v_sub [1,2,0] rfl (hk18 v3 (v5 + (1 : Int32)) q3.2)
      · refine v_aload_n 0 g d_Finder_fewestParts_48 rfl ?_
        refine v_getR 29 g ff_Finder_26 rfl rfl rfl d_Finder_fewestParts_49 ?_
        refine v_aload_n 0 g d_Finder_fewestParts_52 rfl ?_
        refine v_getI g ff_Finder_32 rfl rfl d_Finder_fewestParts_53 ?_
        refine v_iload 2 g d_Finder_fewestParts_56 rfl ?_
        refine v_iast g rfl rfl d_Finder_fewestParts_58 (fun _ => ?_)
        refine v_aload_n 0 g d_Finder_fewestParts_59 rfl ?_
        refine v_dup g d_Finder_fewestParts_60 rfl ?_
        refine v_getI g ff_Finder_32 rfl rfl d_Finder_fewestParts_61 ?_
        refine v_iconst (v := (1 : Int32)) g d_Finder_fewestParts_64 (by decide +kernel) ?_
        refine v_iadd g d_Finder_fewestParts_65 ?_
        refine v_putI g fp_Finder_32 rfl rfl d_Finder_fewestParts_66 ?_
        refine v_nlet (fun σ4 eσ4 => ?_)
        rw [← eσ4]
        refine v_iinc 2 [(5, .int (v5 + (1 : Int32))), (0, .ref (E.2.1 26)), (3, .long v3)] g d_Finder_fewestParts_69 rfl (v := (1 : Int32)) (by decide +kernel) (by decide) rfl ?_
        refine v_goto 18 g d_Finder_fewestParts_72 (by decide) ?_
        exact v_sub [1,2,0] rfl (hk18 v3 (v5 + (1 : Int32)) σ4)
def L_Finder_fewestParts_18 : Nat → Int64 → Int32 → Sto → Option (Int32 × Sto)
  | 0, _, _, _ => none
  | fu + 1, v3, v5, σ => B_Finder_fewestParts_18 (L_Finder_fewestParts_18 fu) v3 v5 σ
theorem vL_Finder_fewestParts_18 {X : Xt} {E : En} (g : GG X E 68 b_Finder_fewestParts R_Finder 6) (fu : Nat) : ∀ (v3 : Int64) (v5 : Int32) (σ : Sto), VV X E b_Finder_fewestParts 6 eI 18 [(0, .ref (E.2.1 26)), (3, .long v3), (5, .int v5)] [] σ (L_Finder_fewestParts_18 fu v3 v5 σ) := by
  induction fu with
  | zero => intros; exact v_none
  | succ fu ih =>
    intro v3 v5 σ
    exact vB_Finder_fewestParts_18 g ih v3 v5 σ
def B_Finder_fewestParts_0 (a1 : Nat) (a2 : Int32) (a3 : Int64) (σ : Sto) : Option (Int32 × Sto) :=
  L_Finder_fewestParts_18 LF a3 (0 : Int32) (sI (sI (sN σ a1) 26 3 a2) 26 7 (0 : Int32))
set_option maxHeartbeats 4000000 in
set_option maxRecDepth 100000 in
theorem vB_Finder_fewestParts_0 {X : Xt} {E : En} (g : GG X E 68 b_Finder_fewestParts R_Finder 6) (a1 : Nat) (a2 : Int32) (a3 : Int64) (ha1 : cls a1 = 4) (σ : Sto) : VV X E b_Finder_fewestParts 6 eI 0 [(0, .ref (E.2.1 26)), (1, .ref (E.2.1 a1)), (2, .int a2), (3, .long a3)] [] σ (B_Finder_fewestParts_0 a1 a2 a3 σ) := by
  unfold B_Finder_fewestParts_0
  refine v_aload_n 0 g d_Finder_fewestParts_0 rfl ?_
  refine v_aload_n 1 g d_Finder_fewestParts_1 rfl ?_
  refine v_putN g fp_Finder_41 d_Finder_fewestParts_2 ?_
  refine v_aload_n 0 g d_Finder_fewestParts_5 rfl ?_
  refine v_iload_n 2 g d_Finder_fewestParts_6 rfl ?_
  refine v_putI g fp_Finder_19 rfl rfl d_Finder_fewestParts_7 ?_
  refine v_aload_n 0 g d_Finder_fewestParts_10 rfl ?_
  refine v_iconst (v := (0 : Int32)) g d_Finder_fewestParts_11 (by decide +kernel) ?_
  refine v_putI g fp_Finder_32 rfl rfl d_Finder_fewestParts_12 ?_
  refine v_iconst (v := (0 : Int32)) g d_Finder_fewestParts_15 (by decide +kernel) ?_
  refine v_istore [(5, .int (0 : Int32)), (0, .ref (E.2.1 26)), (1, .ref (E.2.1 a1)), (2, .int a2), (3, .long a3)] g d_Finder_fewestParts_16 (by decide) rfl ?_
  exact v_sub [1,4,0] rfl (vL_Finder_fewestParts_18 g LF a3 (0 : Int32) (sI (sI (sN σ a1) 26 3 a2) 26 7 (0 : Int32)))
def f_Finder_fewestParts (a1 : Nat) (a2 : Int32) (a3 : Int64) (σ : Sto) : Option (Int32 × Sto) := B_Finder_fewestParts_0 a1 a2 a3 σ
theorem sp_Finder_fewestParts {l : Launch} {E : En} (hE : Dj E) {a1 : Nat} {a2 : Int32} {a3 : Int64} (ha1 : cls a1 = 4) {σ : Sto} {r : Int32} {σ' : Sto} (h : f_Finder_fewestParts a1 a2 a3 σ = some (r, σ')) : Ct l E y_Finder_fewestParts (wsM y_Finder_fewestParts b_Finder_fewestParts 6 (some .int)) 68 [.ref (E.2.1 26), .ref (E.2.1 a1), .int a2, .long a3] σ (eI r) σ' :=
  ct_of hE (by decide +kernel) (Nat.le_of_ble_eq_true rfl) (fun x => Or.inl ⟨rfl, x, rfl⟩) (fun X _ g => vB_Finder_fewestParts_0 g a1 a2 a3 ha1 σ) r σ' h
