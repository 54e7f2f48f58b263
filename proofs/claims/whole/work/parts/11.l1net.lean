theorem ff_Net_15 : FF R_Net 15 4 1 := ⟨R_Net, T_Net, 5, rfl, in_Net, by decide, rfl, by decide, m1 110 (by decide +kernel) (by decide +kernel)⟩
theorem ff_Net_19 : FF R_Net 19 4 2 := ⟨R_Net, T_Net, 5, rfl, in_Net, by decide, rfl, by decide, m1 112 (by decide +kernel) (by decide +kernel)⟩
theorem ff_Net_22 : FF R_Net 22 4 3 := ⟨R_Net, T_Net, 5, rfl, in_Net, by decide, rfl, by decide, m1 114 (by decide +kernel) (by decide +kernel)⟩
theorem ff_Net_26 : FF R_Net 26 4 4 := ⟨R_Net, T_Net, 5, rfl, in_Net, by decide, rfl, by decide, m1 116 (by decide +kernel) (by decide +kernel)⟩
theorem ff_Net_9 : FF R_Net 9 4 0 := ⟨R_Net, T_Net, 5, rfl, in_Net, by decide, rfl, by decide, m1 104 (by decide +kernel) (by decide +kernel)⟩
theorem fp_Net_9 : FP R_Net 9 4 0 (.int) := ⟨R_Net, T_Net, 5, rfl, in_Net, by decide, rfl, by decide, m1 104 (by decide +kernel) (by decide +kernel), ⟨ty_Net, tyok_Net⟩, nm_Net, rfl, by decide +kernel⟩
/-! method FittingRings$Net.has(J)Z -/
theorem yv_Net_has : YV y_Net_has b_Net_has 3 (some .boolean) 1 4 := ⟨m1 383 (by decide +kernel) (by decide +kernel), m1 384 (by decide +kernel) (by decide +kernel), ini_Net, m1 385 (by decide +kernel) (by decide +kernel), ⟨by decide +kernel, by decide +kernel, by decide +kernel⟩, by decide, by decide, T_Net, 5, rfl⟩
theorem d_Net_has_0 : decode b_Net_has 0 = .ok (.lload_n 1, 1) := by decide +kernel
theorem d_Net_has_1 : decode b_Net_has 1 = .ok (.lconst 0, 1) := by decide +kernel
theorem d_Net_has_2 : decode b_Net_has 2 = .ok (.lcmp, 1) := by decide +kernel
theorem d_Net_has_3 : decode b_Net_has 3 = .ok (.ifCond .lt 17, 3) := by decide +kernel
theorem d_Net_has_6 : decode b_Net_has 6 = .ok (.lload_n 1, 1) := by decide +kernel
theorem d_Net_has_7 : decode b_Net_has 7 = .ok (.aload_n 0, 1) := by decide +kernel
theorem d_Net_has_8 : decode b_Net_has 8 = .ok (.getfield 9, 3) := by decide +kernel
theorem d_Net_has_11 : decode b_Net_has 11 = .ok (.i2l, 1) := by decide +kernel
theorem d_Net_has_12 : decode b_Net_has 12 = .ok (.lcmp, 1) := by decide +kernel
theorem d_Net_has_13 : decode b_Net_has 13 = .ok (.ifCond .ge 7, 3) := by decide +kernel
theorem d_Net_has_16 : decode b_Net_has 16 = .ok (.iconst 1, 1) := by decide +kernel
theorem d_Net_has_17 : decode b_Net_has 17 = .ok (.goto 4, 3) := by decide +kernel
theorem d_Net_has_20 : decode b_Net_has 20 = .ok (.iconst 0, 1) := by decide +kernel
theorem d_Net_has_21 : decode b_Net_has 21 = .ok (.ireturn, 1) := by decide +kernel
def B_Net_has_0 (n0 : Nat) (a1 : Int64) (σ : Sto) : Option (Bool × Sto) :=
  (if a1 < (0 : Int64) then some (false, σ)
 else (if (Int32.toInt64 (gI σ n0 0)) ≤ a1 then some (false, σ)
  else some (true, σ)))
set_option maxHeartbeats 4000000 in
set_option maxRecDepth 100000 in
theorem vB_Net_has_0 {X : Xt} {E : En} (g : GG X E 1 b_Net_has R_Net 3) (n0 : Nat) (a1 : Int64) (hn0 : cls n0 = 4) (σ : Sto) : VV X E b_Net_has 3 eB 0 [(0, .ref (E.2.1 n0)), (1, .long a1)] [] σ (B_Net_has_0 n0 a1 σ) := by
  unfold B_Net_has_0
  refine v_lload_n 1 g d_Net_has_0 rfl ?_
  refine v_lconst (v := (0 : Int64)) g d_Net_has_1 (by decide +kernel) ?_
  refine v_lcmp_lt 20 g d_Net_has_2 d_Net_has_3 (by decide) (fun _ => ?_) (fun _ => ?_)
  · refine v_iconst (v := (0 : Int32)) g d_Net_has_20 (by decide +kernel) ?_
    exact v_ret d_Net_has_21 rfl
  · refine v_lload_n 1 g d_Net_has_6 rfl ?_
    refine v_aload_n 0 g d_Net_has_7 rfl ?_
    refine v_getI g ff_Net_9 hn0 rfl d_Net_has_8 ?_
    refine v_i2l g d_Net_has_11 ?_
    refine v_lcmp_ge 20 g d_Net_has_12 d_Net_has_13 (by decide) (fun _ => ?_) (fun _ => ?_)
    · refine v_iconst (v := (0 : Int32)) g d_Net_has_20 (by decide +kernel) ?_
      exact v_ret d_Net_has_21 rfl
    · refine v_iconst (v := (1 : Int32)) g d_Net_has_16 (by decide +kernel) ?_
      refine v_goto 21 g d_Net_has_17 (by decide) ?_
      exact v_ret d_Net_has_21 rfl
def f_Net_has (n0 : Nat) (a1 : Int64) (σ : Sto) : Option (Bool × Sto) := B_Net_has_0 n0 a1 σ
theorem sp_Net_has {l : Launch} {E : En} (hE : Dj E) {n0 : Nat} {a1 : Int64} (hn0 : cls n0 = 4) {σ : Sto} {r : Bool} {σ' : Sto} (h : f_Net_has n0 a1 σ = some (r, σ')) : Ct l E y_Net_has (wsM y_Net_has b_Net_has 3 (some .boolean)) 1 [.ref (E.2.1 n0), .long a1] σ (eB r) σ' :=
  ct_of hE (by decide +kernel) (Nat.le_of_ble_eq_true rfl) (fun b => Or.inr (Or.inl ⟨rfl, b, rfl⟩)) (fun X _ g => vB_Net_has_0 g n0 a1 hn0 σ) r σ' h
/-! method FittingRings$Net.weigh(I)V -/
theorem yv_Net_weigh : YV y_Net_weigh b_Net_weigh 5 (none) 1 4 := ⟨m1 379 (by decide +kernel) (by decide +kernel), m1 380 (by decide +kernel) (by decide +kernel), ini_Net, m1 381 (by decide +kernel) (by decide +kernel), ⟨by decide +kernel, by decide +kernel, by decide +kernel⟩, by decide, by decide, T_Net, 5, rfl⟩
theorem d_Net_weigh_0 : decode b_Net_weigh 0 = .ok (.aload_n 0, 1) := by decide +kernel
theorem d_Net_weigh_1 : decode b_Net_weigh 1 = .ok (.iload_n 1, 1) := by decide +kernel
theorem d_Net_weigh_2 : decode b_Net_weigh 2 = .ok (.i2l, 1) := by decide +kernel
theorem d_Net_weigh_3 : decode b_Net_weigh 3 = .ok (.invokevirtual 45, 3) := by decide +kernel
theorem d_Net_weigh_6 : decode b_Net_weigh 6 = .ok (.ifCond .ne 4, 3) := by decide +kernel
theorem d_Net_weigh_9 : decode b_Net_weigh 9 = .ok (.return_, 1) := by decide +kernel
theorem d_Net_weigh_10 : decode b_Net_weigh 10 = .ok (.aload_n 0, 1) := by decide +kernel
theorem d_Net_weigh_11 : decode b_Net_weigh 11 = .ok (.getfield 19, 3) := by decide +kernel
theorem d_Net_weigh_14 : decode b_Net_weigh 14 = .ok (.iload_n 1, 1) := by decide +kernel
theorem d_Net_weigh_15 : decode b_Net_weigh 15 = .ok (.iaload, 1) := by decide +kernel
theorem d_Net_weigh_16 : decode b_Net_weigh 16 = .ok (.istore_n 2, 1) := by decide +kernel
theorem d_Net_weigh_17 : decode b_Net_weigh 17 = .ok (.aload_n 0, 1) := by decide +kernel
theorem d_Net_weigh_18 : decode b_Net_weigh 18 = .ok (.getfield 22, 3) := by decide +kernel
theorem d_Net_weigh_21 : decode b_Net_weigh 21 = .ok (.iload_n 1, 1) := by decide +kernel
theorem d_Net_weigh_22 : decode b_Net_weigh 22 = .ok (.laload, 1) := by decide +kernel
theorem d_Net_weigh_23 : decode b_Net_weigh 23 = .ok (.invokestatic 61, 3) := by decide +kernel
theorem d_Net_weigh_26 : decode b_Net_weigh 26 = .ok (.istore_n 3, 1) := by decide +kernel
theorem d_Net_weigh_27 : decode b_Net_weigh 27 = .ok (.iload_n 2, 1) := by decide +kernel
theorem d_Net_weigh_28 : decode b_Net_weigh 28 = .ok (.istore 4, 2) := by decide +kernel
theorem d_Net_weigh_30 : decode b_Net_weigh 30 = .ok (.aload_n 0, 1) := by decide +kernel
theorem d_Net_weigh_31 : decode b_Net_weigh 31 = .ok (.getfield 15, 3) := by decide +kernel
theorem d_Net_weigh_34 : decode b_Net_weigh 34 = .ok (.iload_n 1, 1) := by decide +kernel
theorem d_Net_weigh_35 : decode b_Net_weigh 35 = .ok (.iaload, 1) := by decide +kernel
theorem d_Net_weigh_36 : decode b_Net_weigh 36 = .ok (.tableswitch 94 1 5 #[36, 44, 56, 66, 80], 36) := by decide +kernel
theorem d_Net_weigh_72 : decode b_Net_weigh 72 = .ok (.iconst 2, 1) := by decide +kernel
theorem d_Net_weigh_73 : decode b_Net_weigh 73 = .ok (.iload_n 2, 1) := by decide +kernel
theorem d_Net_weigh_74 : decode b_Net_weigh 74 = .ok (.imul, 1) := by decide +kernel
theorem d_Net_weigh_75 : decode b_Net_weigh 75 = .ok (.istore 4, 2) := by decide +kernel
theorem d_Net_weigh_77 : decode b_Net_weigh 77 = .ok (.goto 53, 3) := by decide +kernel
theorem d_Net_weigh_80 : decode b_Net_weigh 80 = .ok (.iconst 0, 1) := by decide +kernel
theorem d_Net_weigh_81 : decode b_Net_weigh 81 = .ok (.iload_n 2, 1) := by decide +kernel
theorem d_Net_weigh_82 : decode b_Net_weigh 82 = .ok (.iload_n 3, 1) := by decide +kernel
theorem d_Net_weigh_83 : decode b_Net_weigh 83 = .ok (.isub, 1) := by decide +kernel
theorem d_Net_weigh_84 : decode b_Net_weigh 84 = .ok (.invokestatic 67, 3) := by decide +kernel
theorem d_Net_weigh_87 : decode b_Net_weigh 87 = .ok (.istore 4, 2) := by decide +kernel
theorem d_Net_weigh_89 : decode b_Net_weigh 89 = .ok (.goto 41, 3) := by decide +kernel
theorem d_Net_weigh_92 : decode b_Net_weigh 92 = .ok (.iconst 2, 1) := by decide +kernel
theorem d_Net_weigh_93 : decode b_Net_weigh 93 = .ok (.iload_n 2, 1) := by decide +kernel
theorem d_Net_weigh_94 : decode b_Net_weigh 94 = .ok (.imul, 1) := by decide +kernel
theorem d_Net_weigh_95 : decode b_Net_weigh 95 = .ok (.iload_n 3, 1) := by decide +kernel
theorem d_Net_weigh_96 : decode b_Net_weigh 96 = .ok (.iadd, 1) := by decide +kernel
theorem d_Net_weigh_97 : decode b_Net_weigh 97 = .ok (.istore 4, 2) := by decide +kernel
theorem d_Net_weigh_99 : decode b_Net_weigh 99 = .ok (.goto 31, 3) := by decide +kernel
theorem d_Net_weigh_102 : decode b_Net_weigh 102 = .ok (.iconst 0, 1) := by decide +kernel
theorem d_Net_weigh_103 : decode b_Net_weigh 103 = .ok (.iload_n 2, 1) := by decide +kernel
theorem d_Net_weigh_104 : decode b_Net_weigh 104 = .ok (.iload_n 3, 1) := by decide +kernel
theorem d_Net_weigh_105 : decode b_Net_weigh 105 = .ok (.isub, 1) := by decide +kernel
theorem d_Net_weigh_106 : decode b_Net_weigh 106 = .ok (.invokestatic 67, 3) := by decide +kernel
theorem d_Net_weigh_109 : decode b_Net_weigh 109 = .ok (.iconst 2, 1) := by decide +kernel
theorem d_Net_weigh_110 : decode b_Net_weigh 110 = .ok (.idiv, 1) := by decide +kernel
theorem d_Net_weigh_111 : decode b_Net_weigh 111 = .ok (.istore 4, 2) := by decide +kernel
theorem d_Net_weigh_113 : decode b_Net_weigh 113 = .ok (.goto 17, 3) := by decide +kernel
theorem d_Net_weigh_116 : decode b_Net_weigh 116 = .ok (.iload_n 3, 1) := by decide +kernel
theorem d_Net_weigh_117 : decode b_Net_weigh 117 = .ok (.ifCond .ne 7, 3) := by decide +kernel
theorem d_Net_weigh_120 : decode b_Net_weigh 120 = .ok (.iload_n 2, 1) := by decide +kernel
theorem d_Net_weigh_121 : decode b_Net_weigh 121 = .ok (.goto 4, 3) := by decide +kernel
theorem d_Net_weigh_124 : decode b_Net_weigh 124 = .ok (.iconst 1, 1) := by decide +kernel
theorem d_Net_weigh_125 : decode b_Net_weigh 125 = .ok (.istore 4, 2) := by decide +kernel
theorem d_Net_weigh_127 : decode b_Net_weigh 127 = .ok (.goto 3, 3) := by decide +kernel
theorem d_Net_weigh_130 : decode b_Net_weigh 130 = .ok (.aload_n 0, 1) := by decide +kernel
theorem d_Net_weigh_131 : decode b_Net_weigh 131 = .ok (.getfield 26, 3) := by decide +kernel
theorem d_Net_weigh_134 : decode b_Net_weigh 134 = .ok (.iload_n 1, 1) := by decide +kernel
theorem d_Net_weigh_135 : decode b_Net_weigh 135 = .ok (.iload 4, 2) := by decide +kernel
theorem d_Net_weigh_137 : decode b_Net_weigh 137 = .ok (.iastore, 1) := by decide +kernel
theorem d_Net_weigh_138 : decode b_Net_weigh 138 = .ok (.return_, 1) := by decide +kernel
def B_Net_weigh_0 (n0 : Nat) (a1 : Int32) (σ : Sto) : Option (Unit × Sto) :=
  ((f_Net_has n0 (Int32.toInt64 a1) σ).bind fun q1 => (if (b2i q1.1) = 0 then some ((), q1.2)
 else (if inb a1 40 = true then (lt1 (gI q1.2 (n0 + 2) (Int32.toNatClampNeg a1)) fun x2 => (if inb a1 40 = true then ((f_JLong_bitCount (gL q1.2 (n0 + 3) (Int32.toNatClampNeg a1)) q1.2).bind fun q3 => (if inb a1 40 = true then (if (gI q3.2 (n0 + 1) (Int32.toNatClampNeg a1)) = (1 : Int32) then (if inb a1 40 = true then (lt1 (sI q3.2 (n0 + 4) (Int32.toNatClampNeg a1) ((2 : Int32) * x2)) fun σ4 => some ((), σ4)) else none)
  else (if (gI q3.2 (n0 + 1) (Int32.toNatClampNeg a1)) = (2 : Int32) then (lt1 (mxI (0 : Int32) (x2 - q3.1)) fun x5 => (if inb a1 40 = true then some ((), (sI q3.2 (n0 + 4) (Int32.toNatClampNeg a1) x5)) else none))
   else (if (gI q3.2 (n0 + 1) (Int32.toNatClampNeg a1)) = (3 : Int32) then (lt1 (((2 : Int32) * x2) + q3.1) fun x6 => (if inb a1 40 = true then some ((), (sI q3.2 (n0 + 4) (Int32.toNatClampNeg a1) x6)) else none))
    else (if (gI q3.2 (n0 + 1) (Int32.toNatClampNeg a1)) = (4 : Int32) then (if ¬ (2 : Int32) = 0 then (lt1 ((mxI (0 : Int32) (x2 - q3.1)) / (2 : Int32)) fun x7 => (if inb a1 40 = true then some ((), (sI q3.2 (n0 + 4) (Int32.toNatClampNeg a1) x7)) else none)) else none)
     else (if (gI q3.2 (n0 + 1) (Int32.toNatClampNeg a1)) = (5 : Int32) then (if q3.1 = 0 then (if inb a1 40 = true then some ((), (sI q3.2 (n0 + 4) (Int32.toNatClampNeg a1) x2)) else none)
       else (if inb a1 40 = true then some ((), (sI q3.2 (n0 + 4) (Int32.toNatClampNeg a1) (1 : Int32))) else none))
      else (if inb a1 40 = true then some ((), (sI q3.2 (n0 + 4) (Int32.toNatClampNeg a1) x2)) else none)))))) else none)) else none)) else none)))
set_option maxHeartbeats 4000000 in
set_option maxRecDepth 100000 in
theorem vB_Net_weigh_0 {X : Xt} {E : En} (g : GG X E 2 b_Net_weigh R_Net 5) (n0 : Nat) (a1 : Int32) (hn0 : cls n0 = 4) (σ : Sto) : VV X E b_Net_weigh 5 eU 0 [(0, .ref (E.2.1 n0)), (1, .int a1)] [] σ (B_Net_weigh_0 n0 a1 σ) := by
  unfold B_Net_weigh_0
  refine v_aload_n 0 g d_Net_weigh_0 rfl ?_
  refine v_iload_n 1 g d_Net_weigh_1 rfl ?_
  refine v_i2l g d_Net_weigh_2 ?_
  refine v_callB (r_V (rest := []) [.long (Int32.toInt64 a1)] g (m1 382 (by decide +kernel) (by decide +kernel)) yv_Net_has hn0 (fun r σ1 h => sp_Net_has g.2.2.1 hn0 h) rfl rfl (by decide) (Nat.le_of_ble_eq_true rfl) d_Net_weigh_3) (fun q1 => ?_)
  refine v_if_ne 10 g d_Net_weigh_6 (by decide) (fun _ => ?_) (fun _ => ?_)
  · refine v_aload_n 0 g d_Net_weigh_10 rfl ?_
    refine v_getR (n0 + 2) g ff_Net_19 hn0 rfl (rf_Net_2 hn0) d_Net_weigh_11 ?_
    refine v_iload_n 1 g d_Net_weigh_14 rfl ?_
    refine v_iald g (ar_Net_2 hn0).1 (ar_Net_2 hn0).2 d_Net_weigh_15 (fun _ => ?_)
    refine v_nlet (fun x2 ex2 => ?_)
    rw [← ex2]
    refine v_istore_n [(2, .int x2), (0, .ref (E.2.1 n0)), (1, .int a1)] g d_Net_weigh_16 (by decide) rfl ?_
    refine v_aload_n 1 g d_Net_weigh_17 rfl ?_
    refine v_getR (n0 + 3) g ff_Net_22 hn0 rfl (rf_Net_3 hn0) d_Net_weigh_18 ?_
    refine v_iload_n 2 g d_Net_weigh_21 rfl ?_
    refine v_lald g (ar_Net_3 hn0).1 (ar_Net_3 hn0).2 d_Net_weigh_22 (fun _ => ?_)
    refine v_callI (r_S (rest := []) [.long (gL q1.2 (n0 + 3) (Int32.toNatClampNeg a1))] g (m1 386 (by decide +kernel) (by decide +kernel)) ys_JLong_bitCount (fun r σ1 h => sp_JLong_bitCount g.2.2.1  h) rfl rfl (by decide) (Nat.le_of_ble_eq_true rfl) d_Net_weigh_23) (fun q3 => ?_)
    refine v_istore_n [(3, .int q3.1), (2, .int x2), (0, .ref (E.2.1 n0)), (1, .int a1)] g d_Net_weigh_26 (by decide) rfl ?_
    refine v_iload_n 1 g d_Net_weigh_27 rfl ?_
    refine v_istore [(4, .int x2), (3, .int q3.1), (2, .int x2), (0, .ref (E.2.1 n0)), (1, .int a1)] g d_Net_weigh_28 (by decide) rfl ?_
    refine v_aload_n 3 g d_Net_weigh_30 rfl ?_
    refine v_getR (n0 + 1) g ff_Net_15 hn0 rfl (rf_Net_1 hn0) d_Net_weigh_31 ?_
    refine v_iload_n 4 g d_Net_weigh_34 rfl ?_
    refine v_iald g (ar_Net_1 hn0).1 (ar_Net_1 hn0).2 d_Net_weigh_35 (fun _ => ?_)
    refine v_ite _ (fun h_0 => ?_) (fun h_0 => ?_)
    · refine v_tableIn 72 g d_Net_weigh_36 (by rw [h_0]; decide +kernel) (by rw [h_0]; decide +kernel) (off := 36) (by rw [h_0]; decide +kernel) (by decide) ?_
      refine v_iconst (v := (2 : Int32)) g d_Net_weigh_72 (by decide +kernel) ?_
      refine v_iload_n 2 g d_Net_weigh_73 rfl ?_
      refine v_imul g d_Net_weigh_74 ?_
      refine v_istore [(4, .int ((2 : Int32) * x2)), (3, .int q3.1), (2, .int x2), (0, .ref (E.2.1 n0)), (1, .int a1)] g d_Net_weigh_75 (by decide) rfl ?_
      refine v_goto 130 g d_Net_weigh_77 (by decide) ?_
      refine v_aload_n 3 g d_Net_weigh_130 rfl ?_
      refine v_getR (n0 + 4) g ff_Net_26 hn0 rfl (rf_Net_4 hn0) d_Net_weigh_131 ?_
      refine v_iload_n 4 g d_Net_weigh_134 rfl ?_
      refine v_iload 0 g d_Net_weigh_135 rfl ?_
      refine v_iast g (ar_Net_4 hn0).1 (ar_Net_4 hn0).2 d_Net_weigh_137 (fun _ => ?_)
      refine v_nlet (fun σ4 eσ4 => ?_)
      rw [← eσ4]
      exact v_ret d_Net_weigh_138 rfl
    · refine v_ite _ (fun h_1 => ?_) (fun h_1 => ?_)
      · refine v_tableIn 80 g d_Net_weigh_36 (by rw [h_1]; decide +kernel) (by rw [h_1]; decide +kernel) (off := 44) (by rw [h_1]; decide +kernel) (by decide) ?_
        refine v_iconst (v := (0 : Int32)) g d_Net_weigh_80 (by decide +kernel) ?_
        refine v_iload_n 2 g d_Net_weigh_81 rfl ?_
        refine v_iload_n 1 g d_Net_weigh_82 rfl ?_
        refine v_isub g d_Net_weigh_83 ?_
        refine v_mmax g (m1 392 (by decide +kernel) (by decide +kernel)) (by decide) (Nat.le_of_ble_eq_true rfl) d_Net_weigh_84 ?_
        refine v_nlet (fun x5 ex5 => ?_)
        rw [← ex5]
        refine v_istore [(4, .int x5), (3, .int q3.1), (2, .int x2), (0, .ref (E.2.1 n0)), (1, .int a1)] g d_Net_weigh_87 (by decide) rfl ?_
        refine v_goto 130 g d_Net_weigh_89 (by decide) ?_
        refine v_aload_n 3 g d_Net_weigh_130 rfl ?_
        refine v_getR (n0 + 4) g ff_Net_26 hn0 rfl (rf_Net_4 hn0) d_Net_weigh_131 ?_
        refine v_iload_n 4 g d_Net_weigh_134 rfl ?_
        refine v_iload 0 g d_Net_weigh_135 rfl ?_
        refine v_iast g (ar_Net_4 hn0).1 (ar_Net_4 hn0).2 d_Net_weigh_137 (fun _ => ?_)
        exact v_ret d_Net_weigh_138 rfl
      · refine v_ite _ (fun h_2 => ?_) (fun h_2 => ?_)
        · refine v_tableIn 92 g d_Net_weigh_36 (by rw [h_2]; decide +kernel) (by rw [h_2]; decide +kernel) (off := 56) (by rw [h_2]; decide +kernel) (by decide) ?_
          refine v_iconst (v := (2 : Int32)) g d_Net_weigh_92 (by decide +kernel) ?_
          refine v_iload_n 2 g d_Net_weigh_93 rfl ?_
          refine v_imul g d_Net_weigh_94 ?_
          refine v_iload_n 1 g d_Net_weigh_95 rfl ?_
          refine v_iadd g d_Net_weigh_96 ?_
          refine v_nlet (fun x6 ex6 => ?_)
          rw [← ex6]
          refine v_istore [(4, .int x6), (3, .int q3.1), (2, .int x2), (0, .ref (E.2.1 n0)), (1, .int a1)] g d_Net_weigh_97 (by decide) rfl ?_
          refine v_goto 130 g d_Net_weigh_99 (by decide) ?_
          refine v_aload_n 3 g d_Net_weigh_130 rfl ?_
          refine v_getR (n0 + 4) g ff_Net_26 hn0 rfl (rf_Net_4 hn0) d_Net_weigh_131 ?_
          refine v_iload_n 4 g d_Net_weigh_134 rfl ?_
          refine v_iload 0 g d_Net_weigh_135 rfl ?_
          refine v_iast g (ar_Net_4 hn0).1 (ar_Net_4 hn0).2 d_Net_weigh_137 (fun _ => ?_)
          exact v_ret d_Net_weigh_138 rfl
        · refine v_ite _ (fun h_3 => ?_) (fun h_3 => ?_)
          · refine v_tableIn 102 g d_Net_weigh_36 (by rw [h_3]; decide +kernel) (by rw [h_3]; decide +kernel) (off := 66) (by rw [h_3]; decide +kernel) (by decide) ?_
            refine v_iconst (v := (0 : Int32)) g d_Net_weigh_102 (by decide +kernel) ?_
            refine v_iload_n 2 g d_Net_weigh_103 rfl ?_
            refine v_iload_n 1 g d_Net_weigh_104 rfl ?_
            refine v_isub g d_Net_weigh_105 ?_
            refine v_mmax g (m1 392 (by decide +kernel) (by decide +kernel)) (by decide) (Nat.le_of_ble_eq_true rfl) d_Net_weigh_106 ?_
            refine v_iconst (v := (2 : Int32)) g d_Net_weigh_109 (by decide +kernel) ?_
            refine v_idiv g d_Net_weigh_110 (fun _ => ?_)
            refine v_nlet (fun x7 ex7 => ?_)
            rw [← ex7]
            refine v_istore [(4, .int x7), (3, .int q3.1), (2, .int x2), (0, .ref (E.2.1 n0)), (1, .int a1)] g d_Net_weigh_111 (by decide) rfl ?_
            refine v_goto 130 g d_Net_weigh_113 (by decide) ?_
            refine v_aload_n 3 g d_Net_weigh_130 rfl ?_
            refine v_getR (n0 + 4) g ff_Net_26 hn0 rfl (rf_Net_4 hn0) d_Net_weigh_131 ?_
            refine v_iload_n 4 g d_Net_weigh_134 rfl ?_
            refine v_iload 0 g d_Net_weigh_135 rfl ?_
            refine v_iast g (ar_Net_4 hn0).1 (ar_Net_4 hn0).2 d_Net_weigh_137 (fun _ => ?_)
            exact v_ret d_Net_weigh_138 rfl
          · refine v_ite _ (fun h_4 => ?_) (fun h_4 => ?_)
            · refine v_tableIn 116 g d_Net_weigh_36 (by rw [h_4]; decide +kernel) (by rw [h_4]; decide +kernel) (off := 80) (by rw [h_4]; decide +kernel) (by decide) ?_
              refine v_iload_n 1 g d_Net_weigh_116 rfl ?_
              refine v_if_ne 124 g d_Net_weigh_117 (by decide) (fun _ => ?_) (fun _ => ?_)
              · refine v_iconst (v := (1 : Int32)) g d_Net_weigh_124 (by decide +kernel) ?_
                refine v_istore [(4, .int (1 : Int32)), (3, .int q3.1), (2, .int x2), (0, .ref (E.2.1 n0)), (1, .int a1)] g d_Net_weigh_125 (by decide) rfl ?_
                refine v_goto 130 g d_Net_weigh_127 (by decide) ?_
                refine v_aload_n 3 g d_Net_weigh_130 rfl ?_
                refine v_getR (n0 + 4) g ff_Net_26 hn0 rfl (rf_Net_4 hn0) d_Net_weigh_131 ?_
                refine v_iload_n 4 g d_Net_weigh_134 rfl ?_
                refine v_iload 0 g d_Net_weigh_135 rfl ?_
                refine v_iast g (ar_Net_4 hn0).1 (ar_Net_4 hn0).2 d_Net_weigh_137 (fun _ => ?_)
                exact v_ret d_Net_weigh_138 rfl
              · refine v_iload_n 2 g d_Net_weigh_120 rfl ?_
                refine v_goto 125 g d_Net_weigh_121 (by decide) ?_
                refine v_istore [(4, .int x2), (3, .int q3.1), (2, .int x2), (0, .ref (E.2.1 n0)), (1, .int a1)] g d_Net_weigh_125 (by decide) rfl ?_
                refine v_goto 130 g d_Net_weigh_127 (by decide) ?_
                refine v_aload_n 3 g d_Net_weigh_130 rfl ?_
                refine v_getR (n0 + 4) g ff_Net_26 hn0 rfl (rf_Net_4 hn0) d_Net_weigh_131 ?_
                refine v_iload_n 4 g d_Net_weigh_134 rfl ?_
                refine v_iload 0 g d_Net_weigh_135 rfl ?_
                refine v_iast g (ar_Net_4 hn0).1 (ar_Net_4 hn0).2 d_Net_weigh_137 (fun _ => ?_)
                exact v_ret d_Net_weigh_138 rfl
            · refine v_tableOut 130 g d_Net_weigh_36 (by have n0 := sw_ne h_0 (show ((1 : Int32)).toInt = 1 by decide +kernel); have n1 := sw_ne h_1 (show ((2 : Int32)).toInt = 2 by decide +kernel); have n2 := sw_ne h_2 (show ((3 : Int32)).toInt = 3 by decide +kernel); have n3 := sw_ne h_3 (show ((4 : Int32)).toInt = 4 by decide +kernel); have n4 := sw_ne h_4 (show ((5 : Int32)).toInt = 5 by decide +kernel); omega) (by decide) ?_
              refine v_aload_n 3 g d_Net_weigh_130 rfl ?_
              refine v_getR (n0 + 4) g ff_Net_26 hn0 rfl (rf_Net_4 hn0) d_Net_weigh_131 ?_
              refine v_iload_n 4 g d_Net_weigh_134 rfl ?_
              refine v_iload 0 g d_Net_weigh_135 rfl ?_
              refine v_iast g (ar_Net_4 hn0).1 (ar_Net_4 hn0).2 d_Net_weigh_137 (fun _ => ?_)
              exact v_ret d_Net_weigh_138 rfl
  · exact v_ret d_Net_weigh_9 rfl
def f_Net_weigh (n0 : Nat) (a1 : Int32) (σ : Sto) : Option (Unit × Sto) := B_Net_weigh_0 n0 a1 σ
theorem sp_Net_weigh {l : Launch} {E : En} (hE : Dj E) {n0 : Nat} {a1 : Int32} (hn0 : cls n0 = 4) {σ : Sto} {r : Unit} {σ' : Sto} (h : f_Net_weigh n0 a1 σ = some (r, σ')) : Ct l E y_Net_weigh (wsM y_Net_weigh b_Net_weigh 5 (none)) 2 [.ref (E.2.1 n0), .int a1] σ (eU r) σ' :=
  ct_of hE (by decide +kernel) (Nat.le_of_ble_eq_true rfl) (fun _ => Or.inr (Or.inr (Or.inr (Or.inl ⟨rfl, rfl⟩)))) (fun X _ g => vB_Net_weigh_0 g n0 a1 hn0 σ) r σ' h
/-! method FittingRings$Net.add(II)I -/
theorem yv_Net_add : YV y_Net_add b_Net_add 3 (some .int) 2 4 := ⟨m1 375 (by decide +kernel) (by decide +kernel), m1 376 (by decide +kernel) (by decide +kernel), ini_Net, m1 377 (by decide +kernel) (by decide +kernel), ⟨by decide +kernel, by decide +kernel, by decide +kernel⟩, by decide, by decide, T_Net, 5, rfl⟩
theorem d_Net_add_0 : decode b_Net_add 0 = .ok (.aload_n 0, 1) := by decide +kernel
theorem d_Net_add_1 : decode b_Net_add 1 = .ok (.getfield 9, 3) := by decide +kernel
theorem d_Net_add_4 : decode b_Net_add 4 = .ok (.bipush 40, 2) := by decide +kernel
theorem d_Net_add_6 : decode b_Net_add 6 = .ok (.if_icmp .lt 6, 3) := by decide +kernel
theorem d_Net_add_9 : decode b_Net_add 9 = .ok (.bipush (-4), 2) := by decide +kernel
theorem d_Net_add_11 : decode b_Net_add 11 = .ok (.ireturn, 1) := by decide +kernel
theorem d_Net_add_12 : decode b_Net_add 12 = .ok (.aload_n 0, 1) := by decide +kernel
theorem d_Net_add_13 : decode b_Net_add 13 = .ok (.getfield 15, 3) := by decide +kernel
theorem d_Net_add_16 : decode b_Net_add 16 = .ok (.aload_n 0, 1) := by decide +kernel
theorem d_Net_add_17 : decode b_Net_add 17 = .ok (.getfield 9, 3) := by decide +kernel
theorem d_Net_add_20 : decode b_Net_add 20 = .ok (.iload_n 1, 1) := by decide +kernel
theorem d_Net_add_21 : decode b_Net_add 21 = .ok (.iastore, 1) := by decide +kernel
theorem d_Net_add_22 : decode b_Net_add 22 = .ok (.aload_n 0, 1) := by decide +kernel
theorem d_Net_add_23 : decode b_Net_add 23 = .ok (.getfield 19, 3) := by decide +kernel
theorem d_Net_add_26 : decode b_Net_add 26 = .ok (.aload_n 0, 1) := by decide +kernel
theorem d_Net_add_27 : decode b_Net_add 27 = .ok (.getfield 9, 3) := by decide +kernel
theorem d_Net_add_30 : decode b_Net_add 30 = .ok (.iload_n 2, 1) := by decide +kernel
theorem d_Net_add_31 : decode b_Net_add 31 = .ok (.iastore, 1) := by decide +kernel
theorem d_Net_add_32 : decode b_Net_add 32 = .ok (.aload_n 0, 1) := by decide +kernel
theorem d_Net_add_33 : decode b_Net_add 33 = .ok (.getfield 22, 3) := by decide +kernel
theorem d_Net_add_36 : decode b_Net_add 36 = .ok (.aload_n 0, 1) := by decide +kernel
theorem d_Net_add_37 : decode b_Net_add 37 = .ok (.getfield 9, 3) := by decide +kernel
theorem d_Net_add_40 : decode b_Net_add 40 = .ok (.lconst 0, 1) := by decide +kernel
theorem d_Net_add_41 : decode b_Net_add 41 = .ok (.lastore, 1) := by decide +kernel
theorem d_Net_add_42 : decode b_Net_add 42 = .ok (.aload_n 0, 1) := by decide +kernel
theorem d_Net_add_43 : decode b_Net_add 43 = .ok (.dup, 1) := by decide +kernel
theorem d_Net_add_44 : decode b_Net_add 44 = .ok (.getfield 9, 3) := by decide +kernel
theorem d_Net_add_47 : decode b_Net_add 47 = .ok (.iconst 1, 1) := by decide +kernel
theorem d_Net_add_48 : decode b_Net_add 48 = .ok (.iadd, 1) := by decide +kernel
theorem d_Net_add_49 : decode b_Net_add 49 = .ok (.putfield 9, 3) := by decide +kernel
theorem d_Net_add_52 : decode b_Net_add 52 = .ok (.aload_n 0, 1) := by decide +kernel
theorem d_Net_add_53 : decode b_Net_add 53 = .ok (.aload_n 0, 1) := by decide +kernel
theorem d_Net_add_54 : decode b_Net_add 54 = .ok (.getfield 9, 3) := by decide +kernel
theorem d_Net_add_57 : decode b_Net_add 57 = .ok (.iconst 1, 1) := by decide +kernel
theorem d_Net_add_58 : decode b_Net_add 58 = .ok (.isub, 1) := by decide +kernel
theorem d_Net_add_59 : decode b_Net_add 59 = .ok (.invokevirtual 35, 3) := by decide +kernel
theorem d_Net_add_62 : decode b_Net_add 62 = .ok (.aload_n 0, 1) := by decide +kernel
theorem d_Net_add_63 : decode b_Net_add 63 = .ok (.getfield 9, 3) := by decide +kernel
theorem d_Net_add_66 : decode b_Net_add 66 = .ok (.iconst 1, 1) := by decide +kernel
theorem d_Net_add_67 : decode b_Net_add 67 = .ok (.isub, 1) := by decide +kernel
theorem d_Net_add_68 : decode b_Net_add 68 = .ok (.ireturn, 1) := by decide +kernel
def B_Net_add_0 (n0 : Nat) (a1 : Int32) (a2 : Int32) (σ : Sto) : Option (Int32 × Sto) :=
  (if (gI σ n0 0) < (40 : Int32) then (if inb (gI σ n0 0) 40 = true then (if inb (gI (sI σ (n0 + 1) (Int32.toNatClampNeg (gI σ n0 0)) a1) n0 0) 40 = true then (lt1 (sI (sI σ (n0 + 1) (Int32.toNatClampNeg (gI σ n0 0)) a1) (n0 + 2) (Int32.toNatClampNeg (gI (sI σ (n0 + 1) (Int32.toNatClampNeg (gI σ n0 0)) a1) n0 0)) a2) fun σ1 => (if inb (gI σ1 n0 0) 40 = true then (lt1 (sL σ1 (n0 + 3) (Int32.toNatClampNeg (gI σ1 n0 0)) (0 : Int64)) fun σ2 => ((f_Net_weigh n0 ((gI (sI σ2 n0 0 ((gI σ2 n0 0) + (1 : Int32))) n0 0) - (1 : Int32)) (sI σ2 n0 0 ((gI σ2 n0 0) + (1 : Int32)))).bind fun q3 => some (((gI q3.2 n0 0) - (1 : Int32)), q3.2))) else none)) else none) else none)
 else some ((-4 : Int32), σ))
set_option maxHeartbeats 4000000 in
set_option maxRecDepth 100000 in
theorem vB_Net_add_0 {X : Xt} {E : En} (g : GG X E 3 b_Net_add R_Net 3) (n0 : Nat) (a1 : Int32) (a2 : Int32) (hn0 : cls n0 = 4) (σ : Sto) : VV X E b_Net_add 3 eI 0 [(0, .ref (E.2.1 n0)), (1, .int a1), (2, .int a2)] [] σ (B_Net_add_0 n0 a1 a2 σ) := by
  unfold B_Net_add_0
  refine v_aload_n 0 g d_Net_add_0 rfl ?_
  refine v_getI g ff_Net_9 hn0 rfl d_Net_add_1 ?_
  refine v_bipush (v := (40 : Int32)) g d_Net_add_4 (by decide +kernel) ?_
  refine v_icmp_lt 12 g d_Net_add_6 (by decide) (fun _ => ?_) (fun _ => ?_)
  · refine v_aload_n 0 g d_Net_add_12 rfl ?_
    refine v_getR (n0 + 1) g ff_Net_15 hn0 rfl (rf_Net_1 hn0) d_Net_add_13 ?_
    refine v_aload_n 0 g d_Net_add_16 rfl ?_
    refine v_getI g ff_Net_9 hn0 rfl d_Net_add_17 ?_
    refine v_iload_n 1 g d_Net_add_20 rfl ?_
    refine v_iast g (ar_Net_1 hn0).1 (ar_Net_1 hn0).2 d_Net_add_21 (fun _ => ?_)
    refine v_aload_n 0 g d_Net_add_22 rfl ?_
    refine v_getR (n0 + 2) g ff_Net_19 hn0 rfl (rf_Net_2 hn0) d_Net_add_23 ?_
    refine v_aload_n 0 g d_Net_add_26 rfl ?_
    refine v_getI g ff_Net_9 hn0 rfl d_Net_add_27 ?_
    refine v_iload_n 2 g d_Net_add_30 rfl ?_
    refine v_iast g (ar_Net_2 hn0).1 (ar_Net_2 hn0).2 d_Net_add_31 (fun _ => ?_)
    refine v_nlet (fun σ1 eσ1 => ?_)
    rw [← eσ1]
    refine v_aload_n 0 g d_Net_add_32 rfl ?_
    refine v_getR (n0 + 3) g ff_Net_22 hn0 rfl (rf_Net_3 hn0) d_Net_add_33 ?_
    refine v_aload_n 0 g d_Net_add_36 rfl ?_
    refine v_getI g ff_Net_9 hn0 rfl d_Net_add_37 ?_
    refine v_lconst (v := (0 : Int64)) g d_Net_add_40 (by decide +kernel) ?_
    refine v_last g (ar_Net_3 hn0).1 (ar_Net_3 hn0).2 d_Net_add_41 (fun _ => ?_)
    refine v_nlet (fun σ2 eσ2 => ?_)
    rw [← eσ2]
    refine v_aload_n 0 g d_Net_add_42 rfl ?_
    refine v_dup g d_Net_add_43 rfl ?_
    refine v_getI g ff_Net_9 hn0 rfl d_Net_add_44 ?_
    refine v_iconst (v := (1 : Int32)) g d_Net_add_47 (by decide +kernel) ?_
    refine v_iadd g d_Net_add_48 ?_
    refine v_putI g fp_Net_9 hn0 rfl d_Net_add_49 ?_
    refine v_aload_n 0 g d_Net_add_52 rfl ?_
    refine v_aload_n 0 g d_Net_add_53 rfl ?_
    refine v_getI g ff_Net_9 hn0 rfl d_Net_add_54 ?_
    refine v_iconst (v := (1 : Int32)) g d_Net_add_57 (by decide +kernel) ?_
    refine v_isub g d_Net_add_58 ?_
    refine v_callU (r_V (rest := []) [.int ((gI (sI σ2 n0 0 ((gI σ2 n0 0) + (1 : Int32))) n0 0) - (1 : Int32))] g (m1 378 (by decide +kernel) (by decide +kernel)) yv_Net_weigh hn0 (fun r σ1 h => sp_Net_weigh g.2.2.1 hn0 h) rfl rfl (by decide) (Nat.le_of_ble_eq_true rfl) d_Net_add_59) (fun q3 => ?_)
    refine v_aload_n 0 g d_Net_add_62 rfl ?_
    refine v_getI g ff_Net_9 hn0 rfl d_Net_add_63 ?_
    refine v_iconst (v := (1 : Int32)) g d_Net_add_66 (by decide +kernel) ?_
    refine v_isub g d_Net_add_67 ?_
    exact v_ret d_Net_add_68 rfl
  · refine v_bipush (v := (-4 : Int32)) g d_Net_add_9 (by decide +kernel) ?_
    exact v_ret d_Net_add_11 rfl
def f_Net_add (n0 : Nat) (a1 : Int32) (a2 : Int32) (σ : Sto) : Option (Int32 × Sto) := B_Net_add_0 n0 a1 a2 σ
theorem sp_Net_add {l : Launch} {E : En} (hE : Dj E) {n0 : Nat} {a1 : Int32} {a2 : Int32} (hn0 : cls n0 = 4) {σ : Sto} {r : Int32} {σ' : Sto} (h : f_Net_add n0 a1 a2 σ = some (r, σ')) : Ct l E y_Net_add (wsM y_Net_add b_Net_add 3 (some .int)) 3 [.ref (E.2.1 n0), .int a1, .int a2] σ (eI r) σ' :=
  ct_of hE (by decide +kernel) (Nat.le_of_ble_eq_true rfl) (fun x => Or.inl ⟨rfl, x, rfl⟩) (fun X _ g => vB_Net_add_0 g n0 a1 a2 hn0 σ) r σ' h
/-! method FittingRings$Net.isTied(II)Z -/
theorem yv_Net_isTied : YV y_Net_isTied b_Net_isTied 3 (some .boolean) 2 4 := ⟨m1 418 (by decide +kernel) (by decide +kernel), m1 419 (by decide +kernel) (by decide +kernel), ini_Net, m1 420 (by decide +kernel) (by decide +kernel), ⟨by decide +kernel, by decide +kernel, by decide +kernel⟩, by decide, by decide, T_Net, 5, rfl⟩
theorem d_Net_isTied_0 : decode b_Net_isTied 0 = .ok (.aload_n 0, 1) := by decide +kernel
theorem d_Net_isTied_1 : decode b_Net_isTied 1 = .ok (.iload_n 1, 1) := by decide +kernel
theorem d_Net_isTied_2 : decode b_Net_isTied 2 = .ok (.i2l, 1) := by decide +kernel
theorem d_Net_isTied_3 : decode b_Net_isTied 3 = .ok (.invokevirtual 45, 3) := by decide +kernel
theorem d_Net_isTied_6 : decode b_Net_isTied 6 = .ok (.ifCond .eq 29, 3) := by decide +kernel
theorem d_Net_isTied_9 : decode b_Net_isTied 9 = .ok (.aload_n 0, 1) := by decide +kernel
theorem d_Net_isTied_10 : decode b_Net_isTied 10 = .ok (.iload_n 2, 1) := by decide +kernel
theorem d_Net_isTied_11 : decode b_Net_isTied 11 = .ok (.i2l, 1) := by decide +kernel
theorem d_Net_isTied_12 : decode b_Net_isTied 12 = .ok (.invokevirtual 45, 3) := by decide +kernel
theorem d_Net_isTied_15 : decode b_Net_isTied 15 = .ok (.ifCond .eq 20, 3) := by decide +kernel
theorem d_Net_isTied_18 : decode b_Net_isTied 18 = .ok (.aload_n 0, 1) := by decide +kernel
theorem d_Net_isTied_19 : decode b_Net_isTied 19 = .ok (.getfield 22, 3) := by decide +kernel
theorem d_Net_isTied_22 : decode b_Net_isTied 22 = .ok (.iload_n 1, 1) := by decide +kernel
theorem d_Net_isTied_23 : decode b_Net_isTied 23 = .ok (.laload, 1) := by decide +kernel
theorem d_Net_isTied_24 : decode b_Net_isTied 24 = .ok (.iload_n 2, 1) := by decide +kernel
theorem d_Net_isTied_25 : decode b_Net_isTied 25 = .ok (.invokestatic 49, 3) := by decide +kernel
theorem d_Net_isTied_28 : decode b_Net_isTied 28 = .ok (.ifCond .eq 7, 3) := by decide +kernel
theorem d_Net_isTied_31 : decode b_Net_isTied 31 = .ok (.iconst 1, 1) := by decide +kernel
theorem d_Net_isTied_32 : decode b_Net_isTied 32 = .ok (.goto 4, 3) := by decide +kernel
theorem d_Net_isTied_35 : decode b_Net_isTied 35 = .ok (.iconst 0, 1) := by decide +kernel
theorem d_Net_isTied_36 : decode b_Net_isTied 36 = .ok (.ireturn, 1) := by decide +kernel
def B_Net_isTied_0 (n0 : Nat) (a1 : Int32) (a2 : Int32) (σ : Sto) : Option (Bool × Sto) :=
  ((f_Net_has n0 (Int32.toInt64 a1) σ).bind fun q1 => (if (b2i q1.1) = 0 then some (false, q1.2)
 else ((f_Net_has n0 (Int32.toInt64 a2) q1.2).bind fun q2 => (if (b2i q2.1) = 0 then some (false, q2.2)
  else (if inb a1 40 = true then ((f_FR_isOf (gL q2.2 (n0 + 3) (Int32.toNatClampNeg a1)) a2 q2.2).bind fun q3 => (if (b2i q3.1) = 0 then some (false, q3.2)
   else some (true, q3.2))) else none)))))
set_option maxHeartbeats 4000000 in
set_option maxRecDepth 100000 in
theorem vB_Net_isTied_0 {X : Xt} {E : En} (g : GG X E 2 b_Net_isTied R_Net 3) (n0 : Nat) (a1 : Int32) (a2 : Int32) (hn0 : cls n0 = 4) (σ : Sto) : VV X E b_Net_isTied 3 eB 0 [(0, .ref (E.2.1 n0)), (1, .int a1), (2, .int a2)] [] σ (B_Net_isTied_0 n0 a1 a2 σ) := by
  unfold B_Net_isTied_0
  refine v_aload_n 0 g d_Net_isTied_0 rfl ?_
  refine v_iload_n 1 g d_Net_isTied_1 rfl ?_
  refine v_i2l g d_Net_isTied_2 ?_
  refine v_callB (r_V (rest := []) [.long (Int32.toInt64 a1)] g (m1 382 (by decide +kernel) (by decide +kernel)) yv_Net_has hn0 (fun r σ1 h => sp_Net_has g.2.2.1 hn0 h) rfl rfl (by decide) (Nat.le_of_ble_eq_true rfl) d_Net_isTied_3) (fun q1 => ?_)
  refine v_if_eq 35 g d_Net_isTied_6 (by decide) (fun _ => ?_) (fun _ => ?_)
  · refine v_iconst (v := (0 : Int32)) g d_Net_isTied_35 (by decide +kernel) ?_
    exact v_ret d_Net_isTied_36 rfl
  · refine v_aload_n 0 g d_Net_isTied_9 rfl ?_
    refine v_iload_n 2 g d_Net_isTied_10 rfl ?_
    refine v_i2l g d_Net_isTied_11 ?_
    refine v_callB (r_V (rest := []) [.long (Int32.toInt64 a2)] g (m1 382 (by decide +kernel) (by decide +kernel)) yv_Net_has hn0 (fun r σ1 h => sp_Net_has g.2.2.1 hn0 h) rfl rfl (by decide) (Nat.le_of_ble_eq_true rfl) d_Net_isTied_12) (fun q2 => ?_)
    refine v_if_eq 35 g d_Net_isTied_15 (by decide) (fun _ => ?_) (fun _ => ?_)
    · refine v_iconst (v := (0 : Int32)) g d_Net_isTied_35 (by decide +kernel) ?_
      exact v_ret d_Net_isTied_36 rfl
    · refine v_aload_n 0 g d_Net_isTied_18 rfl ?_
      refine v_getR (n0 + 3) g ff_Net_22 hn0 rfl (rf_Net_3 hn0) d_Net_isTied_19 ?_
      refine v_iload_n 1 g d_Net_isTied_22 rfl ?_
      refine v_lald g (ar_Net_3 hn0).1 (ar_Net_3 hn0).2 d_Net_isTied_23 (fun _ => ?_)
      refine v_iload_n 2 g d_Net_isTied_24 rfl ?_
      refine v_callB (r_SN (rest := []) (host := R_FR) [.long (gL q2.2 (n0 + 3) (Int32.toNatClampNeg a1)), .int a2] g (by decide +kernel) ys_FR_isOf (fun r σ1 h => sp_FR_isOf g.2.2.1  h) rfl rfl (by decide) (Nat.le_of_ble_eq_true rfl) d_Net_isTied_25) (fun q3 => ?_)
      refine v_if_eq 35 g d_Net_isTied_28 (by decide) (fun _ => ?_) (fun _ => ?_)
      · refine v_iconst (v := (0 : Int32)) g d_Net_isTied_35 (by decide +kernel) ?_
        exact v_ret d_Net_isTied_36 rfl
      · refine v_iconst (v := (1 : Int32)) g d_Net_isTied_31 (by decide +kernel) ?_
        refine v_goto 36 g d_Net_isTied_32 (by decide) ?_
        exact v_ret d_Net_isTied_36 rfl
def f_Net_isTied (n0 : Nat) (a1 : Int32) (a2 : Int32) (σ : Sto) : Option (Bool × Sto) := B_Net_isTied_0 n0 a1 a2 σ
theorem sp_Net_isTied {l : Launch} {E : En} (hE : Dj E) {n0 : Nat} {a1 : Int32} {a2 : Int32} (hn0 : cls n0 = 4) {σ : Sto} {r : Bool} {σ' : Sto} (h : f_Net_isTied n0 a1 a2 σ = some (r, σ')) : Ct l E y_Net_isTied (wsM y_Net_isTied b_Net_isTied 3 (some .boolean)) 2 [.ref (E.2.1 n0), .int a1, .int a2] σ (eB r) σ' :=
  ct_of hE (by decide +kernel) (Nat.le_of_ble_eq_true rfl) (fun b => Or.inr (Or.inl ⟨rfl, b, rfl⟩)) (fun X _ g => vB_Net_isTied_0 g n0 a1 a2 hn0 σ) r σ' h
/-! method FittingRings$Net.tie(IIZ)V -/
theorem yv_Net_tie : YV y_Net_tie b_Net_tie 4 (none) 3 4 := ⟨m1 425 (by decide +kernel) (by decide +kernel), m1 426 (by decide +kernel) (by decide +kernel), ini_Net, m1 427 (by decide +kernel) (by decide +kernel), ⟨by decide +kernel, by decide +kernel, by decide +kernel⟩, by decide, by decide, T_Net, 5, rfl⟩
theorem d_Net_tie_0 : decode b_Net_tie 0 = .ok (.aload_n 0, 1) := by decide +kernel
theorem d_Net_tie_1 : decode b_Net_tie 1 = .ok (.iload_n 1, 1) := by decide +kernel
theorem d_Net_tie_2 : decode b_Net_tie 2 = .ok (.i2l, 1) := by decide +kernel
theorem d_Net_tie_3 : decode b_Net_tie 3 = .ok (.invokevirtual 45, 3) := by decide +kernel
theorem d_Net_tie_6 : decode b_Net_tie 6 = .ok (.ifCond .eq 17, 3) := by decide +kernel
theorem d_Net_tie_9 : decode b_Net_tie 9 = .ok (.aload_n 0, 1) := by decide +kernel
theorem d_Net_tie_10 : decode b_Net_tie 10 = .ok (.iload_n 2, 1) := by decide +kernel
theorem d_Net_tie_11 : decode b_Net_tie 11 = .ok (.i2l, 1) := by decide +kernel
theorem d_Net_tie_12 : decode b_Net_tie 12 = .ok (.invokevirtual 45, 3) := by decide +kernel
theorem d_Net_tie_15 : decode b_Net_tie 15 = .ok (.ifCond .eq 8, 3) := by decide +kernel
theorem d_Net_tie_18 : decode b_Net_tie 18 = .ok (.iload_n 1, 1) := by decide +kernel
theorem d_Net_tie_19 : decode b_Net_tie 19 = .ok (.iload_n 2, 1) := by decide +kernel
theorem d_Net_tie_20 : decode b_Net_tie 20 = .ok (.if_icmp .ne 4, 3) := by decide +kernel
theorem d_Net_tie_23 : decode b_Net_tie 23 = .ok (.return_, 1) := by decide +kernel
theorem d_Net_tie_24 : decode b_Net_tie 24 = .ok (.iload_n 3, 1) := by decide +kernel
theorem d_Net_tie_25 : decode b_Net_tie 25 = .ok (.ifCond .eq 30, 3) := by decide +kernel
theorem d_Net_tie_28 : decode b_Net_tie 28 = .ok (.aload_n 0, 1) := by decide +kernel
theorem d_Net_tie_29 : decode b_Net_tie 29 = .ok (.getfield 22, 3) := by decide +kernel
theorem d_Net_tie_32 : decode b_Net_tie 32 = .ok (.iload_n 1, 1) := by decide +kernel
theorem d_Net_tie_33 : decode b_Net_tie 33 = .ok (.dup2, 1) := by decide +kernel
theorem d_Net_tie_34 : decode b_Net_tie 34 = .ok (.laload, 1) := by decide +kernel
theorem d_Net_tie_35 : decode b_Net_tie 35 = .ok (.lconst 1, 1) := by decide +kernel
theorem d_Net_tie_36 : decode b_Net_tie 36 = .ok (.iload_n 2, 1) := by decide +kernel
theorem d_Net_tie_37 : decode b_Net_tie 37 = .ok (.lshl, 1) := by decide +kernel
theorem d_Net_tie_38 : decode b_Net_tie 38 = .ok (.lor, 1) := by decide +kernel
theorem d_Net_tie_39 : decode b_Net_tie 39 = .ok (.lastore, 1) := by decide +kernel
theorem d_Net_tie_40 : decode b_Net_tie 40 = .ok (.aload_n 0, 1) := by decide +kernel
theorem d_Net_tie_41 : decode b_Net_tie 41 = .ok (.getfield 22, 3) := by decide +kernel
theorem d_Net_tie_44 : decode b_Net_tie 44 = .ok (.iload_n 2, 1) := by decide +kernel
theorem d_Net_tie_45 : decode b_Net_tie 45 = .ok (.dup2, 1) := by decide +kernel
theorem d_Net_tie_46 : decode b_Net_tie 46 = .ok (.laload, 1) := by decide +kernel
theorem d_Net_tie_47 : decode b_Net_tie 47 = .ok (.lconst 1, 1) := by decide +kernel
theorem d_Net_tie_48 : decode b_Net_tie 48 = .ok (.iload_n 1, 1) := by decide +kernel
theorem d_Net_tie_49 : decode b_Net_tie 49 = .ok (.lshl, 1) := by decide +kernel
theorem d_Net_tie_50 : decode b_Net_tie 50 = .ok (.lor, 1) := by decide +kernel
theorem d_Net_tie_51 : decode b_Net_tie 51 = .ok (.lastore, 1) := by decide +kernel
theorem d_Net_tie_52 : decode b_Net_tie 52 = .ok (.goto 35, 3) := by decide +kernel
theorem d_Net_tie_55 : decode b_Net_tie 55 = .ok (.aload_n 0, 1) := by decide +kernel
theorem d_Net_tie_56 : decode b_Net_tie 56 = .ok (.getfield 22, 3) := by decide +kernel
theorem d_Net_tie_59 : decode b_Net_tie 59 = .ok (.iload_n 1, 1) := by decide +kernel
theorem d_Net_tie_60 : decode b_Net_tie 60 = .ok (.dup2, 1) := by decide +kernel
theorem d_Net_tie_61 : decode b_Net_tie 61 = .ok (.laload, 1) := by decide +kernel
theorem d_Net_tie_62 : decode b_Net_tie 62 = .ok (.lconst 1, 1) := by decide +kernel
theorem d_Net_tie_63 : decode b_Net_tie 63 = .ok (.iload_n 2, 1) := by decide +kernel
theorem d_Net_tie_64 : decode b_Net_tie 64 = .ok (.lshl, 1) := by decide +kernel
theorem d_Net_tie_65 : decode b_Net_tie 65 = .ok (.ldc2_w 33, 3) := by decide +kernel
theorem d_Net_tie_68 : decode b_Net_tie 68 = .ok (.lxor, 1) := by decide +kernel
theorem d_Net_tie_69 : decode b_Net_tie 69 = .ok (.land, 1) := by decide +kernel
theorem d_Net_tie_70 : decode b_Net_tie 70 = .ok (.lastore, 1) := by decide +kernel
theorem d_Net_tie_71 : decode b_Net_tie 71 = .ok (.aload_n 0, 1) := by decide +kernel
theorem d_Net_tie_72 : decode b_Net_tie 72 = .ok (.getfield 22, 3) := by decide +kernel
theorem d_Net_tie_75 : decode b_Net_tie 75 = .ok (.iload_n 2, 1) := by decide +kernel
theorem d_Net_tie_76 : decode b_Net_tie 76 = .ok (.dup2, 1) := by decide +kernel
theorem d_Net_tie_77 : decode b_Net_tie 77 = .ok (.laload, 1) := by decide +kernel
theorem d_Net_tie_78 : decode b_Net_tie 78 = .ok (.lconst 1, 1) := by decide +kernel
theorem d_Net_tie_79 : decode b_Net_tie 79 = .ok (.iload_n 1, 1) := by decide +kernel
theorem d_Net_tie_80 : decode b_Net_tie 80 = .ok (.lshl, 1) := by decide +kernel
theorem d_Net_tie_81 : decode b_Net_tie 81 = .ok (.ldc2_w 33, 3) := by decide +kernel
theorem d_Net_tie_84 : decode b_Net_tie 84 = .ok (.lxor, 1) := by decide +kernel
theorem d_Net_tie_85 : decode b_Net_tie 85 = .ok (.land, 1) := by decide +kernel
theorem d_Net_tie_86 : decode b_Net_tie 86 = .ok (.lastore, 1) := by decide +kernel
theorem d_Net_tie_87 : decode b_Net_tie 87 = .ok (.aload_n 0, 1) := by decide +kernel
theorem d_Net_tie_88 : decode b_Net_tie 88 = .ok (.iload_n 1, 1) := by decide +kernel
theorem d_Net_tie_89 : decode b_Net_tie 89 = .ok (.invokevirtual 35, 3) := by decide +kernel
theorem d_Net_tie_92 : decode b_Net_tie 92 = .ok (.aload_n 0, 1) := by decide +kernel
theorem d_Net_tie_93 : decode b_Net_tie 93 = .ok (.iload_n 2, 1) := by decide +kernel
theorem d_Net_tie_94 : decode b_Net_tie 94 = .ok (.invokevirtual 35, 3) := by decide +kernel
theorem d_Net_tie_97 : decode b_Net_tie 97 = .ok (.return_, 1) := by decide +kernel
def B_Net_tie_0 (n0 : Nat) (a1 : Int32) (a2 : Int32) (a3 : Int32) (σ : Sto) : Option (Unit × Sto) :=
  ((f_Net_has n0 (Int32.toInt64 a1) σ).bind fun q1 => (if (b2i q1.1) = 0 then some ((), q1.2)
 else ((f_Net_has n0 (Int32.toInt64 a2) q1.2).bind fun q2 => (if (b2i q2.1) = 0 then some ((), q2.2)
  else (if a1 = a2 then some ((), q2.2)
   else (if a3 = 0 then (if inb a1 40 = true then (if inb a1 40 = true then (lt1 (sL q2.2 (n0 + 3) (Int32.toNatClampNeg a1) ((gL q2.2 (n0 + 3) (Int32.toNatClampNeg a1)) &&& ((lsh (1 : Int64) a2) ^^^ (-1 : Int64)))) fun σ3 => (if inb a2 40 = true then (if inb a2 40 = true then (lt1 (sL σ3 (n0 + 3) (Int32.toNatClampNeg a2) ((gL σ3 (n0 + 3) (Int32.toNatClampNeg a2)) &&& ((lsh (1 : Int64) a1) ^^^ (-1 : Int64)))) fun σ4 => ((f_Net_weigh n0 a1 σ4).bind fun q5 => ((f_Net_weigh n0 a2 q5.2).bind fun q6 => some ((), q6.2)))) else none) else none)) else none) else none)
    else (if inb a1 40 = true then (if inb a1 40 = true then (lt1 (sL q2.2 (n0 + 3) (Int32.toNatClampNeg a1) ((gL q2.2 (n0 + 3) (Int32.toNatClampNeg a1)) ||| (lsh (1 : Int64) a2))) fun σ7 => (if inb a2 40 = true then (if inb a2 40 = true then (lt1 (sL σ7 (n0 + 3) (Int32.toNatClampNeg a2) ((gL σ7 (n0 + 3) (Int32.toNatClampNeg a2)) ||| (lsh (1 : Int64) a1))) fun σ8 => ((f_Net_weigh n0 a1 σ8).bind fun q9 => ((f_Net_weigh n0 a2 q9.2).bind fun q10 => some ((), q10.2)))) else none) else none)) else none) else none)))))))
set_option maxHeartbeats 4000000 in
set_option maxRecDepth 100000 in
theorem vB_Net_tie_0 {X : Xt} {E : En} (g : GG X E 3 b_Net_tie R_Net 4) (n0 : Nat) (a1 : Int32) (a2 : Int32) (a3 : Int32) (hn0 : cls n0 = 4) (σ : Sto) : VV X E b_Net_tie 4 eU 0 [(0, .ref (E.2.1 n0)), (1, .int a1), (2, .int a2), (3, .int a3)] [] σ (B_Net_tie_0 n0 a1 a2 a3 σ) := by
  unfold B_Net_tie_0
  refine v_aload_n 0 g d_Net_tie_0 rfl ?_
  refine v_iload_n 1 g d_Net_tie_1 rfl ?_
  refine v_i2l g d_Net_tie_2 ?_
  refine v_callB (r_V (rest := []) [.long (Int32.toInt64 a1)] g (m1 382 (by decide +kernel) (by decide +kernel)) yv_Net_has hn0 (fun r σ1 h => sp_Net_has g.2.2.1 hn0 h) rfl rfl (by decide) (Nat.le_of_ble_eq_true rfl) d_Net_tie_3) (fun q1 => ?_)
  refine v_if_eq 23 g d_Net_tie_6 (by decide) (fun _ => ?_) (fun _ => ?_)
  · exact v_ret d_Net_tie_23 rfl
  · refine v_aload_n 0 g d_Net_tie_9 rfl ?_
    refine v_iload_n 2 g d_Net_tie_10 rfl ?_
    refine v_i2l g d_Net_tie_11 ?_
    refine v_callB (r_V (rest := []) [.long (Int32.toInt64 a2)] g (m1 382 (by decide +kernel) (by decide +kernel)) yv_Net_has hn0 (fun r σ1 h => sp_Net_has g.2.2.1 hn0 h) rfl rfl (by decide) (Nat.le_of_ble_eq_true rfl) d_Net_tie_12) (fun q2 => ?_)
    refine v_if_eq 23 g d_Net_tie_15 (by decide) (fun _ => ?_) (fun _ => ?_)
    · exact v_ret d_Net_tie_23 rfl
    · refine v_iload_n 1 g d_Net_tie_18 rfl ?_
      refine v_iload_n 2 g d_Net_tie_19 rfl ?_
      refine v_icmp_ne 24 g d_Net_tie_20 (by decide) (fun _ => ?_) (fun _ => ?_)
      · refine v_iload_n 3 g d_Net_tie_24 rfl ?_
        refine v_if_eq 55 g d_Net_tie_25 (by decide) (fun _ => ?_) (fun _ => ?_)
        · refine v_aload_n 0 g d_Net_tie_55 rfl ?_
          refine v_getR (n0 + 3) g ff_Net_22 hn0 rfl (rf_Net_3 hn0) d_Net_tie_56 ?_
          refine v_iload_n 1 g d_Net_tie_59 rfl ?_
          refine v_dup2_11 g d_Net_tie_60 rfl rfl ?_
          refine v_lald g (ar_Net_3 hn0).1 (ar_Net_3 hn0).2 d_Net_tie_61 (fun _ => ?_)
          refine v_lconst (v := (1 : Int64)) g d_Net_tie_62 (by decide +kernel) ?_
          refine v_iload_n 2 g d_Net_tie_63 rfl ?_
          refine v_lshl g d_Net_tie_64 ?_
          refine v_ldc2 (v := (-1 : Int64)) g (m1 428 (by decide +kernel) (by decide +kernel)) d_Net_tie_65 ?_
          refine v_lxor g d_Net_tie_68 ?_
          refine v_land g d_Net_tie_69 ?_
          refine v_last g (ar_Net_3 hn0).1 (ar_Net_3 hn0).2 d_Net_tie_70 (fun _ => ?_)
          refine v_nlet (fun σ3 eσ3 => ?_)
          rw [← eσ3]
          refine v_aload_n 0 g d_Net_tie_71 rfl ?_
          refine v_getR (n0 + 3) g ff_Net_22 hn0 rfl (rf_Net_3 hn0) d_Net_tie_72 ?_
          refine v_iload_n 2 g d_Net_tie_75 rfl ?_
          refine v_dup2_11 g d_Net_tie_76 rfl rfl ?_
          refine v_lald g (ar_Net_3 hn0).1 (ar_Net_3 hn0).2 d_Net_tie_77 (fun _ => ?_)
          refine v_lconst (v := (1 : Int64)) g d_Net_tie_78 (by decide +kernel) ?_
          refine v_iload_n 1 g d_Net_tie_79 rfl ?_
          refine v_lshl g d_Net_tie_80 ?_
          refine v_ldc2 (v := (-1 : Int64)) g (m1 428 (by decide +kernel) (by decide +kernel)) d_Net_tie_81 ?_
          refine v_lxor g d_Net_tie_84 ?_
          refine v_land g d_Net_tie_85 ?_
          refine v_last g (ar_Net_3 hn0).1 (ar_Net_3 hn0).2 d_Net_tie_86 (fun _ => ?_)
          refine v_nlet (fun σ4 eσ4 => ?_)
          rw [← eσ4]
          refine v_aload_n 0 g d_Net_tie_87 rfl ?_
          refine v_iload_n 1 g d_Net_tie_88 rfl ?_
          refine v_callU (r_V (rest := []) [.int a1] g (m1 378 (by decide +kernel) (by decide +kernel)) yv_Net_weigh hn0 (fun r σ1 h => sp_Net_weigh g.2.2.1 hn0 h) rfl rfl (by decide) (Nat.le_of_ble_eq_true rfl) d_Net_tie_89) (fun q5 => ?_)
          refine v_aload_n 0 g d_Net_tie_92 rfl ?_
          refine v_iload_n 2 g d_Net_tie_93 rfl ?_
          refine v_callU (r_V (rest := []) [.int a2] g (m1 378 (by decide +kernel) (by decide +kernel)) yv_Net_weigh hn0 (fun r σ1 h => sp_Net_weigh g.2.2.1 hn0 h) rfl rfl (by decide) (Nat.le_of_ble_eq_true rfl) d_Net_tie_94) (fun q6 => ?_)
          exact v_ret d_Net_tie_97 rfl
        · refine v_aload_n 0 g d_Net_tie_28 rfl ?_
          refine v_getR (n0 + 3) g ff_Net_22 hn0 rfl (rf_Net_3 hn0) d_Net_tie_29 ?_
          refine v_iload_n 1 g d_Net_tie_32 rfl ?_
          refine v_dup2_11 g d_Net_tie_33 rfl rfl ?_
          refine v_lald g (ar_Net_3 hn0).1 (ar_Net_3 hn0).2 d_Net_tie_34 (fun _ => ?_)
          refine v_lconst (v := (1 : Int64)) g d_Net_tie_35 (by decide +kernel) ?_
          refine v_iload_n 2 g d_Net_tie_36 rfl ?_
          refine v_lshl g d_Net_tie_37 ?_
          refine v_lor g d_Net_tie_38 ?_
          refine v_last g (ar_Net_3 hn0).1 (ar_Net_3 hn0).2 d_Net_tie_39 (fun _ => ?_)
          refine v_nlet (fun σ7 eσ7 => ?_)
          rw [← eσ7]
          refine v_aload_n 0 g d_Net_tie_40 rfl ?_
          refine v_getR (n0 + 3) g ff_Net_22 hn0 rfl (rf_Net_3 hn0) d_Net_tie_41 ?_
          refine v_iload_n 2 g d_Net_tie_44 rfl ?_
          refine v_dup2_11 g d_Net_tie_45 rfl rfl ?_
          refine v_lald g (ar_Net_3 hn0).1 (ar_Net_3 hn0).2 d_Net_tie_46 (fun _ => ?_)
          refine v_lconst (v := (1 : Int64)) g d_Net_tie_47 (by decide +kernel) ?_
          refine v_iload_n 1 g d_Net_tie_48 rfl ?_
          refine v_lshl g d_Net_tie_49 ?_
          refine v_lor g d_Net_tie_50 ?_
          refine v_last g (ar_Net_3 hn0).1 (ar_Net_3 hn0).2 d_Net_tie_51 (fun _ => ?_)
          refine v_nlet (fun σ8 eσ8 => ?_)
          rw [← eσ8]
          refine v_goto 87 g d_Net_tie_52 (by decide) ?_
          refine v_aload_n 0 g d_Net_tie_87 rfl ?_
          refine v_iload_n 1 g d_Net_tie_88 rfl ?_
          refine v_callU (r_V (rest := []) [.int a1] g (m1 378 (by decide +kernel) (by decide +kernel)) yv_Net_weigh hn0 (fun r σ1 h => sp_Net_weigh g.2.2.1 hn0 h) rfl rfl (by decide) (Nat.le_of_ble_eq_true rfl) d_Net_tie_89) (fun q9 => ?_)
          refine v_aload_n 0 g d_Net_tie_92 rfl ?_
          refine v_iload_n 2 g d_Net_tie_93 rfl ?_
          refine v_callU (r_V (rest := []) [.int a2] g (m1 378 (by decide +kernel) (by decide +kernel)) yv_Net_weigh hn0 (fun r σ1 h => sp_Net_weigh g.2.2.1 hn0 h) rfl rfl (by decide) (Nat.le_of_ble_eq_true rfl) d_Net_tie_94) (fun q10 => ?_)
          exact v_ret d_Net_tie_97 rfl
      · exact v_ret d_Net_tie_23 rfl
def f_Net_tie (n0 : Nat) (a1 : Int32) (a2 : Int32) (a3 : Int32) (σ : Sto) : Option (Unit × Sto) := B_Net_tie_0 n0 a1 a2 a3 σ
theorem sp_Net_tie {l : Launch} {E : En} (hE : Dj E) {n0 : Nat} {a1 : Int32} {a2 : Int32} {a3 : Int32} (hn0 : cls n0 = 4) {σ : Sto} {r : Unit} {σ' : Sto} (h : f_Net_tie n0 a1 a2 a3 σ = some (r, σ')) : Ct l E y_Net_tie (wsM y_Net_tie b_Net_tie 4 (none)) 3 [.ref (E.2.1 n0), .int a1, .int a2, .int a3] σ (eU r) σ' :=
  ct_of hE (by decide +kernel) (Nat.le_of_ble_eq_true rfl) (fun _ => Or.inr (Or.inr (Or.inr (Or.inl ⟨rfl, rfl⟩)))) (fun X _ g => vB_Net_tie_0 g n0 a1 a2 a3 hn0 σ) r σ' h
/-! method FittingRings$Net.whole()J -/
theorem yv_Net_whole : YV y_Net_whole b_Net_whole 1 (some .long) 0 4 := ⟨m1 438 (by decide +kernel) (by decide +kernel), m1 439 (by decide +kernel) (by decide +kernel), ini_Net, m1 440 (by decide +kernel) (by decide +kernel), ⟨by decide +kernel, by decide +kernel, by decide +kernel⟩, by decide, by decide, T_Net, 5, rfl⟩
theorem d_Net_whole_0 : decode b_Net_whole 0 = .ok (.lconst 1, 1) := by decide +kernel
theorem d_Net_whole_1 : decode b_Net_whole 1 = .ok (.aload_n 0, 1) := by decide +kernel
theorem d_Net_whole_2 : decode b_Net_whole 2 = .ok (.getfield 9, 3) := by decide +kernel
theorem d_Net_whole_5 : decode b_Net_whole 5 = .ok (.lshl, 1) := by decide +kernel
theorem d_Net_whole_6 : decode b_Net_whole 6 = .ok (.lconst 1, 1) := by decide +kernel
theorem d_Net_whole_7 : decode b_Net_whole 7 = .ok (.lsub, 1) := by decide +kernel
theorem d_Net_whole_8 : decode b_Net_whole 8 = .ok (.lreturn, 1) := by decide +kernel
def B_Net_whole_0 (n0 : Nat) (σ : Sto) : Option (Int64 × Sto) :=
  some (((lsh (1 : Int64) (gI σ n0 0)) - (1 : Int64)), σ)
set_option maxHeartbeats 4000000 in
set_option maxRecDepth 100000 in
theorem vB_Net_whole_0 {X : Xt} {E : En} (g : GG X E 1 b_Net_whole R_Net 1) (n0 : Nat) (hn0 : cls n0 = 4) (σ : Sto) : VV X E b_Net_whole 1 eL 0 [(0, .ref (E.2.1 n0))] [] σ (B_Net_whole_0 n0 σ) := by
  unfold B_Net_whole_0
  refine v_lconst (v := (1 : Int64)) g d_Net_whole_0 (by decide +kernel) ?_
  refine v_aload_n 0 g d_Net_whole_1 rfl ?_
  refine v_getI g ff_Net_9 hn0 rfl d_Net_whole_2 ?_
  refine v_lshl g d_Net_whole_5 ?_
  refine v_lconst (v := (1 : Int64)) g d_Net_whole_6 (by decide +kernel) ?_
  refine v_lsub g d_Net_whole_7 ?_
  exact v_ret d_Net_whole_8 rfl
def f_Net_whole (n0 : Nat) (σ : Sto) : Option (Int64 × Sto) := B_Net_whole_0 n0 σ
theorem sp_Net_whole {l : Launch} {E : En} (hE : Dj E) {n0 : Nat} (hn0 : cls n0 = 4) {σ : Sto} {r : Int64} {σ' : Sto} (h : f_Net_whole n0 σ = some (r, σ')) : Ct l E y_Net_whole (wsM y_Net_whole b_Net_whole 1 (some .long)) 1 [.ref (E.2.1 n0)] σ (eL r) σ' :=
  ct_of hE (by decide +kernel) (Nat.le_of_ble_eq_true rfl) (fun x => Or.inr (Or.inr (Or.inl ⟨rfl, x, rfl⟩))) (fun X _ g => vB_Net_whole_0 g n0 hn0 σ) r σ' h
/-! method FittingRings$Net.spans(J)Z -/
theorem yv_Net_spans : YV y_Net_spans b_Net_spans 3 (some .boolean) 1 4 := ⟨m1 434 (by decide +kernel) (by decide +kernel), m1 435 (by decide +kernel) (by decide +kernel), ini_Net, m1 436 (by decide +kernel) (by decide +kernel), ⟨by decide +kernel, by decide +kernel, by decide +kernel⟩, by decide, by decide, T_Net, 5, rfl⟩
theorem d_Net_spans_0 : decode b_Net_spans 0 = .ok (.lload_n 1, 1) := by decide +kernel
theorem d_Net_spans_1 : decode b_Net_spans 1 = .ok (.aload_n 0, 1) := by decide +kernel
theorem d_Net_spans_2 : decode b_Net_spans 2 = .ok (.invokevirtual 29, 3) := by decide +kernel
theorem d_Net_spans_5 : decode b_Net_spans 5 = .ok (.ldc2_w 33, 3) := by decide +kernel
theorem d_Net_spans_8 : decode b_Net_spans 8 = .ok (.lxor, 1) := by decide +kernel
theorem d_Net_spans_9 : decode b_Net_spans 9 = .ok (.land, 1) := by decide +kernel
theorem d_Net_spans_10 : decode b_Net_spans 10 = .ok (.lconst 0, 1) := by decide +kernel
theorem d_Net_spans_11 : decode b_Net_spans 11 = .ok (.lcmp, 1) := by decide +kernel
theorem d_Net_spans_12 : decode b_Net_spans 12 = .ok (.ifCond .ne 7, 3) := by decide +kernel
theorem d_Net_spans_15 : decode b_Net_spans 15 = .ok (.iconst 1, 1) := by decide +kernel
theorem d_Net_spans_16 : decode b_Net_spans 16 = .ok (.goto 4, 3) := by decide +kernel
theorem d_Net_spans_19 : decode b_Net_spans 19 = .ok (.iconst 0, 1) := by decide +kernel
theorem d_Net_spans_20 : decode b_Net_spans 20 = .ok (.ireturn, 1) := by decide +kernel
def B_Net_spans_0 (n0 : Nat) (a1 : Int64) (σ : Sto) : Option (Bool × Sto) :=
  ((f_Net_whole n0 σ).bind fun q1 => (if (a1 &&& (q1.1 ^^^ (-1 : Int64))) = (0 : Int64) then some (true, q1.2)
 else some (false, q1.2)))
set_option maxHeartbeats 4000000 in
set_option maxRecDepth 100000 in
theorem vB_Net_spans_0 {X : Xt} {E : En} (g : GG X E 2 b_Net_spans R_Net 3) (n0 : Nat) (a1 : Int64) (hn0 : cls n0 = 4) (σ : Sto) : VV X E b_Net_spans 3 eB 0 [(0, .ref (E.2.1 n0)), (1, .long a1)] [] σ (B_Net_spans_0 n0 a1 σ) := by
  unfold B_Net_spans_0
  refine v_lload_n 1 g d_Net_spans_0 rfl ?_
  refine v_aload_n 0 g d_Net_spans_1 rfl ?_
  refine v_callL (r_V (rest := [.long a1]) [] g (m1 437 (by decide +kernel) (by decide +kernel)) yv_Net_whole hn0 (fun r σ1 h => sp_Net_whole g.2.2.1 hn0 h) rfl rfl (by decide) (Nat.le_of_ble_eq_true rfl) d_Net_spans_2) (fun q1 => ?_)
  refine v_ldc2 (v := (-1 : Int64)) g (m1 428 (by decide +kernel) (by decide +kernel)) d_Net_spans_5 ?_
  refine v_lxor g d_Net_spans_8 ?_
  refine v_land g d_Net_spans_9 ?_
  refine v_lconst (v := (0 : Int64)) g d_Net_spans_10 (by decide +kernel) ?_
  refine v_lcmp_ne 19 g d_Net_spans_11 d_Net_spans_12 (by decide) (fun _ => ?_) (fun _ => ?_)
  · refine v_iconst (v := (0 : Int32)) g d_Net_spans_19 (by decide +kernel) ?_
    exact v_ret d_Net_spans_20 rfl
  · refine v_iconst (v := (1 : Int32)) g d_Net_spans_15 (by decide +kernel) ?_
    refine v_goto 20 g d_Net_spans_16 (by decide) ?_
    exact v_ret d_Net_spans_20 rfl
def f_Net_spans (n0 : Nat) (a1 : Int64) (σ : Sto) : Option (Bool × Sto) := B_Net_spans_0 n0 a1 σ
theorem sp_Net_spans {l : Launch} {E : En} (hE : Dj E) {n0 : Nat} {a1 : Int64} (hn0 : cls n0 = 4) {σ : Sto} {r : Bool} {σ' : Sto} (h : f_Net_spans n0 a1 σ = some (r, σ')) : Ct l E y_Net_spans (wsM y_Net_spans b_Net_spans 3 (some .boolean)) 2 [.ref (E.2.1 n0), .long a1] σ (eB r) σ' :=
  ct_of hE (by decide +kernel) (Nat.le_of_ble_eq_true rfl) (fun b => Or.inr (Or.inl ⟨rfl, b, rfl⟩)) (fun X _ g => vB_Net_spans_0 g n0 a1 hn0 σ) r σ' h
/-! method FittingRings$Net.ties()I -/
theorem yv_Net_ties : YV y_Net_ties b_Net_ties 3 (some .int) 0 4 := ⟨m1 442 (by decide +kernel) (by decide +kernel), m1 443 (by decide +kernel) (by decide +kernel), ini_Net, m1 444 (by decide +kernel) (by decide +kernel), ⟨by decide +kernel, by decide +kernel, by decide +kernel⟩, by decide, by decide, T_Net, 5, rfl⟩
theorem d_Net_ties_0 : decode b_Net_ties 0 = .ok (.iconst 0, 1) := by decide +kernel
theorem d_Net_ties_1 : decode b_Net_ties 1 = .ok (.istore_n 1, 1) := by decide +kernel
theorem d_Net_ties_2 : decode b_Net_ties 2 = .ok (.iconst 0, 1) := by decide +kernel
theorem d_Net_ties_3 : decode b_Net_ties 3 = .ok (.istore_n 2, 1) := by decide +kernel
theorem d_Net_ties_4 : decode b_Net_ties 4 = .ok (.iload_n 2, 1) := by decide +kernel
theorem d_Net_ties_5 : decode b_Net_ties 5 = .ok (.aload_n 0, 1) := by decide +kernel
theorem d_Net_ties_6 : decode b_Net_ties 6 = .ok (.getfield 9, 3) := by decide +kernel
theorem d_Net_ties_9 : decode b_Net_ties 9 = .ok (.if_icmp .ge 21, 3) := by decide +kernel
theorem d_Net_ties_12 : decode b_Net_ties 12 = .ok (.iload_n 1, 1) := by decide +kernel
theorem d_Net_ties_13 : decode b_Net_ties 13 = .ok (.aload_n 0, 1) := by decide +kernel
theorem d_Net_ties_14 : decode b_Net_ties 14 = .ok (.getfield 22, 3) := by decide +kernel
theorem d_Net_ties_17 : decode b_Net_ties 17 = .ok (.iload_n 2, 1) := by decide +kernel
theorem d_Net_ties_18 : decode b_Net_ties 18 = .ok (.laload, 1) := by decide +kernel
theorem d_Net_ties_19 : decode b_Net_ties 19 = .ok (.invokestatic 61, 3) := by decide +kernel
theorem d_Net_ties_22 : decode b_Net_ties 22 = .ok (.iadd, 1) := by decide +kernel
theorem d_Net_ties_23 : decode b_Net_ties 23 = .ok (.istore_n 1, 1) := by decide +kernel
theorem d_Net_ties_24 : decode b_Net_ties 24 = .ok (.iinc 2 1, 3) := by decide +kernel
theorem d_Net_ties_27 : decode b_Net_ties 27 = .ok (.goto (-23), 3) := by decide +kernel
theorem d_Net_ties_30 : decode b_Net_ties 30 = .ok (.iload_n 1, 1) := by decide +kernel
theorem d_Net_ties_31 : decode b_Net_ties 31 = .ok (.iconst 2, 1) := by decide +kernel
theorem d_Net_ties_32 : decode b_Net_ties 32 = .ok (.idiv, 1) := by decide +kernel
theorem d_Net_ties_33 : decode b_Net_ties 33 = .ok (.ireturn, 1) := by decide +kernel
def B_Net_ties_4 (k4 : Nat → Int32 → Int32 → Sto → Option (Int32 × Sto)) (v0 : Nat) (v1 : Int32) (v2 : Int32) (σ : Sto) : Option (Int32 × Sto) :=
  (if (gI σ v0 0) ≤ v2 then (if ¬ (2 : Int32) = 0 then some ((v1 / (2 : Int32)), σ) else none)
 else (if inb v2 40 = true then ((f_JLong_bitCount (gL σ (v0 + 3) (Int32.toNatClampNeg v2)) σ).bind fun q1 => k4 v0 (v1 + q1.1) (v2 + (1 : Int32)) q1.2) else none))
set_option maxHeartbeats 4000000 in
set_option maxRecDepth 100000 in
theorem vB_Net_ties_4 {X : Xt} {E : En} (g : GG X E 2 b_Net_ties R_Net 3) {k4 : Nat → Int32 → Int32 → Sto → Option (Int32 × Sto)} (hk4 : ∀ (v0 : Nat) (v1 : Int32) (v2 : Int32) (hv0 : cls v0 = 4) (σ : Sto), VV X E b_Net_ties 3 eI 4 [(0, .ref (E.2.1 v0)), (1, .int v1), (2, .int v2)] [] σ (k4 v0 v1 v2 σ)) (v0 : Nat) (v1 : Int32) (v2 : Int32) (hv0 : cls v0 = 4) (σ : Sto) : VV X E b_Net_ties 3 eI 4 [(0, .ref (E.2.1 v0)), (1, .int v1), (2, .int v2)] [] σ (B_Net_ties_4 k4 v0 v1 v2 σ) := by
  unfold B_Net_ties_4
  refine v_iload_n 2 g d_Net_ties_4 rfl ?_
  refine v_aload_n 0 g d_Net_ties_5 rfl ?_
  refine v_getI g ff_Net_9 hv0 rfl d_Net_ties_6 ?_
  refine v_icmp_ge 30 g d_Net_ties_9 (by decide) (fun _ => ?_) (fun _ => ?_)
  · refine v_iload_n 1 g d_Net_ties_30 rfl ?_
    refine v_iconst (v := (2 : Int32)) g d_Net_ties_31 (by decide +kernel) ?_
    refine v_idiv g d_Net_ties_32 (fun _ => ?_)
    exact v_ret d_Net_ties_33 rfl
  · refine v_iload_n 1 g d_Net_ties_12 rfl ?_
    refine v_aload_n 0 g d_Net_ties_13 rfl ?_
    refine v_getR (v0 + 3) g ff_Net_22 hv0 rfl (rf_Net_3 hv0) d_Net_ties_14 ?_
    refine v_iload_n 2 g d_Net_ties_17 rfl ?_
    refine v_lald g (ar_Net_3 hv0).1 (ar_Net_3 hv0).2 d_Net_ties_18 (fun _ => ?_)
    refine v_callI (r_S (rest := [.int v1]) [.long (gL σ (v0 + 3) (Int32.toNatClampNeg v2))] g (m1 386 (by decide +kernel) (by decide +kernel)) ys_JLong_bitCount (fun r σ1 h => sp_JLong_bitCount g.2.2.1  h) rfl rfl (by decide) (Nat.le_of_ble_eq_true rfl) d_Net_ties_19) (fun q1 => ?_)
    refine v_iadd g d_Net_ties_22 ?_
    refine v_istore_n [(1, .int (v1 + q1.1)), (0, .ref (E.2.1 v0)), (2, .int v2)] g d_Net_ties_23 (by decide) rfl ?_
    refine v_iinc 2 [(2, .int (v2 + (1 : Int32))), (1, .int (v1 + q1.1)), (0, .ref (E.2.1 v0))] g d_Net_ties_24 rfl (v := (1 : Int32)) (by decide +kernel) (by decide) rfl ?_
    refine v_goto 4 g d_Net_ties_27 (by decide) ?_
    exact v_sub [2,1,0] rfl (hk4 v0 (v1 + q1.1) (v2 + (1 : Int32)) hv0 q1.2)
def L_Net_ties_4 : Nat → Nat → Int32 → Int32 → Sto → Option (Int32 × Sto)
  | 0, _, _, _, _ => none
  | fu + 1, v0, v1, v2, σ => B_Net_ties_4 (L_Net_ties_4 fu) v0 v1 v2 σ
theorem vL_Net_ties_4 {X : Xt} {E : En} (g : GG X E 2 b_Net_ties R_Net 3) (fu : Nat) : ∀ (v0 : Nat) (v1 : Int32) (v2 : Int32) (hv0 : cls v0 = 4) (σ : Sto), VV X E b_Net_ties 3 eI 4 [(0, .ref (E.2.1 v0)), (1, .int v1), (2, .int v2)] [] σ (L_Net_ties_4 fu v0 v1 v2 σ) := by
  induction fu with
  | zero => intros; exact v_none
  | succ fu ih =>
    intro v0 v1 v2 hv0 σ
    exact vB_Net_ties_4 g ih v0 v1 v2 hv0 σ
def B_Net_ties_0 (n0 : Nat) (σ : Sto) : Option (Int32 × Sto) :=
  L_Net_ties_4 LF n0 (0 : Int32) (0 : Int32) σ
set_option maxHeartbeats 4000000 in
set_option maxRecDepth 100000 in
theorem vB_Net_ties_0 {X : Xt} {E : En} (g : GG X E 2 b_Net_ties R_Net 3) (n0 : Nat) (hn0 : cls n0 = 4) (σ : Sto) : VV X E b_Net_ties 3 eI 0 [(0, .ref (E.2.1 n0))] [] σ (B_Net_ties_0 n0 σ) := by
  unfold B_Net_ties_0
  refine v_iconst (v := (0 : Int32)) g d_Net_ties_0 (by decide +kernel) ?_
  refine v_istore_n [(1, .int (0 : Int32)), (0, .ref (E.2.1 n0))] g d_Net_ties_1 (by decide) rfl ?_
  refine v_iconst (v := (0 : Int32)) g d_Net_ties_2 (by decide +kernel) ?_
  refine v_istore_n [(2, .int (0 : Int32)), (1, .int (0 : Int32)), (0, .ref (E.2.1 n0))] g d_Net_ties_3 (by decide) rfl ?_
  exact v_sub [2,1,0] rfl (vL_Net_ties_4 g LF n0 (0 : Int32) (0 : Int32) hn0 σ)
def f_Net_ties (n0 : Nat) (σ : Sto) : Option (Int32 × Sto) := B_Net_ties_0 n0 σ
theorem sp_Net_ties {l : Launch} {E : En} (hE : Dj E) {n0 : Nat} (hn0 : cls n0 = 4) {σ : Sto} {r : Int32} {σ' : Sto} (h : f_Net_ties n0 σ = some (r, σ')) : Ct l E y_Net_ties (wsM y_Net_ties b_Net_ties 3 (some .int)) 2 [.ref (E.2.1 n0)] σ (eI r) σ' :=
  ct_of hE (by decide +kernel) (Nat.le_of_ble_eq_true rfl) (fun x => Or.inl ⟨rfl, x, rfl⟩) (fun X _ g => vB_Net_ties_0 g n0 hn0 σ) r σ' h
/-! method FittingRings$Net.tieAll(JZ)V -/
theorem yv_Net_tieAll : YV y_Net_tieAll b_Net_tieAll 7 (none) 2 4 := ⟨m1 446 (by decide +kernel) (by decide +kernel), m1 447 (by decide +kernel) (by decide +kernel), ini_Net, m1 448 (by decide +kernel) (by decide +kernel), ⟨by decide +kernel, by decide +kernel, by decide +kernel⟩, by decide, by decide, T_Net, 5, rfl⟩
theorem d_Net_tieAll_0 : decode b_Net_tieAll 0 = .ok (.iconst 0, 1) := by decide +kernel
theorem d_Net_tieAll_1 : decode b_Net_tieAll 1 = .ok (.istore 4, 2) := by decide +kernel
theorem d_Net_tieAll_3 : decode b_Net_tieAll 3 = .ok (.iload 4, 2) := by decide +kernel
theorem d_Net_tieAll_5 : decode b_Net_tieAll 5 = .ok (.aload_n 0, 1) := by decide +kernel
theorem d_Net_tieAll_6 : decode b_Net_tieAll 6 = .ok (.getfield 9, 3) := by decide +kernel
theorem d_Net_tieAll_9 : decode b_Net_tieAll 9 = .ok (.if_icmp .ge 74, 3) := by decide +kernel
theorem d_Net_tieAll_12 : decode b_Net_tieAll 12 = .ok (.lload_n 1, 1) := by decide +kernel
theorem d_Net_tieAll_13 : decode b_Net_tieAll 13 = .ok (.iload 4, 2) := by decide +kernel
theorem d_Net_tieAll_15 : decode b_Net_tieAll 15 = .ok (.invokestatic 49, 3) := by decide +kernel
theorem d_Net_tieAll_18 : decode b_Net_tieAll 18 = .ok (.ifCond .eq 59, 3) := by decide +kernel
theorem d_Net_tieAll_21 : decode b_Net_tieAll 21 = .ok (.lload_n 1, 1) := by decide +kernel
theorem d_Net_tieAll_22 : decode b_Net_tieAll 22 = .ok (.lconst 1, 1) := by decide +kernel
theorem d_Net_tieAll_23 : decode b_Net_tieAll 23 = .ok (.iload 4, 2) := by decide +kernel
theorem d_Net_tieAll_25 : decode b_Net_tieAll 25 = .ok (.lshl, 1) := by decide +kernel
theorem d_Net_tieAll_26 : decode b_Net_tieAll 26 = .ok (.ldc2_w 33, 3) := by decide +kernel
theorem d_Net_tieAll_29 : decode b_Net_tieAll 29 = .ok (.lxor, 1) := by decide +kernel
theorem d_Net_tieAll_30 : decode b_Net_tieAll 30 = .ok (.land, 1) := by decide +kernel
theorem d_Net_tieAll_31 : decode b_Net_tieAll 31 = .ok (.lstore 5, 2) := by decide +kernel
theorem d_Net_tieAll_33 : decode b_Net_tieAll 33 = .ok (.aload_n 0, 1) := by decide +kernel
theorem d_Net_tieAll_34 : decode b_Net_tieAll 34 = .ok (.getfield 22, 3) := by decide +kernel
theorem d_Net_tieAll_37 : decode b_Net_tieAll 37 = .ok (.iload 4, 2) := by decide +kernel
theorem d_Net_tieAll_39 : decode b_Net_tieAll 39 = .ok (.iload_n 3, 1) := by decide +kernel
theorem d_Net_tieAll_40 : decode b_Net_tieAll 40 = .ok (.ifCond .eq 16, 3) := by decide +kernel
theorem d_Net_tieAll_43 : decode b_Net_tieAll 43 = .ok (.aload_n 0, 1) := by decide +kernel
theorem d_Net_tieAll_44 : decode b_Net_tieAll 44 = .ok (.getfield 22, 3) := by decide +kernel
theorem d_Net_tieAll_47 : decode b_Net_tieAll 47 = .ok (.iload 4, 2) := by decide +kernel
theorem d_Net_tieAll_49 : decode b_Net_tieAll 49 = .ok (.laload, 1) := by decide +kernel
theorem d_Net_tieAll_50 : decode b_Net_tieAll 50 = .ok (.lload 5, 2) := by decide +kernel
theorem d_Net_tieAll_52 : decode b_Net_tieAll 52 = .ok (.lor, 1) := by decide +kernel
theorem d_Net_tieAll_53 : decode b_Net_tieAll 53 = .ok (.goto 17, 3) := by decide +kernel
theorem d_Net_tieAll_56 : decode b_Net_tieAll 56 = .ok (.aload_n 0, 1) := by decide +kernel
theorem d_Net_tieAll_57 : decode b_Net_tieAll 57 = .ok (.getfield 22, 3) := by decide +kernel
theorem d_Net_tieAll_60 : decode b_Net_tieAll 60 = .ok (.iload 4, 2) := by decide +kernel
theorem d_Net_tieAll_62 : decode b_Net_tieAll 62 = .ok (.laload, 1) := by decide +kernel
theorem d_Net_tieAll_63 : decode b_Net_tieAll 63 = .ok (.lload 5, 2) := by decide +kernel
theorem d_Net_tieAll_65 : decode b_Net_tieAll 65 = .ok (.ldc2_w 33, 3) := by decide +kernel
theorem d_Net_tieAll_68 : decode b_Net_tieAll 68 = .ok (.lxor, 1) := by decide +kernel
theorem d_Net_tieAll_69 : decode b_Net_tieAll 69 = .ok (.land, 1) := by decide +kernel
theorem d_Net_tieAll_70 : decode b_Net_tieAll 70 = .ok (.lastore, 1) := by decide +kernel
theorem d_Net_tieAll_71 : decode b_Net_tieAll 71 = .ok (.aload_n 0, 1) := by decide +kernel
theorem d_Net_tieAll_72 : decode b_Net_tieAll 72 = .ok (.iload 4, 2) := by decide +kernel
theorem d_Net_tieAll_74 : decode b_Net_tieAll 74 = .ok (.invokevirtual 35, 3) := by decide +kernel
theorem d_Net_tieAll_77 : decode b_Net_tieAll 77 = .ok (.iinc 4 1, 3) := by decide +kernel
theorem d_Net_tieAll_80 : decode b_Net_tieAll 80 = .ok (.goto (-77), 3) := by decide +kernel
theorem d_Net_tieAll_83 : decode b_Net_tieAll 83 = .ok (.return_, 1) := by decide +kernel
def B_Net_tieAll_3 (k3 : Nat → Int64 → Int32 → Int32 → Sto → Option (Unit × Sto)) (v0 : Nat) (v1 : Int64) (v3 : Int32) (v4 : Int32) (σ : Sto) : Option (Unit × Sto) :=
  (if (gI σ v0 0) ≤ v4 then some ((), σ)
 else ((f_FR_isOf v1 v4 σ).bind fun q1 => (if (b2i q1.1) = 0 then k3 v0 v1 v3 (v4 + (1 : Int32)) q1.2
  else (lt1 (v1 &&& ((lsh (1 : Int64) v4) ^^^ (-1 : Int64))) fun x2 => (if v3 = 0 then (if inb v4 40 = true then (if inb v4 40 = true then (lt1 (sL q1.2 (v0 + 3) (Int32.toNatClampNeg v4) ((gL q1.2 (v0 + 3) (Int32.toNatClampNeg v4)) &&& (x2 ^^^ (-1 : Int64)))) fun σ3 => ((f_Net_weigh v0 v4 σ3).bind fun q4 => k3 v0 v1 v3 (v4 + (1 : Int32)) q4.2)) else none) else none)
   else (if inb v4 40 = true then (if inb v4 40 = true then (lt1 (sL q1.2 (v0 + 3) (Int32.toNatClampNeg v4) ((gL q1.2 (v0 + 3) (Int32.toNatClampNeg v4)) ||| x2)) fun σ5 => ((f_Net_weigh v0 v4 σ5).bind fun q6 => k3 v0 v1 v3 (v4 + (1 : Int32)) q6.2)) else none) else none))))))
set_option maxHeartbeats 4000000 in
set_option maxRecDepth 100000 in
theorem vB_Net_tieAll_3 {X : Xt} {E : En} (g : GG X E 3 b_Net_tieAll R_Net 7) {k3 : Nat → Int64 → Int32 → Int32 → Sto → Option (Unit × Sto)} (hk3 : ∀ (v0 : Nat) (v1 : Int64) (v3 : Int32) (v4 : Int32) (hv0 : cls v0 = 4) (σ : Sto), VV X E b_Net_tieAll 7 eU 3 [(0, .ref (E.2.1 v0)), (1, .long v1), (3, .int v3), (4, .int v4)] [] σ (k3 v0 v1 v3 v4 σ)) (v0 : Nat) (v1 : Int64) (v3 : Int32) (v4 : Int32) (hv0 : cls v0 = 4) (σ : Sto) : VV X E b_Net_tieAll 7 eU 3 [(0, .ref (E.2.1 v0)), (1, .long v1), (3, .int v3), (4, .int v4)] [] σ (B_Net_tieAll_3 k3 v0 v1 v3 v4 σ) := by
  unfold B_Net_tieAll_3
  refine v_iload 3 g d_Net_tieAll_3 rfl ?_
  refine v_aload_n 0 g d_Net_tieAll_5 rfl ?_
  refine v_getI g ff_Net_9 hv0 rfl d_Net_tieAll_6 ?_
  refine v_icmp_ge 83 g d_Net_tieAll_9 (by decide) (fun _ => ?_) (fun _ => ?_)
  · exact v_ret d_Net_tieAll_83 rfl
  · refine v_lload_n 1 g d_Net_tieAll_12 rfl ?_
    refine v_iload 3 g d_Net_tieAll_13 rfl ?_
    refine v_callB (r_SN (rest := []) (host := R_FR) [.long v1, .int v4] g (by decide +kernel) ys_FR_isOf (fun r σ1 h => sp_FR_isOf g.2.2.1  h) rfl rfl (by decide) (Nat.le_of_ble_eq_true rfl) d_Net_tieAll_15) (fun q1 => ?_)
    refine v_if_eq 77 g d_Net_tieAll_18 (by decide) (fun _ => ?_) (fun _ => ?_)
    · refine v_iinc 3 [(4, .int (v4 + (1 : Int32))), (0, .ref (E.2.1 v0)), (1, .long v1), (3, .int v3)] g d_Net_tieAll_77 rfl (v := (1 : Int32)) (by decide +kernel) (by decide) rfl ?_
      refine v_goto 3 g d_Net_tieAll_80 (by decide) ?_
      exact v_sub [1,2,3,0] rfl (hk3 v0 v1 v3 (v4 + (1 : Int32)) hv0 q1.2)
    · refine v_lload_n 1 g d_Net_tieAll_21 rfl ?_
      refine v_lconst (v := (1 : Int64)) g d_Net_tieAll_22 (by decide +kernel) ?_
      refine v_iload 3 g d_Net_tieAll_23 rfl ?_
      refine v_lshl g d_Net_tieAll_25 ?_
      refine v_ldc2 (v := (-1 : Int64)) g (m1 428 (by decide +kernel) (by decide +kernel)) d_Net_tieAll_26 ?_
      refine v_lxor g d_Net_tieAll_29 ?_
      refine v_land g d_Net_tieAll_30 ?_
      refine v_nlet (fun x2 ex2 => ?_)
      rw [← ex2]
      refine v_lstore [(5, .long x2), (0, .ref (E.2.1 v0)), (1, .long v1), (3, .int v3), (4, .int v4)] g d_Net_tieAll_31 (by decide) rfl ?_
      refine v_aload_n 1 g d_Net_tieAll_33 rfl ?_
      refine v_getR (v0 + 3) g ff_Net_22 hv0 rfl (rf_Net_3 hv0) d_Net_tieAll_34 ?_
      refine v_iload 4 g d_Net_tieAll_37 rfl ?_
      refine v_iload_n 3 g d_Net_tieAll_39 rfl ?_
      refine v_if_eq 56 g d_Net_tieAll_40 (by decide) (fun _ => ?_) (fun _ => ?_)
      · refine v_aload_n 1 g d_Net_tieAll_56 rfl ?_
        refine v_getR (v0 + 3) g ff_Net_22 hv0 rfl (rf_Net_3 hv0) d_Net_tieAll_57 ?_
        refine v_iload 4 g d_Net_tieAll_60 rfl ?_
        refine v_lald g (ar_Net_3 hv0).1 (ar_Net_3 hv0).2 d_Net_tieAll_62 (fun _ => ?_)
        refine v_lload 0 g d_Net_tieAll_63 rfl ?_
        refine v_ldc2 (v := (-1 : Int64)) g (m1 428 (by decide +kernel) (by decide +kernel)) d_Net_tieAll_65 ?_
        refine v_lxor g d_Net_tieAll_68 ?_
        refine v_land g d_Net_tieAll_69 ?_
        refine v_last g (ar_Net_3 hv0).1 (ar_Net_3 hv0).2 d_Net_tieAll_70 (fun _ => ?_)
        refine v_nlet (fun σ3 eσ3 => ?_)
        rw [← eσ3]
        refine v_aload_n 1 g d_Net_tieAll_71 rfl ?_
        refine v_iload 4 g d_Net_tieAll_72 rfl ?_
        refine v_callU (r_V (rest := []) [.int v4] g (m1 378 (by decide +kernel) (by decide +kernel)) yv_Net_weigh hv0 (fun r σ1 h => sp_Net_weigh g.2.2.1 hv0 h) rfl rfl (by decide) (Nat.le_of_ble_eq_true rfl) d_Net_tieAll_74) (fun q4 => ?_)
        refine v_iinc 4 [(4, .int (v4 + (1 : Int32))), (5, .long x2), (0, .ref (E.2.1 v0)), (1, .long v1), (3, .int v3)] g d_Net_tieAll_77 rfl (v := (1 : Int32)) (by decide +kernel) (by decide) rfl ?_
        refine v_goto 3 g d_Net_tieAll_80 (by decide) ?_
        exact v_sub [2,3,4,0] rfl (hk3 v0 v1 v3 (v4 + (1 : Int32)) hv0 q4.2)
      · refine v_aload_n 1 g d_Net_tieAll_43 rfl ?_
        refine v_getR (v0 + 3) g ff_Net_22 hv0 rfl (rf_Net_3 hv0) d_Net_tieAll_44 ?_
        refine v_iload 4 g d_Net_tieAll_47 rfl ?_
        refine v_lald g (ar_Net_3 hv0).1 (ar_Net_3 hv0).2 d_Net_tieAll_49 (fun _ => ?_)
        refine v_lload 0 g d_Net_tieAll_50 rfl ?_
        refine v_lor g d_Net_tieAll_52 ?_
        refine v_goto 70 g d_Net_tieAll_53 (by decide) ?_
        refine v_last g (ar_Net_3 hv0).1 (ar_Net_3 hv0).2 d_Net_tieAll_70 (fun _ => ?_)
        refine v_nlet (fun σ5 eσ5 => ?_)
        rw [← eσ5]
        refine v_aload_n 1 g d_Net_tieAll_71 rfl ?_
        refine v_iload 4 g d_Net_tieAll_72 rfl ?_
        refine v_callU (r_V (rest := []) [.int v4] g (m1 378 (by decide +kernel) (by decide +kernel)) yv_Net_weigh hv0 (fun r σ1 h => sp_Net_weigh g.2.2.1 hv0 h) rfl rfl (by decide) (Nat.le_of_ble_eq_true rfl) d_Net_tieAll_74) (fun q6 => ?_)
        refine v_iinc 4 [(4, .int (v4 + (1 : Int32))), (5, .long x2), (0, .ref (E.2.1 v0)), (1, .long v1), (3, .int v3)] g d_Net_tieAll_77 rfl (v := (1 : Int32)) (by decide +kernel) (by decide) rfl ?_
        refine v_goto 3 g d_Net_tieAll_80 (by decide) ?_
        exact v_sub [2,3,4,0] rfl (hk3 v0 v1 v3 (v4 + (1 : Int32)) hv0 q6.2)
def L_Net_tieAll_3 : Nat → Nat → Int64 → Int32 → Int32 → Sto → Option (Unit × Sto)
  | 0, _, _, _, _, _ => none
  | fu + 1, v0, v1, v3, v4, σ => B_Net_tieAll_3 (L_Net_tieAll_3 fu) v0 v1 v3 v4 σ
theorem vL_Net_tieAll_3 {X : Xt} {E : En} (g : GG X E 3 b_Net_tieAll R_Net 7) (fu : Nat) : ∀ (v0 : Nat) (v1 : Int64) (v3 : Int32) (v4 : Int32) (hv0 : cls v0 = 4) (σ : Sto), VV X E b_Net_tieAll 7 eU 3 [(0, .ref (E.2.1 v0)), (1, .long v1), (3, .int v3), (4, .int v4)] [] σ (L_Net_tieAll_3 fu v0 v1 v3 v4 σ) := by
  induction fu with
  | zero => intros; exact v_none
  | succ fu ih =>
    intro v0 v1 v3 v4 hv0 σ
    exact vB_Net_tieAll_3 g ih v0 v1 v3 v4 hv0 σ
def B_Net_tieAll_0 (n0 : Nat) (a1 : Int64) (a3 : Int32) (σ : Sto) : Option (Unit × Sto) :=
  L_Net_tieAll_3 LF n0 a1 a3 (0 : Int32) σ
set_option maxHeartbeats 4000000 in
set_option maxRecDepth 100000 in
theorem vB_Net_tieAll_0 {X : Xt} {E : En} (g : GG X E 3 b_Net_tieAll R_Net 7) (n0 : Nat) (a1 : Int64) (a3 : Int32) (hn0 : cls n0 = 4) (σ : Sto) : VV X E b_Net_tieAll 7 eU 0 [(0, .ref (E.2.1 n0)), (1, .long a1), (3, .int a3)] [] σ (B_Net_tieAll_0 n0 a1 a3 σ) := by
  unfold B_Net_tieAll_0
  refine v_iconst (v := (0 : Int32)) g d_Net_tieAll_0 (by decide +kernel) ?_
  refine v_istore [(4, .int (0 : Int32)), (0, .ref (E.2.1 n0)), (1, .long a1), (3, .int a3)] g d_Net_tieAll_1 (by decide) rfl ?_
  exact v_sub [1,2,3,0] rfl (vL_Net_tieAll_3 g LF n0 a1 a3 (0 : Int32) hn0 σ)
def f_Net_tieAll (n0 : Nat) (a1 : Int64) (a3 : Int32) (σ : Sto) : Option (Unit × Sto) := B_Net_tieAll_0 n0 a1 a3 σ
theorem sp_Net_tieAll {l : Launch} {E : En} (hE : Dj E) {n0 : Nat} {a1 : Int64} {a3 : Int32} (hn0 : cls n0 = 4) {σ : Sto} {r : Unit} {σ' : Sto} (h : f_Net_tieAll n0 a1 a3 σ = some (r, σ')) : Ct l E y_Net_tieAll (wsM y_Net_tieAll b_Net_tieAll 7 (none)) 3 [.ref (E.2.1 n0), .long a1, .int a3] σ (eU r) σ' :=
  ct_of hE (by decide +kernel) (Nat.le_of_ble_eq_true rfl) (fun _ => Or.inr (Or.inr (Or.inr (Or.inl ⟨rfl, rfl⟩)))) (fun X _ g => vB_Net_tieAll_0 g n0 a1 a3 hn0 σ) r σ' h
/-! method FittingRings$Net.fitting(IIJ)J -/
theorem yv_Net_fitting : YV y_Net_fitting b_Net_fitting 5 (some .long) 3 4 := ⟨m1 458 (by decide +kernel) (by decide +kernel), m1 459 (by decide +kernel) (by decide +kernel), ini_Net, m1 460 (by decide +kernel) (by decide +kernel), ⟨by decide +kernel, by decide +kernel, by decide +kernel⟩, by decide, by decide, T_Net, 5, rfl⟩
theorem d_Net_fitting_0 : decode b_Net_fitting 0 = .ok (.aload_n 0, 1) := by decide +kernel
theorem d_Net_fitting_1 : decode b_Net_fitting 1 = .ok (.iload_n 2, 1) := by decide +kernel
theorem d_Net_fitting_2 : decode b_Net_fitting 2 = .ok (.i2l, 1) := by decide +kernel
theorem d_Net_fitting_3 : decode b_Net_fitting 3 = .ok (.invokevirtual 45, 3) := by decide +kernel
theorem d_Net_fitting_6 : decode b_Net_fitting 6 = .ok (.ifCond .ne 5, 3) := by decide +kernel
theorem d_Net_fitting_9 : decode b_Net_fitting 9 = .ok (.lconst 0, 1) := by decide +kernel
theorem d_Net_fitting_10 : decode b_Net_fitting 10 = .ok (.lreturn, 1) := by decide +kernel
theorem d_Net_fitting_11 : decode b_Net_fitting 11 = .ok (.iload_n 1, 1) := by decide +kernel
theorem d_Net_fitting_12 : decode b_Net_fitting 12 = .ok (.ifCond .ne 14, 3) := by decide +kernel
theorem d_Net_fitting_15 : decode b_Net_fitting 15 = .ok (.lload_n 3, 1) := by decide +kernel
theorem d_Net_fitting_16 : decode b_Net_fitting 16 = .ok (.aload_n 0, 1) := by decide +kernel
theorem d_Net_fitting_17 : decode b_Net_fitting 17 = .ok (.getfield 22, 3) := by decide +kernel
theorem d_Net_fitting_20 : decode b_Net_fitting 20 = .ok (.iload_n 2, 1) := by decide +kernel
theorem d_Net_fitting_21 : decode b_Net_fitting 21 = .ok (.laload, 1) := by decide +kernel
theorem d_Net_fitting_22 : decode b_Net_fitting 22 = .ok (.land, 1) := by decide +kernel
theorem d_Net_fitting_23 : decode b_Net_fitting 23 = .ok (.goto 23, 3) := by decide +kernel
theorem d_Net_fitting_26 : decode b_Net_fitting 26 = .ok (.lload_n 3, 1) := by decide +kernel
theorem d_Net_fitting_27 : decode b_Net_fitting 27 = .ok (.aload_n 0, 1) := by decide +kernel
theorem d_Net_fitting_28 : decode b_Net_fitting 28 = .ok (.getfield 22, 3) := by decide +kernel
theorem d_Net_fitting_31 : decode b_Net_fitting 31 = .ok (.iload_n 2, 1) := by decide +kernel
theorem d_Net_fitting_32 : decode b_Net_fitting 32 = .ok (.laload, 1) := by decide +kernel
theorem d_Net_fitting_33 : decode b_Net_fitting 33 = .ok (.ldc2_w 33, 3) := by decide +kernel
theorem d_Net_fitting_36 : decode b_Net_fitting 36 = .ok (.lxor, 1) := by decide +kernel
theorem d_Net_fitting_37 : decode b_Net_fitting 37 = .ok (.land, 1) := by decide +kernel
theorem d_Net_fitting_38 : decode b_Net_fitting 38 = .ok (.lconst 1, 1) := by decide +kernel
theorem d_Net_fitting_39 : decode b_Net_fitting 39 = .ok (.iload_n 2, 1) := by decide +kernel
theorem d_Net_fitting_40 : decode b_Net_fitting 40 = .ok (.lshl, 1) := by decide +kernel
theorem d_Net_fitting_41 : decode b_Net_fitting 41 = .ok (.ldc2_w 33, 3) := by decide +kernel
theorem d_Net_fitting_44 : decode b_Net_fitting 44 = .ok (.lxor, 1) := by decide +kernel
theorem d_Net_fitting_45 : decode b_Net_fitting 45 = .ok (.land, 1) := by decide +kernel
theorem d_Net_fitting_46 : decode b_Net_fitting 46 = .ok (.lreturn, 1) := by decide +kernel
def B_Net_fitting_0 (n0 : Nat) (a1 : Int32) (a2 : Int32) (a3 : Int64) (σ : Sto) : Option (Int64 × Sto) :=
  ((f_Net_has n0 (Int32.toInt64 a2) σ).bind fun q1 => (if (b2i q1.1) = 0 then some ((0 : Int64), q1.2)
 else (if a1 = 0 then (if inb a2 40 = true then some ((a3 &&& (gL q1.2 (n0 + 3) (Int32.toNatClampNeg a2))), q1.2) else none)
  else (if inb a2 40 = true then some (((a3 &&& ((gL q1.2 (n0 + 3) (Int32.toNatClampNeg a2)) ^^^ (-1 : Int64))) &&& ((lsh (1 : Int64) a2) ^^^ (-1 : Int64))), q1.2) else none))))
set_option maxHeartbeats 4000000 in
set_option maxRecDepth 100000 in
theorem vB_Net_fitting_0 {X : Xt} {E : En} (g : GG X E 2 b_Net_fitting R_Net 5) (n0 : Nat) (a1 : Int32) (a2 : Int32) (a3 : Int64) (hn0 : cls n0 = 4) (σ : Sto) : VV X E b_Net_fitting 5 eL 0 [(0, .ref (E.2.1 n0)), (1, .int a1), (2, .int a2), (3, .long a3)] [] σ (B_Net_fitting_0 n0 a1 a2 a3 σ) := by
  unfold B_Net_fitting_0
  refine v_aload_n 0 g d_Net_fitting_0 rfl ?_
  refine v_iload_n 2 g d_Net_fitting_1 rfl ?_
  refine v_i2l g d_Net_fitting_2 ?_
  refine v_callB (r_V (rest := []) [.long (Int32.toInt64 a2)] g (m1 382 (by decide +kernel) (by decide +kernel)) yv_Net_has hn0 (fun r σ1 h => sp_Net_has g.2.2.1 hn0 h) rfl rfl (by decide) (Nat.le_of_ble_eq_true rfl) d_Net_fitting_3) (fun q1 => ?_)
  refine v_if_ne 11 g d_Net_fitting_6 (by decide) (fun _ => ?_) (fun _ => ?_)
  · refine v_iload_n 1 g d_Net_fitting_11 rfl ?_
    refine v_if_ne 26 g d_Net_fitting_12 (by decide) (fun _ => ?_) (fun _ => ?_)
    · refine v_lload_n 3 g d_Net_fitting_26 rfl ?_
      refine v_aload_n 0 g d_Net_fitting_27 rfl ?_
      refine v_getR (n0 + 3) g ff_Net_22 hn0 rfl (rf_Net_3 hn0) d_Net_fitting_28 ?_
      refine v_iload_n 2 g d_Net_fitting_31 rfl ?_
      refine v_lald g (ar_Net_3 hn0).1 (ar_Net_3 hn0).2 d_Net_fitting_32 (fun _ => ?_)
      refine v_ldc2 (v := (-1 : Int64)) g (m1 428 (by decide +kernel) (by decide +kernel)) d_Net_fitting_33 ?_
      refine v_lxor g d_Net_fitting_36 ?_
      refine v_land g d_Net_fitting_37 ?_
      refine v_lconst (v := (1 : Int64)) g d_Net_fitting_38 (by decide +kernel) ?_
      refine v_iload_n 2 g d_Net_fitting_39 rfl ?_
      refine v_lshl g d_Net_fitting_40 ?_
      refine v_ldc2 (v := (-1 : Int64)) g (m1 428 (by decide +kernel) (by decide +kernel)) d_Net_fitting_41 ?_
      refine v_lxor g d_Net_fitting_44 ?_
      refine v_land g d_Net_fitting_45 ?_
      exact v_ret d_Net_fitting_46 rfl
    · refine v_lload_n 3 g d_Net_fitting_15 rfl ?_
      refine v_aload_n 0 g d_Net_fitting_16 rfl ?_
      refine v_getR (n0 + 3) g ff_Net_22 hn0 rfl (rf_Net_3 hn0) d_Net_fitting_17 ?_
      refine v_iload_n 2 g d_Net_fitting_20 rfl ?_
      refine v_lald g (ar_Net_3 hn0).1 (ar_Net_3 hn0).2 d_Net_fitting_21 (fun _ => ?_)
      refine v_land g d_Net_fitting_22 ?_
      refine v_goto 46 g d_Net_fitting_23 (by decide) ?_
      exact v_ret d_Net_fitting_46 rfl
  · refine v_lconst (v := (0 : Int64)) g d_Net_fitting_9 (by decide +kernel) ?_
    exact v_ret d_Net_fitting_10 rfl
def f_Net_fitting (n0 : Nat) (a1 : Int32) (a2 : Int32) (a3 : Int64) (σ : Sto) : Option (Int64 × Sto) := B_Net_fitting_0 n0 a1 a2 a3 σ
theorem sp_Net_fitting {l : Launch} {E : En} (hE : Dj E) {n0 : Nat} {a1 : Int32} {a2 : Int32} {a3 : Int64} (hn0 : cls n0 = 4) {σ : Sto} {r : Int64} {σ' : Sto} (h : f_Net_fitting n0 a1 a2 a3 σ = some (r, σ')) : Ct l E y_Net_fitting (wsM y_Net_fitting b_Net_fitting 5 (some .long)) 2 [.ref (E.2.1 n0), .int a1, .int a2, .long a3] σ (eL r) σ' :=
  ct_of hE (by decide +kernel) (Nat.le_of_ble_eq_true rfl) (fun x => Or.inr (Or.inr (Or.inl ⟨rfl, x, rfl⟩))) (fun X _ g => vB_Net_fitting_0 g n0 a1 a2 a3 hn0 σ) r σ' h
/-! method FittingRings$Net.worth(IJ)I -/
theorem yv_Net_worth : YV y_Net_worth b_Net_worth 6 (some .int) 2 4 := ⟨m1 466 (by decide +kernel) (by decide +kernel), m1 467 (by decide +kernel) (by decide +kernel), ini_Net, m1 468 (by decide +kernel) (by decide +kernel), ⟨by decide +kernel, by decide +kernel, by decide +kernel⟩, by decide, by decide, T_Net, 5, rfl⟩
theorem d_Net_worth_0 : decode b_Net_worth 0 = .ok (.iload_n 1, 1) := by decide +kernel
theorem d_Net_worth_1 : decode b_Net_worth 1 = .ok (.ifCond .ne 8, 3) := by decide +kernel
theorem d_Net_worth_4 : decode b_Net_worth 4 = .ok (.lload_n 2, 1) := by decide +kernel
theorem d_Net_worth_5 : decode b_Net_worth 5 = .ok (.invokestatic 61, 3) := by decide +kernel
theorem d_Net_worth_8 : decode b_Net_worth 8 = .ok (.ireturn, 1) := by decide +kernel
theorem d_Net_worth_9 : decode b_Net_worth 9 = .ok (.iconst 0, 1) := by decide +kernel
theorem d_Net_worth_10 : decode b_Net_worth 10 = .ok (.istore 4, 2) := by decide +kernel
theorem d_Net_worth_12 : decode b_Net_worth 12 = .ok (.iconst 0, 1) := by decide +kernel
theorem d_Net_worth_13 : decode b_Net_worth 13 = .ok (.istore 5, 2) := by decide +kernel
theorem d_Net_worth_15 : decode b_Net_worth 15 = .ok (.iload 5, 2) := by decide +kernel
theorem d_Net_worth_17 : decode b_Net_worth 17 = .ok (.aload_n 0, 1) := by decide +kernel
theorem d_Net_worth_18 : decode b_Net_worth 18 = .ok (.getfield 9, 3) := by decide +kernel
theorem d_Net_worth_21 : decode b_Net_worth 21 = .ok (.if_icmp .ge 30, 3) := by decide +kernel
theorem d_Net_worth_24 : decode b_Net_worth 24 = .ok (.lload_n 2, 1) := by decide +kernel
theorem d_Net_worth_25 : decode b_Net_worth 25 = .ok (.iload 5, 2) := by decide +kernel
theorem d_Net_worth_27 : decode b_Net_worth 27 = .ok (.invokestatic 49, 3) := by decide +kernel
theorem d_Net_worth_30 : decode b_Net_worth 30 = .ok (.ifCond .eq 15, 3) := by decide +kernel
theorem d_Net_worth_33 : decode b_Net_worth 33 = .ok (.iload 4, 2) := by decide +kernel
theorem d_Net_worth_35 : decode b_Net_worth 35 = .ok (.aload_n 0, 1) := by decide +kernel
theorem d_Net_worth_36 : decode b_Net_worth 36 = .ok (.getfield 26, 3) := by decide +kernel
theorem d_Net_worth_39 : decode b_Net_worth 39 = .ok (.iload 5, 2) := by decide +kernel
theorem d_Net_worth_41 : decode b_Net_worth 41 = .ok (.iaload, 1) := by decide +kernel
theorem d_Net_worth_42 : decode b_Net_worth 42 = .ok (.iadd, 1) := by decide +kernel
theorem d_Net_worth_43 : decode b_Net_worth 43 = .ok (.istore 4, 2) := by decide +kernel
theorem d_Net_worth_45 : decode b_Net_worth 45 = .ok (.iinc 5 1, 3) := by decide +kernel
theorem d_Net_worth_48 : decode b_Net_worth 48 = .ok (.goto (-33), 3) := by decide +kernel
theorem d_Net_worth_51 : decode b_Net_worth 51 = .ok (.iload 4, 2) := by decide +kernel
theorem d_Net_worth_53 : decode b_Net_worth 53 = .ok (.ireturn, 1) := by decide +kernel
def B_Net_worth_15 (k15 : Nat → Int64 → Int32 → Int32 → Sto → Option (Int32 × Sto)) (v0 : Nat) (v2 : Int64) (v4 : Int32) (v5 : Int32) (σ : Sto) : Option (Int32 × Sto) :=
  (if (gI σ v0 0) ≤ v5 then some (v4, σ)
 else ((f_FR_isOf v2 v5 σ).bind fun q2 => (if (b2i q2.1) = 0 then k15 v0 v2 v4 (v5 + (1 : Int32)) q2.2
  else (if inb v5 40 = true then (lt1 (v4 + (gI q2.2 (v0 + 4) (Int32.toNatClampNeg v5))) fun x3 => k15 v0 v2 x3 (v5 + (1 : Int32)) q2.2) else none))))
set_option maxHeartbeats 4000000 in
set_option maxRecDepth 100000 in
theorem vB_Net_worth_15 {X : Xt} {E : En} (g : GG X E 2 b_Net_worth R_Net 6) {k15 : Nat → Int64 → Int32 → Int32 → Sto → Option (Int32 × Sto)} (hk15 : ∀ (v0 : Nat) (v2 : Int64) (v4 : Int32) (v5 : Int32) (hv0 : cls v0 = 4) (σ : Sto), VV X E b_Net_worth 6 eI 15 [(0, .ref (E.2.1 v0)), (2, .long v2), (4, .int v4), (5, .int v5)] [] σ (k15 v0 v2 v4 v5 σ)) (v0 : Nat) (v2 : Int64) (v4 : Int32) (v5 : Int32) (hv0 : cls v0 = 4) (σ : Sto) : VV X E b_Net_worth 6 eI 15 [(0, .ref (E.2.1 v0)), (2, .long v2), (4, .int v4), (5, .int v5)] [] σ (B_Net_worth_15 k15 v0 v2 v4 v5 σ) := by
  unfold B_Net_worth_15
  refine v_iload 3 g d_Net_worth_15 rfl ?_
  refine v_aload_n 0 g d_Net_worth_17 rfl ?_
  refine v_getI g ff_Net_9 hv0 rfl d_Net_worth_18 ?_
  refine v_icmp_ge 51 g d_Net_worth_21 (by decide) (fun _ => ?_) (fun _ => ?_)
  · refine v_iload 2 g d_Net_worth_51 rfl ?_
    exact v_ret d_Net_worth_53 rfl
  · refine v_lload_n 1 g d_Net_worth_24 rfl ?_
    refine v_iload 3 g d_Net_worth_25 rfl ?_
    refine v_callB (r_SN (rest := []) (host := R_FR) [.long v2, .int v5] g (by decide +kernel) ys_FR_isOf (fun r σ1 h => sp_FR_isOf g.2.2.1  h) rfl rfl (by decide) (Nat.le_of_ble_eq_true rfl) d_Net_worth_27) (fun q2 => ?_)
    refine v_if_eq 45 g d_Net_worth_30 (by decide) (fun _ => ?_) (fun _ => ?_)
    · refine v_iinc 3 [(5, .int (v5 + (1 : Int32))), (0, .ref (E.2.1 v0)), (2, .long v2), (4, .int v4)] g d_Net_worth_45 rfl (v := (1 : Int32)) (by decide +kernel) (by decide) rfl ?_
      refine v_goto 15 g d_Net_worth_48 (by decide) ?_
      exact v_sub [1,2,3,0] rfl (hk15 v0 v2 v4 (v5 + (1 : Int32)) hv0 q2.2)
    · refine v_iload 2 g d_Net_worth_33 rfl ?_
      refine v_aload_n 0 g d_Net_worth_35 rfl ?_
      refine v_getR (v0 + 4) g ff_Net_26 hv0 rfl (rf_Net_4 hv0) d_Net_worth_36 ?_
      refine v_iload 3 g d_Net_worth_39 rfl ?_
      refine v_iald g (ar_Net_4 hv0).1 (ar_Net_4 hv0).2 d_Net_worth_41 (fun _ => ?_)
      refine v_iadd g d_Net_worth_42 ?_
      refine v_nlet (fun x3 ex3 => ?_)
      rw [← ex3]
      refine v_istore [(4, .int x3), (0, .ref (E.2.1 v0)), (2, .long v2), (5, .int v5)] g d_Net_worth_43 (by decide) rfl ?_
      refine v_iinc 3 [(5, .int (v5 + (1 : Int32))), (4, .int x3), (0, .ref (E.2.1 v0)), (2, .long v2)] g d_Net_worth_45 rfl (v := (1 : Int32)) (by decide +kernel) (by decide) rfl ?_
      refine v_goto 15 g d_Net_worth_48 (by decide) ?_
      exact v_sub [2,3,1,0] rfl (hk15 v0 v2 x3 (v5 + (1 : Int32)) hv0 q2.2)
def L_Net_worth_15 : Nat → Nat → Int64 → Int32 → Int32 → Sto → Option (Int32 × Sto)
  | 0, _, _, _, _, _ => none
  | fu + 1, v0, v2, v4, v5, σ => B_Net_worth_15 (L_Net_worth_15 fu) v0 v2 v4 v5 σ
theorem vL_Net_worth_15 {X : Xt} {E : En} (g : GG X E 2 b_Net_worth R_Net 6) (fu : Nat) : ∀ (v0 : Nat) (v2 : Int64) (v4 : Int32) (v5 : Int32) (hv0 : cls v0 = 4) (σ : Sto), VV X E b_Net_worth 6 eI 15 [(0, .ref (E.2.1 v0)), (2, .long v2), (4, .int v4), (5, .int v5)] [] σ (L_Net_worth_15 fu v0 v2 v4 v5 σ) := by
  induction fu with
  | zero => intros; exact v_none
  | succ fu ih =>
    intro v0 v2 v4 v5 hv0 σ
    exact vB_Net_worth_15 g ih v0 v2 v4 v5 hv0 σ
def B_Net_worth_0 (n0 : Nat) (a1 : Int32) (a2 : Int64) (σ : Sto) : Option (Int32 × Sto) :=
  (if a1 = 0 then ((f_JLong_bitCount a2 σ).bind fun q1 => some (q1.1, q1.2))
 else L_Net_worth_15 LF n0 a2 (0 : Int32) (0 : Int32) σ)
set_option maxHeartbeats 4000000 in
set_option maxRecDepth 100000 in
theorem vB_Net_worth_0 {X : Xt} {E : En} (g : GG X E 2 b_Net_worth R_Net 6) (n0 : Nat) (a1 : Int32) (a2 : Int64) (hn0 : cls n0 = 4) (σ : Sto) : VV X E b_Net_worth 6 eI 0 [(0, .ref (E.2.1 n0)), (1, .int a1), (2, .long a2)] [] σ (B_Net_worth_0 n0 a1 a2 σ) := by
  unfold B_Net_worth_0
  refine v_iload_n 1 g d_Net_worth_0 rfl ?_
  refine v_if_ne 9 g d_Net_worth_1 (by decide) (fun _ => ?_) (fun _ => ?_)
  · refine v_iconst (v := (0 : Int32)) g d_Net_worth_9 (by decide +kernel) ?_
    refine v_istore [(4, .int (0 : Int32)), (0, .ref (E.2.1 n0)), (1, .int a1), (2, .long a2)] g d_Net_worth_10 (by decide) rfl ?_
    refine v_iconst (v := (0 : Int32)) g d_Net_worth_12 (by decide +kernel) ?_
    refine v_istore [(5, .int (0 : Int32)), (4, .int (0 : Int32)), (0, .ref (E.2.1 n0)), (1, .int a1), (2, .long a2)] g d_Net_worth_13 (by decide) rfl ?_
    exact v_sub [2,4,1,0] rfl (vL_Net_worth_15 g LF n0 a2 (0 : Int32) (0 : Int32) hn0 σ)
  · refine v_lload_n 2 g d_Net_worth_4 rfl ?_
    refine v_callI (r_S (rest := []) [.long a2] g (m1 386 (by decide +kernel) (by decide +kernel)) ys_JLong_bitCount (fun r σ1 h => sp_JLong_bitCount g.2.2.1  h) rfl rfl (by decide) (Nat.le_of_ble_eq_true rfl) d_Net_worth_5) (fun q1 => ?_)
    exact v_ret d_Net_worth_8 rfl
def f_Net_worth (n0 : Nat) (a1 : Int32) (a2 : Int64) (σ : Sto) : Option (Int32 × Sto) := B_Net_worth_0 n0 a1 a2 σ
theorem sp_Net_worth {l : Launch} {E : En} (hE : Dj E) {n0 : Nat} {a1 : Int32} {a2 : Int64} (hn0 : cls n0 = 4) {σ : Sto} {r : Int32} {σ' : Sto} (h : f_Net_worth n0 a1 a2 σ = some (r, σ')) : Ct l E y_Net_worth (wsM y_Net_worth b_Net_worth 6 (some .int)) 2 [.ref (E.2.1 n0), .int a1, .long a2] σ (eI r) σ' :=
  ct_of hE (by decide +kernel) (Nat.le_of_ble_eq_true rfl) (fun x => Or.inl ⟨rfl, x, rfl⟩) (fun X _ g => vB_Net_worth_0 g n0 a1 a2 hn0 σ) r σ' h
/-! method FittingRings$Net.allFit(IJ)Z -/
theorem yv_Net_allFit : YV y_Net_allFit b_Net_allFit 5 (some .boolean) 2 4 := ⟨m1 478 (by decide +kernel) (by decide +kernel), m1 479 (by decide +kernel) (by decide +kernel), ini_Net, m1 480 (by decide +kernel) (by decide +kernel), ⟨by decide +kernel, by decide +kernel, by decide +kernel⟩, by decide, by decide, T_Net, 5, rfl⟩
theorem d_Net_allFit_0 : decode b_Net_allFit 0 = .ok (.iconst 0, 1) := by decide +kernel
theorem d_Net_allFit_1 : decode b_Net_allFit 1 = .ok (.istore 4, 2) := by decide +kernel
theorem d_Net_allFit_3 : decode b_Net_allFit 3 = .ok (.iload 4, 2) := by decide +kernel
theorem d_Net_allFit_5 : decode b_Net_allFit 5 = .ok (.aload_n 0, 1) := by decide +kernel
theorem d_Net_allFit_6 : decode b_Net_allFit 6 = .ok (.getfield 9, 3) := by decide +kernel
theorem d_Net_allFit_9 : decode b_Net_allFit 9 = .ok (.if_icmp .ge 42, 3) := by decide +kernel
theorem d_Net_allFit_12 : decode b_Net_allFit 12 = .ok (.lload_n 2, 1) := by decide +kernel
theorem d_Net_allFit_13 : decode b_Net_allFit 13 = .ok (.iload 4, 2) := by decide +kernel
theorem d_Net_allFit_15 : decode b_Net_allFit 15 = .ok (.invokestatic 49, 3) := by decide +kernel
theorem d_Net_allFit_18 : decode b_Net_allFit 18 = .ok (.ifCond .eq 27, 3) := by decide +kernel
theorem d_Net_allFit_21 : decode b_Net_allFit 21 = .ok (.aload_n 0, 1) := by decide +kernel
theorem d_Net_allFit_22 : decode b_Net_allFit 22 = .ok (.iload_n 1, 1) := by decide +kernel
theorem d_Net_allFit_23 : decode b_Net_allFit 23 = .ok (.iload 4, 2) := by decide +kernel
theorem d_Net_allFit_25 : decode b_Net_allFit 25 = .ok (.lload_n 2, 1) := by decide +kernel
theorem d_Net_allFit_26 : decode b_Net_allFit 26 = .ok (.invokevirtual 76, 3) := by decide +kernel
theorem d_Net_allFit_29 : decode b_Net_allFit 29 = .ok (.lload_n 2, 1) := by decide +kernel
theorem d_Net_allFit_30 : decode b_Net_allFit 30 = .ok (.lconst 1, 1) := by decide +kernel
theorem d_Net_allFit_31 : decode b_Net_allFit 31 = .ok (.iload 4, 2) := by decide +kernel
theorem d_Net_allFit_33 : decode b_Net_allFit 33 = .ok (.lshl, 1) := by decide +kernel
theorem d_Net_allFit_34 : decode b_Net_allFit 34 = .ok (.ldc2_w 33, 3) := by decide +kernel
theorem d_Net_allFit_37 : decode b_Net_allFit 37 = .ok (.lxor, 1) := by decide +kernel
theorem d_Net_allFit_38 : decode b_Net_allFit 38 = .ok (.land, 1) := by decide +kernel
theorem d_Net_allFit_39 : decode b_Net_allFit 39 = .ok (.lcmp, 1) := by decide +kernel
theorem d_Net_allFit_40 : decode b_Net_allFit 40 = .ok (.ifCond .eq 5, 3) := by decide +kernel
theorem d_Net_allFit_43 : decode b_Net_allFit 43 = .ok (.iconst 0, 1) := by decide +kernel
theorem d_Net_allFit_44 : decode b_Net_allFit 44 = .ok (.ireturn, 1) := by decide +kernel
theorem d_Net_allFit_45 : decode b_Net_allFit 45 = .ok (.iinc 4 1, 3) := by decide +kernel
theorem d_Net_allFit_48 : decode b_Net_allFit 48 = .ok (.goto (-45), 3) := by decide +kernel
theorem d_Net_allFit_51 : decode b_Net_allFit 51 = .ok (.iconst 1, 1) := by decide +kernel
theorem d_Net_allFit_52 : decode b_Net_allFit 52 = .ok (.ireturn, 1) := by decide +kernel
def B_Net_allFit_3 (k3 : Nat → Int32 → Int64 → Int32 → Sto → Option (Bool × Sto)) (v0 : Nat) (v1 : Int32) (v2 : Int64) (v4 : Int32) (σ : Sto) : Option (Bool × Sto) :=
  (if (gI σ v0 0) ≤ v4 then some (true, σ)
 else ((f_FR_isOf v2 v4 σ).bind fun q1 => (if (b2i q1.1) = 0 then k3 v0 v1 v2 (v4 + (1 : Int32)) q1.2
  else ((f_Net_fitting v0 v1 v4 v2 q1.2).bind fun q2 => (if q2.1 = (v2 &&& ((lsh (1 : Int64) v4) ^^^ (-1 : Int64))) then k3 v0 v1 v2 (v4 + (1 : Int32)) q2.2
   else some (false, q2.2))))))
set_option maxHeartbeats 4000000 in
set_option maxRecDepth 100000 in
theorem vB_Net_allFit_3 {X : Xt} {E : En} (g : GG X E 3 b_Net_allFit R_Net 5) {k3 : Nat → Int32 → Int64 → Int32 → Sto → Option (Bool × Sto)} (hk3 : ∀ (v0 : Nat) (v1 : Int32) (v2 : Int64) (v4 : Int32) (hv0 : cls v0 = 4) (σ : Sto), VV X E b_Net_allFit 5 eB 3 [(0, .ref (E.2.1 v0)), (1, .int v1), (2, .long v2), (4, .int v4)] [] σ (k3 v0 v1 v2 v4 σ)) (v0 : Nat) (v1 : Int32) (v2 : Int64) (v4 : Int32) (hv0 : cls v0 = 4) (σ : Sto) : VV X E b_Net_allFit 5 eB 3 [(0, .ref (E.2.1 v0)), (1, .int v1), (2, .long v2), (4, .int v4)] [] σ (B_Net_allFit_3 k3 v0 v1 v2 v4 σ) := by
  unfold B_Net_allFit_3
  refine v_iload 3 g d_Net_allFit_3 rfl ?_
  refine v_aload_n 0 g d_Net_allFit_5 rfl ?_
  refine v_getI g ff_Net_9 hv0 rfl d_Net_allFit_6 ?_
  refine v_icmp_ge 51 g d_Net_allFit_9 (by decide) (fun _ => ?_) (fun _ => ?_)
  · refine v_iconst (v := (1 : Int32)) g d_Net_allFit_51 (by decide +kernel) ?_
    exact v_ret d_Net_allFit_52 rfl
  · refine v_lload_n 2 g d_Net_allFit_12 rfl ?_
    refine v_iload 3 g d_Net_allFit_13 rfl ?_
    refine v_callB (r_SN (rest := []) (host := R_FR) [.long v2, .int v4] g (by decide +kernel) ys_FR_isOf (fun r σ1 h => sp_FR_isOf g.2.2.1  h) rfl rfl (by decide) (Nat.le_of_ble_eq_true rfl) d_Net_allFit_15) (fun q1 => ?_)
    refine v_if_eq 45 g d_Net_allFit_18 (by decide) (fun _ => ?_) (fun _ => ?_)
    · refine v_iinc 3 [(4, .int (v4 + (1 : Int32))), (0, .ref (E.2.1 v0)), (1, .int v1), (2, .long v2)] g d_Net_allFit_45 rfl (v := (1 : Int32)) (by decide +kernel) (by decide) rfl ?_
      refine v_goto 3 g d_Net_allFit_48 (by decide) ?_
      exact v_sub [1,2,3,0] rfl (hk3 v0 v1 v2 (v4 + (1 : Int32)) hv0 q1.2)
    · refine v_aload_n 0 g d_Net_allFit_21 rfl ?_
      refine v_iload_n 1 g d_Net_allFit_22 rfl ?_
      refine v_iload 3 g d_Net_allFit_23 rfl ?_
      refine v_lload_n 2 g d_Net_allFit_25 rfl ?_
      refine v_callL (r_V (rest := []) [.int v1, .int v4, .long v2] g (m1 481 (by decide +kernel) (by decide +kernel)) yv_Net_fitting hv0 (fun r σ1 h => sp_Net_fitting g.2.2.1 hv0 h) rfl rfl (by decide) (Nat.le_of_ble_eq_true rfl) d_Net_allFit_26) (fun q2 => ?_)
      refine v_lload_n 2 g d_Net_allFit_29 rfl ?_
      refine v_lconst (v := (1 : Int64)) g d_Net_allFit_30 (by decide +kernel) ?_
      refine v_iload 3 g d_Net_allFit_31 rfl ?_
      refine v_lshl g d_Net_allFit_33 ?_
      refine v_ldc2 (v := (-1 : Int64)) g (m1 428 (by decide +kernel) (by decide +kernel)) d_Net_allFit_34 ?_
      refine v_lxor g d_Net_allFit_37 ?_
      refine v_land g d_Net_allFit_38 ?_
      refine v_lcmp_eq 45 g d_Net_allFit_39 d_Net_allFit_40 (by decide) (fun _ => ?_) (fun _ => ?_)
      · refine v_iinc 3 [(4, .int (v4 + (1 : Int32))), (0, .ref (E.2.1 v0)), (1, .int v1), (2, .long v2)] g d_Net_allFit_45 rfl (v := (1 : Int32)) (by decide +kernel) (by decide) rfl ?_
        refine v_goto 3 g d_Net_allFit_48 (by decide) ?_
        exact v_sub [1,2,3,0] rfl (hk3 v0 v1 v2 (v4 + (1 : Int32)) hv0 q2.2)
      · refine v_iconst (v := (0 : Int32)) g d_Net_allFit_43 (by decide +kernel) ?_
        exact v_ret d_Net_allFit_44 rfl
def L_Net_allFit_3 : Nat → Nat → Int32 → Int64 → Int32 → Sto → Option (Bool × Sto)
  | 0, _, _, _, _, _ => none
  | fu + 1, v0, v1, v2, v4, σ => B_Net_allFit_3 (L_Net_allFit_3 fu) v0 v1 v2 v4 σ
theorem vL_Net_allFit_3 {X : Xt} {E : En} (g : GG X E 3 b_Net_allFit R_Net 5) (fu : Nat) : ∀ (v0 : Nat) (v1 : Int32) (v2 : Int64) (v4 : Int32) (hv0 : cls v0 = 4) (σ : Sto), VV X E b_Net_allFit 5 eB 3 [(0, .ref (E.2.1 v0)), (1, .int v1), (2, .long v2), (4, .int v4)] [] σ (L_Net_allFit_3 fu v0 v1 v2 v4 σ) := by
  induction fu with
  | zero => intros; exact v_none
  | succ fu ih =>
    intro v0 v1 v2 v4 hv0 σ
    exact vB_Net_allFit_3 g ih v0 v1 v2 v4 hv0 σ
def B_Net_allFit_0 (n0 : Nat) (a1 : Int32) (a2 : Int64) (σ : Sto) : Option (Bool × Sto) :=
  L_Net_allFit_3 LF n0 a1 a2 (0 : Int32) σ
set_option maxHeartbeats 4000000 in
set_option maxRecDepth 100000 in
theorem vB_Net_allFit_0 {X : Xt} {E : En} (g : GG X E 3 b_Net_allFit R_Net 5) (n0 : Nat) (a1 : Int32) (a2 : Int64) (hn0 : cls n0 = 4) (σ : Sto) : VV X E b_Net_allFit 5 eB 0 [(0, .ref (E.2.1 n0)), (1, .int a1), (2, .long a2)] [] σ (B_Net_allFit_0 n0 a1 a2 σ) := by
  unfold B_Net_allFit_0
  refine v_iconst (v := (0 : Int32)) g d_Net_allFit_0 (by decide +kernel) ?_
  refine v_istore [(4, .int (0 : Int32)), (0, .ref (E.2.1 n0)), (1, .int a1), (2, .long a2)] g d_Net_allFit_1 (by decide) rfl ?_
  exact v_sub [1,2,3,0] rfl (vL_Net_allFit_3 g LF n0 a1 a2 (0 : Int32) hn0 σ)
def f_Net_allFit (n0 : Nat) (a1 : Int32) (a2 : Int64) (σ : Sto) : Option (Bool × Sto) := B_Net_allFit_0 n0 a1 a2 σ
theorem sp_Net_allFit {l : Launch} {E : En} (hE : Dj E) {n0 : Nat} {a1 : Int32} {a2 : Int64} (hn0 : cls n0 = 4) {σ : Sto} {r : Bool} {σ' : Sto} (h : f_Net_allFit n0 a1 a2 σ = some (r, σ')) : Ct l E y_Net_allFit (wsM y_Net_allFit b_Net_allFit 5 (some .boolean)) 3 [.ref (E.2.1 n0), .int a1, .long a2] σ (eB r) σ' :=
  ct_of hE (by decide +kernel) (Nat.le_of_ble_eq_true rfl) (fun b => Or.inr (Or.inl ⟨rfl, b, rfl⟩)) (fun X _ g => vB_Net_allFit_0 g n0 a1 a2 hn0 σ) r σ' h
/-! method FittingRings$Net.worthOf(II)I -/
theorem yv_Net_worthOf : YV y_Net_worthOf b_Net_worthOf 3 (some .int) 2 4 := ⟨m1 562 (by decide +kernel) (by decide +kernel), m1 563 (by decide +kernel) (by decide +kernel), ini_Net, m1 564 (by decide +kernel) (by decide +kernel), ⟨by decide +kernel, by decide +kernel, by decide +kernel⟩, by decide, by decide, T_Net, 5, rfl⟩
theorem d_Net_worthOf_0 : decode b_Net_worthOf 0 = .ok (.iload_n 1, 1) := by decide +kernel
theorem d_Net_worthOf_1 : decode b_Net_worthOf 1 = .ok (.ifCond .eq 12, 3) := by decide +kernel
theorem d_Net_worthOf_4 : decode b_Net_worthOf 4 = .ok (.aload_n 0, 1) := by decide +kernel
theorem d_Net_worthOf_5 : decode b_Net_worthOf 5 = .ok (.iload_n 2, 1) := by decide +kernel
theorem d_Net_worthOf_6 : decode b_Net_worthOf 6 = .ok (.i2l, 1) := by decide +kernel
theorem d_Net_worthOf_7 : decode b_Net_worthOf 7 = .ok (.invokevirtual 45, 3) := by decide +kernel
theorem d_Net_worthOf_10 : decode b_Net_worthOf 10 = .ok (.ifCond .ne 7, 3) := by decide +kernel
theorem d_Net_worthOf_13 : decode b_Net_worthOf 13 = .ok (.iconst 1, 1) := by decide +kernel
theorem d_Net_worthOf_14 : decode b_Net_worthOf 14 = .ok (.goto 9, 3) := by decide +kernel
theorem d_Net_worthOf_17 : decode b_Net_worthOf 17 = .ok (.aload_n 0, 1) := by decide +kernel
theorem d_Net_worthOf_18 : decode b_Net_worthOf 18 = .ok (.getfield 26, 3) := by decide +kernel
theorem d_Net_worthOf_21 : decode b_Net_worthOf 21 = .ok (.iload_n 2, 1) := by decide +kernel
theorem d_Net_worthOf_22 : decode b_Net_worthOf 22 = .ok (.iaload, 1) := by decide +kernel
theorem d_Net_worthOf_23 : decode b_Net_worthOf 23 = .ok (.ireturn, 1) := by decide +kernel
def B_Net_worthOf_0 (n0 : Nat) (a1 : Int32) (a2 : Int32) (σ : Sto) : Option (Int32 × Sto) :=
  (if a1 = 0 then some ((1 : Int32), σ)
 else ((f_Net_has n0 (Int32.toInt64 a2) σ).bind fun q1 => (if (b2i q1.1) = 0 then some ((1 : Int32), q1.2)
  else (if inb a2 40 = true then some ((gI q1.2 (n0 + 4) (Int32.toNatClampNeg a2)), q1.2) else none))))
set_option maxHeartbeats 4000000 in
set_option maxRecDepth 100000 in
theorem vB_Net_worthOf_0 {X : Xt} {E : En} (g : GG X E 2 b_Net_worthOf R_Net 3) (n0 : Nat) (a1 : Int32) (a2 : Int32) (hn0 : cls n0 = 4) (σ : Sto) : VV X E b_Net_worthOf 3 eI 0 [(0, .ref (E.2.1 n0)), (1, .int a1), (2, .int a2)] [] σ (B_Net_worthOf_0 n0 a1 a2 σ) := by
  unfold B_Net_worthOf_0
  refine v_iload_n 1 g d_Net_worthOf_0 rfl ?_
  refine v_if_eq 13 g d_Net_worthOf_1 (by decide) (fun _ => ?_) (fun _ => ?_)
  · refine v_iconst (v := (1 : Int32)) g d_Net_worthOf_13 (by decide +kernel) ?_
    refine v_goto 23 g d_Net_worthOf_14 (by decide) ?_
    exact v_ret d_Net_worthOf_23 rfl
  · refine v_aload_n 0 g d_Net_worthOf_4 rfl ?_
    refine v_iload_n 2 g d_Net_worthOf_5 rfl ?_
    refine v_i2l g d_Net_worthOf_6 ?_
    refine v_callB (r_V (rest := []) [.long (Int32.toInt64 a2)] g (m1 382 (by decide +kernel) (by decide +kernel)) yv_Net_has hn0 (fun r σ1 h => sp_Net_has g.2.2.1 hn0 h) rfl rfl (by decide) (Nat.le_of_ble_eq_true rfl) d_Net_worthOf_7) (fun q1 => ?_)
    refine v_if_ne 17 g d_Net_worthOf_10 (by decide) (fun _ => ?_) (fun _ => ?_)
    · refine v_aload_n 0 g d_Net_worthOf_17 rfl ?_
      refine v_getR (n0 + 4) g ff_Net_26 hn0 rfl (rf_Net_4 hn0) d_Net_worthOf_18 ?_
      refine v_iload_n 2 g d_Net_worthOf_21 rfl ?_
      refine v_iald g (ar_Net_4 hn0).1 (ar_Net_4 hn0).2 d_Net_worthOf_22 (fun _ => ?_)
      exact v_ret d_Net_worthOf_23 rfl
    · refine v_iconst (v := (1 : Int32)) g d_Net_worthOf_13 (by decide +kernel) ?_
      refine v_goto 23 g d_Net_worthOf_14 (by decide) ?_
      exact v_ret d_Net_worthOf_23 rfl
def f_Net_worthOf (n0 : Nat) (a1 : Int32) (a2 : Int32) (σ : Sto) : Option (Int32 × Sto) := B_Net_worthOf_0 n0 a1 a2 σ
theorem sp_Net_worthOf {l : Launch} {E : En} (hE : Dj E) {n0 : Nat} {a1 : Int32} {a2 : Int32} (hn0 : cls n0 = 4) {σ : Sto} {r : Int32} {σ' : Sto} (h : f_Net_worthOf n0 a1 a2 σ = some (r, σ')) : Ct l E y_Net_worthOf (wsM y_Net_worthOf b_Net_worthOf 3 (some .int)) 2 [.ref (E.2.1 n0), .int a1, .int a2] σ (eI r) σ' :=
  ct_of hE (by decide +kernel) (Nat.le_of_ble_eq_true rfl) (fun x => Or.inl ⟨rfl, x, rfl⟩) (fun X _ g => vB_Net_worthOf_0 g n0 a1 a2 hn0 σ) r σ' h
/-! method FittingRings$Net.peak(IJ)I -/
theorem yv_Net_peak : YV y_Net_peak b_Net_peak 6 (some .int) 2 4 := ⟨m1 558 (by decide +kernel) (by decide +kernel), m1 559 (by decide +kernel) (by decide +kernel), ini_Net, m1 560 (by decide +kernel) (by decide +kernel), ⟨by decide +kernel, by decide +kernel, by decide +kernel⟩, by decide, by decide, T_Net, 5, rfl⟩
theorem d_Net_peak_0 : decode b_Net_peak 0 = .ok (.iconst 0, 1) := by decide +kernel
theorem d_Net_peak_1 : decode b_Net_peak 1 = .ok (.istore 4, 2) := by decide +kernel
theorem d_Net_peak_3 : decode b_Net_peak 3 = .ok (.iconst 0, 1) := by decide +kernel
theorem d_Net_peak_4 : decode b_Net_peak 4 = .ok (.istore 5, 2) := by decide +kernel
theorem d_Net_peak_6 : decode b_Net_peak 6 = .ok (.iload 5, 2) := by decide +kernel
theorem d_Net_peak_8 : decode b_Net_peak 8 = .ok (.aload_n 0, 1) := by decide +kernel
theorem d_Net_peak_9 : decode b_Net_peak 9 = .ok (.getfield 9, 3) := by decide +kernel
theorem d_Net_peak_12 : decode b_Net_peak 12 = .ok (.if_icmp .ge 32, 3) := by decide +kernel
theorem d_Net_peak_15 : decode b_Net_peak 15 = .ok (.lload_n 2, 1) := by decide +kernel
theorem d_Net_peak_16 : decode b_Net_peak 16 = .ok (.iload 5, 2) := by decide +kernel
theorem d_Net_peak_18 : decode b_Net_peak 18 = .ok (.invokestatic 49, 3) := by decide +kernel
theorem d_Net_peak_21 : decode b_Net_peak 21 = .ok (.ifCond .eq 17, 3) := by decide +kernel
theorem d_Net_peak_24 : decode b_Net_peak 24 = .ok (.iload 4, 2) := by decide +kernel
theorem d_Net_peak_26 : decode b_Net_peak 26 = .ok (.aload_n 0, 1) := by decide +kernel
theorem d_Net_peak_27 : decode b_Net_peak 27 = .ok (.iload_n 1, 1) := by decide +kernel
theorem d_Net_peak_28 : decode b_Net_peak 28 = .ok (.iload 5, 2) := by decide +kernel
theorem d_Net_peak_30 : decode b_Net_peak 30 = .ok (.invokevirtual 73, 3) := by decide +kernel
theorem d_Net_peak_33 : decode b_Net_peak 33 = .ok (.invokestatic 67, 3) := by decide +kernel
theorem d_Net_peak_36 : decode b_Net_peak 36 = .ok (.istore 4, 2) := by decide +kernel
theorem d_Net_peak_38 : decode b_Net_peak 38 = .ok (.iinc 5 1, 3) := by decide +kernel
theorem d_Net_peak_41 : decode b_Net_peak 41 = .ok (.goto (-35), 3) := by decide +kernel
theorem d_Net_peak_44 : decode b_Net_peak 44 = .ok (.iload 4, 2) := by decide +kernel
theorem d_Net_peak_46 : decode b_Net_peak 46 = .ok (.ireturn, 1) := by decide +kernel
def B_Net_peak_6 (k6 : Nat → Int32 → Int64 → Int32 → Int32 → Sto → Option (Int32 × Sto)) (v0 : Nat) (v1 : Int32) (v2 : Int64) (v4 : Int32) (v5 : Int32) (σ : Sto) : Option (Int32 × Sto) :=
  (if (gI σ v0 0) ≤ v5 then some (v4, σ)
 else ((f_FR_isOf v2 v5 σ).bind fun q1 => (if (b2i q1.1) = 0 then k6 v0 v1 v2 v4 (v5 + (1 : Int32)) q1.2
  else ((f_Net_worthOf v0 v1 v5 q1.2).bind fun q2 => k6 v0 v1 v2 (mxI v4 q2.1) (v5 + (1 : Int32)) q2.2))))
set_option maxHeartbeats 4000000 in
set_option maxRecDepth 100000 in
theorem vB_Net_peak_6 {X : Xt} {E : En} (g : GG X E 3 b_Net_peak R_Net 6) {k6 : Nat → Int32 → Int64 → Int32 → Int32 → Sto → Option (Int32 × Sto)} (hk6 : ∀ (v0 : Nat) (v1 : Int32) (v2 : Int64) (v4 : Int32) (v5 : Int32) (hv0 : cls v0 = 4) (σ : Sto), VV X E b_Net_peak 6 eI 6 [(0, .ref (E.2.1 v0)), (1, .int v1), (2, .long v2), (4, .int v4), (5, .int v5)] [] σ (k6 v0 v1 v2 v4 v5 σ)) (v0 : Nat) (v1 : Int32) (v2 : Int64) (v4 : Int32) (v5 : Int32) (hv0 : cls v0 = 4) (σ : Sto) : VV X E b_Net_peak 6 eI 6 [(0, .ref (E.2.1 v0)), (1, .int v1), (2, .long v2), (4, .int v4), (5, .int v5)] [] σ (B_Net_peak_6 k6 v0 v1 v2 v4 v5 σ) := by
  unfold B_Net_peak_6
  refine v_iload 4 g d_Net_peak_6 rfl ?_
  refine v_aload_n 0 g d_Net_peak_8 rfl ?_
  refine v_getI g ff_Net_9 hv0 rfl d_Net_peak_9 ?_
  refine v_icmp_ge 44 g d_Net_peak_12 (by decide) (fun _ => ?_) (fun _ => ?_)
  · refine v_iload 3 g d_Net_peak_44 rfl ?_
    exact v_ret d_Net_peak_46 rfl
  · refine v_lload_n 2 g d_Net_peak_15 rfl ?_
    refine v_iload 4 g d_Net_peak_16 rfl ?_
    refine v_callB (r_SN (rest := []) (host := R_FR) [.long v2, .int v5] g (by decide +kernel) ys_FR_isOf (fun r σ1 h => sp_FR_isOf g.2.2.1  h) rfl rfl (by decide) (Nat.le_of_ble_eq_true rfl) d_Net_peak_18) (fun q1 => ?_)
    refine v_if_eq 38 g d_Net_peak_21 (by decide) (fun _ => ?_) (fun _ => ?_)
    · refine v_iinc 4 [(5, .int (v5 + (1 : Int32))), (0, .ref (E.2.1 v0)), (1, .int v1), (2, .long v2), (4, .int v4)] g d_Net_peak_38 rfl (v := (1 : Int32)) (by decide +kernel) (by decide) rfl ?_
      refine v_goto 6 g d_Net_peak_41 (by decide) ?_
      exact v_sub [1,2,3,4,0] rfl (hk6 v0 v1 v2 v4 (v5 + (1 : Int32)) hv0 q1.2)
    · refine v_iload 3 g d_Net_peak_24 rfl ?_
      refine v_aload_n 0 g d_Net_peak_26 rfl ?_
      refine v_iload_n 1 g d_Net_peak_27 rfl ?_
      refine v_iload 4 g d_Net_peak_28 rfl ?_
      refine v_callI (r_V (rest := [.int v4]) [.int v1, .int v5] g (m1 561 (by decide +kernel) (by decide +kernel)) yv_Net_worthOf hv0 (fun r σ1 h => sp_Net_worthOf g.2.2.1 hv0 h) rfl rfl (by decide) (Nat.le_of_ble_eq_true rfl) d_Net_peak_30) (fun q2 => ?_)
      refine v_mmax g (m1 392 (by decide +kernel) (by decide +kernel)) (by decide) (Nat.le_of_ble_eq_true rfl) d_Net_peak_33 ?_
      refine v_istore [(4, .int (mxI v4 q2.1)), (0, .ref (E.2.1 v0)), (1, .int v1), (2, .long v2), (5, .int v5)] g d_Net_peak_36 (by decide) rfl ?_
      refine v_iinc 4 [(5, .int (v5 + (1 : Int32))), (4, .int (mxI v4 q2.1)), (0, .ref (E.2.1 v0)), (1, .int v1), (2, .long v2)] g d_Net_peak_38 rfl (v := (1 : Int32)) (by decide +kernel) (by decide) rfl ?_
      refine v_goto 6 g d_Net_peak_41 (by decide) ?_
      exact v_sub [2,3,4,1,0] rfl (hk6 v0 v1 v2 (mxI v4 q2.1) (v5 + (1 : Int32)) hv0 q2.2)
def L_Net_peak_6 : Nat → Nat → Int32 → Int64 → Int32 → Int32 → Sto → Option (Int32 × Sto)
  | 0, _, _, _, _, _, _ => none
  | fu + 1, v0, v1, v2, v4, v5, σ => B_Net_peak_6 (L_Net_peak_6 fu) v0 v1 v2 v4 v5 σ
theorem vL_Net_peak_6 {X : Xt} {E : En} (g : GG X E 3 b_Net_peak R_Net 6) (fu : Nat) : ∀ (v0 : Nat) (v1 : Int32) (v2 : Int64) (v4 : Int32) (v5 : Int32) (hv0 : cls v0 = 4) (σ : Sto), VV X E b_Net_peak 6 eI 6 [(0, .ref (E.2.1 v0)), (1, .int v1), (2, .long v2), (4, .int v4), (5, .int v5)] [] σ (L_Net_peak_6 fu v0 v1 v2 v4 v5 σ) := by
  induction fu with
  | zero => intros; exact v_none
  | succ fu ih =>
    intro v0 v1 v2 v4 v5 hv0 σ
    exact vB_Net_peak_6 g ih v0 v1 v2 v4 v5 hv0 σ
def B_Net_peak_0 (n0 : Nat) (a1 : Int32) (a2 : Int64) (σ : Sto) : Option (Int32 × Sto) :=
  L_Net_peak_6 LF n0 a1 a2 (0 : Int32) (0 : Int32) σ
set_option maxHeartbeats 4000000 in
set_option maxRecDepth 100000 in
theorem vB_Net_peak_0 {X : Xt} {E : En} (g : GG X E 3 b_Net_peak R_Net 6) (n0 : Nat) (a1 : Int32) (a2 : Int64) (hn0 : cls n0 = 4) (σ : Sto) : VV X E b_Net_peak 6 eI 0 [(0, .ref (E.2.1 n0)), (1, .int a1), (2, .long a2)] [] σ (B_Net_peak_0 n0 a1 a2 σ) := by
  unfold B_Net_peak_0
  refine v_iconst (v := (0 : Int32)) g d_Net_peak_0 (by decide +kernel) ?_
  refine v_istore [(4, .int (0 : Int32)), (0, .ref (E.2.1 n0)), (1, .int a1), (2, .long a2)] g d_Net_peak_1 (by decide) rfl ?_
  refine v_iconst (v := (0 : Int32)) g d_Net_peak_3 (by decide +kernel) ?_
  refine v_istore [(5, .int (0 : Int32)), (4, .int (0 : Int32)), (0, .ref (E.2.1 n0)), (1, .int a1), (2, .long a2)] g d_Net_peak_4 (by decide) rfl ?_
  exact v_sub [2,3,4,1,0] rfl (vL_Net_peak_6 g LF n0 a1 a2 (0 : Int32) (0 : Int32) hn0 σ)
def f_Net_peak (n0 : Nat) (a1 : Int32) (a2 : Int64) (σ : Sto) : Option (Int32 × Sto) := B_Net_peak_0 n0 a1 a2 σ
theorem sp_Net_peak {l : Launch} {E : En} (hE : Dj E) {n0 : Nat} {a1 : Int32} {a2 : Int64} (hn0 : cls n0 = 4) {σ : Sto} {r : Int32} {σ' : Sto} (h : f_Net_peak n0 a1 a2 σ = some (r, σ')) : Ct l E y_Net_peak (wsM y_Net_peak b_Net_peak 6 (some .int)) 3 [.ref (E.2.1 n0), .int a1, .long a2] σ (eI r) σ' :=
  ct_of hE (by decide +kernel) (Nat.le_of_ble_eq_true rfl) (fun x => Or.inl ⟨rfl, x, rfl⟩) (fun X _ g => vB_Net_peak_0 g n0 a1 a2 hn0 σ) r σ' h
/-! method FittingRings$Net.turnTwo(II)V -/
theorem yv_Net_turnTwo : YV y_Net_turnTwo b_Net_turnTwo 3 (none) 2 4 := ⟨m1 658 (by decide +kernel) (by decide +kernel), m1 659 (by decide +kernel) (by decide +kernel), ini_Net, m1 660 (by decide +kernel) (by decide +kernel), ⟨by decide +kernel, by decide +kernel, by decide +kernel⟩, by decide, by decide, T_Net, 5, rfl⟩
theorem d_Net_turnTwo_0 : decode b_Net_turnTwo 0 = .ok (.aload_n 0, 1) := by decide +kernel
theorem d_Net_turnTwo_1 : decode b_Net_turnTwo 1 = .ok (.iload_n 1, 1) := by decide +kernel
theorem d_Net_turnTwo_2 : decode b_Net_turnTwo 2 = .ok (.iload_n 2, 1) := by decide +kernel
theorem d_Net_turnTwo_3 : decode b_Net_turnTwo 3 = .ok (.aload_n 0, 1) := by decide +kernel
theorem d_Net_turnTwo_4 : decode b_Net_turnTwo 4 = .ok (.iload_n 1, 1) := by decide +kernel
theorem d_Net_turnTwo_5 : decode b_Net_turnTwo 5 = .ok (.iload_n 2, 1) := by decide +kernel
theorem d_Net_turnTwo_6 : decode b_Net_turnTwo 6 = .ok (.invokevirtual 53, 3) := by decide +kernel
theorem d_Net_turnTwo_9 : decode b_Net_turnTwo 9 = .ok (.ifCond .ne 7, 3) := by decide +kernel
theorem d_Net_turnTwo_12 : decode b_Net_turnTwo 12 = .ok (.iconst 1, 1) := by decide +kernel
theorem d_Net_turnTwo_13 : decode b_Net_turnTwo 13 = .ok (.goto 4, 3) := by decide +kernel
theorem d_Net_turnTwo_16 : decode b_Net_turnTwo 16 = .ok (.iconst 0, 1) := by decide +kernel
theorem d_Net_turnTwo_17 : decode b_Net_turnTwo 17 = .ok (.invokevirtual 57, 3) := by decide +kernel
theorem d_Net_turnTwo_20 : decode b_Net_turnTwo 20 = .ok (.return_, 1) := by decide +kernel
def B_Net_turnTwo_0 (n0 : Nat) (a1 : Int32) (a2 : Int32) (σ : Sto) : Option (Unit × Sto) :=
  ((f_Net_isTied n0 a1 a2 σ).bind fun q1 => (if (b2i q1.1) = 0 then ((f_Net_tie n0 a1 a2 (1 : Int32) q1.2).bind fun q3 => some ((), q3.2))
 else ((f_Net_tie n0 a1 a2 (0 : Int32) q1.2).bind fun q2 => some ((), q2.2))))
set_option maxHeartbeats 4000000 in
set_option maxRecDepth 100000 in
theorem vB_Net_turnTwo_0 {X : Xt} {E : En} (g : GG X E 4 b_Net_turnTwo R_Net 3) (n0 : Nat) (a1 : Int32) (a2 : Int32) (hn0 : cls n0 = 4) (σ : Sto) : VV X E b_Net_turnTwo 3 eU 0 [(0, .ref (E.2.1 n0)), (1, .int a1), (2, .int a2)] [] σ (B_Net_turnTwo_0 n0 a1 a2 σ) := by
  unfold B_Net_turnTwo_0
  refine v_aload_n 0 g d_Net_turnTwo_0 rfl ?_
  refine v_iload_n 1 g d_Net_turnTwo_1 rfl ?_
  refine v_iload_n 2 g d_Net_turnTwo_2 rfl ?_
  refine v_aload_n 0 g d_Net_turnTwo_3 rfl ?_
  refine v_iload_n 1 g d_Net_turnTwo_4 rfl ?_
  refine v_iload_n 2 g d_Net_turnTwo_5 rfl ?_
  refine v_callB (r_V (rest := [.int a2, .int a1, .ref (E.2.1 n0)]) [.int a1, .int a2] g (m1 661 (by decide +kernel) (by decide +kernel)) yv_Net_isTied hn0 (fun r σ1 h => sp_Net_isTied g.2.2.1 hn0 h) rfl rfl (by decide) (Nat.le_of_ble_eq_true rfl) d_Net_turnTwo_6) (fun q1 => ?_)
  refine v_if_ne 16 g d_Net_turnTwo_9 (by decide) (fun _ => ?_) (fun _ => ?_)
  · refine v_iconst (v := (0 : Int32)) g d_Net_turnTwo_16 (by decide +kernel) ?_
    refine v_callU (r_V (rest := []) [.int a1, .int a2, .int (0 : Int32)] g (m1 662 (by decide +kernel) (by decide +kernel)) yv_Net_tie hn0 (fun r σ1 h => sp_Net_tie g.2.2.1 hn0 h) rfl rfl (by decide) (Nat.le_of_ble_eq_true rfl) d_Net_turnTwo_17) (fun q2 => ?_)
    exact v_ret d_Net_turnTwo_20 rfl
  · refine v_iconst (v := (1 : Int32)) g d_Net_turnTwo_12 (by decide +kernel) ?_
    refine v_goto 17 g d_Net_turnTwo_13 (by decide) ?_
    refine v_callU (r_V (rest := []) [.int a1, .int a2, .int (1 : Int32)] g (m1 662 (by decide +kernel) (by decide +kernel)) yv_Net_tie hn0 (fun r σ1 h => sp_Net_tie g.2.2.1 hn0 h) rfl rfl (by decide) (Nat.le_of_ble_eq_true rfl) d_Net_turnTwo_17) (fun q3 => ?_)
    exact v_ret d_Net_turnTwo_20 rfl
def f_Net_turnTwo (n0 : Nat) (a1 : Int32) (a2 : Int32) (σ : Sto) : Option (Unit × Sto) := B_Net_turnTwo_0 n0 a1 a2 σ
theorem sp_Net_turnTwo {l : Launch} {E : En} (hE : Dj E) {n0 : Nat} {a1 : Int32} {a2 : Int32} (hn0 : cls n0 = 4) {σ : Sto} {r : Unit} {σ' : Sto} (h : f_Net_turnTwo n0 a1 a2 σ = some (r, σ')) : Ct l E y_Net_turnTwo (wsM y_Net_turnTwo b_Net_turnTwo 3 (none)) 4 [.ref (E.2.1 n0), .int a1, .int a2] σ (eU r) σ' :=
  ct_of hE (by decide +kernel) (Nat.le_of_ble_eq_true rfl) (fun _ => Or.inr (Or.inr (Or.inr (Or.inl ⟨rfl, rfl⟩)))) (fun X _ g => vB_Net_turnTwo_0 g n0 a1 a2 hn0 σ) r σ' h
/-! method FittingRings$Net.fittingAll(IJJ)J -/
theorem yv_Net_fittingAll : YV y_Net_fittingAll b_Net_fittingAll 9 (some .long) 3 4 := ⟨m1 693 (by decide +kernel) (by decide +kernel), m1 694 (by decide +kernel) (by decide +kernel), ini_Net, m1 695 (by decide +kernel) (by decide +kernel), ⟨by decide +kernel, by decide +kernel, by decide +kernel⟩, by decide, by decide, T_Net, 5, rfl⟩
theorem d_Net_fittingAll_0 : decode b_Net_fittingAll 0 = .ok (.lload 4, 2) := by decide +kernel
theorem d_Net_fittingAll_2 : decode b_Net_fittingAll 2 = .ok (.lstore 6, 2) := by decide +kernel
theorem d_Net_fittingAll_4 : decode b_Net_fittingAll 4 = .ok (.iconst 0, 1) := by decide +kernel
theorem d_Net_fittingAll_5 : decode b_Net_fittingAll 5 = .ok (.istore 8, 2) := by decide +kernel
theorem d_Net_fittingAll_7 : decode b_Net_fittingAll 7 = .ok (.iload 8, 2) := by decide +kernel
theorem d_Net_fittingAll_9 : decode b_Net_fittingAll 9 = .ok (.aload_n 0, 1) := by decide +kernel
theorem d_Net_fittingAll_10 : decode b_Net_fittingAll 10 = .ok (.getfield 9, 3) := by decide +kernel
theorem d_Net_fittingAll_13 : decode b_Net_fittingAll 13 = .ok (.if_icmp .ge 29, 3) := by decide +kernel
theorem d_Net_fittingAll_16 : decode b_Net_fittingAll 16 = .ok (.lload_n 2, 1) := by decide +kernel
theorem d_Net_fittingAll_17 : decode b_Net_fittingAll 17 = .ok (.iload 8, 2) := by decide +kernel
theorem d_Net_fittingAll_19 : decode b_Net_fittingAll 19 = .ok (.invokestatic 49, 3) := by decide +kernel
theorem d_Net_fittingAll_22 : decode b_Net_fittingAll 22 = .ok (.ifCond .eq 14, 3) := by decide +kernel
theorem d_Net_fittingAll_25 : decode b_Net_fittingAll 25 = .ok (.aload_n 0, 1) := by decide +kernel
theorem d_Net_fittingAll_26 : decode b_Net_fittingAll 26 = .ok (.iload_n 1, 1) := by decide +kernel
theorem d_Net_fittingAll_27 : decode b_Net_fittingAll 27 = .ok (.iload 8, 2) := by decide +kernel
theorem d_Net_fittingAll_29 : decode b_Net_fittingAll 29 = .ok (.lload 6, 2) := by decide +kernel
theorem d_Net_fittingAll_31 : decode b_Net_fittingAll 31 = .ok (.invokevirtual 76, 3) := by decide +kernel
theorem d_Net_fittingAll_34 : decode b_Net_fittingAll 34 = .ok (.lstore 6, 2) := by decide +kernel
theorem d_Net_fittingAll_36 : decode b_Net_fittingAll 36 = .ok (.iinc 8 1, 3) := by decide +kernel
theorem d_Net_fittingAll_39 : decode b_Net_fittingAll 39 = .ok (.goto (-32), 3) := by decide +kernel
theorem d_Net_fittingAll_42 : decode b_Net_fittingAll 42 = .ok (.lload 6, 2) := by decide +kernel
theorem d_Net_fittingAll_44 : decode b_Net_fittingAll 44 = .ok (.lreturn, 1) := by decide +kernel
def B_Net_fittingAll_7 (k7 : Nat → Int32 → Int64 → Int64 → Int32 → Sto → Option (Int64 × Sto)) (v0 : Nat) (v1 : Int32) (v2 : Int64) (v6 : Int64) (v8 : Int32) (σ : Sto) : Option (Int64 × Sto) :=
  (if (gI σ v0 0) ≤ v8 then some (v6, σ)
 else ((f_FR_isOf v2 v8 σ).bind fun q1 => (if (b2i q1.1) = 0 then k7 v0 v1 v2 v6 (v8 + (1 : Int32)) q1.2
  else ((f_Net_fitting v0 v1 v8 v6 q1.2).bind fun q2 => k7 v0 v1 v2 q2.1 (v8 + (1 : Int32)) q2.2))))
set_option maxHeartbeats 4000000 in
set_option maxRecDepth 100000 in
theorem vB_Net_fittingAll_7 {X : Xt} {E : En} (g : GG X E 3 b_Net_fittingAll R_Net 9) {k7 : Nat → Int32 → Int64 → Int64 → Int32 → Sto → Option (Int64 × Sto)} (hk7 : ∀ (v0 : Nat) (v1 : Int32) (v2 : Int64) (v6 : Int64) (v8 : Int32) (hv0 : cls v0 = 4) (σ : Sto), VV X E b_Net_fittingAll 9 eL 7 [(0, .ref (E.2.1 v0)), (1, .int v1), (2, .long v2), (6, .long v6), (8, .int v8)] [] σ (k7 v0 v1 v2 v6 v8 σ)) (v0 : Nat) (v1 : Int32) (v2 : Int64) (v6 : Int64) (v8 : Int32) (hv0 : cls v0 = 4) (σ : Sto) : VV X E b_Net_fittingAll 9 eL 7 [(0, .ref (E.2.1 v0)), (1, .int v1), (2, .long v2), (6, .long v6), (8, .int v8)] [] σ (B_Net_fittingAll_7 k7 v0 v1 v2 v6 v8 σ) := by
  unfold B_Net_fittingAll_7
  refine v_iload 4 g d_Net_fittingAll_7 rfl ?_
  refine v_aload_n 0 g d_Net_fittingAll_9 rfl ?_
  refine v_getI g ff_Net_9 hv0 rfl d_Net_fittingAll_10 ?_
  refine v_icmp_ge 42 g d_Net_fittingAll_13 (by decide) (fun _ => ?_) (fun _ => ?_)
  · refine v_lload 3 g d_Net_fittingAll_42 rfl ?_
    exact v_ret d_Net_fittingAll_44 rfl
  · refine v_lload_n 2 g d_Net_fittingAll_16 rfl ?_
    refine v_iload 4 g d_Net_fittingAll_17 rfl ?_
    refine v_callB (r_SN (rest := []) (host := R_FR) [.long v2, .int v8] g (by decide +kernel) ys_FR_isOf (fun r σ1 h => sp_FR_isOf g.2.2.1  h) rfl rfl (by decide) (Nat.le_of_ble_eq_true rfl) d_Net_fittingAll_19) (fun q1 => ?_)
    refine v_if_eq 36 g d_Net_fittingAll_22 (by decide) (fun _ => ?_) (fun _ => ?_)
    · refine v_iinc 4 [(8, .int (v8 + (1 : Int32))), (0, .ref (E.2.1 v0)), (1, .int v1), (2, .long v2), (6, .long v6)] g d_Net_fittingAll_36 rfl (v := (1 : Int32)) (by decide +kernel) (by decide) rfl ?_
      refine v_goto 7 g d_Net_fittingAll_39 (by decide) ?_
      exact v_sub [1,2,3,4,0] rfl (hk7 v0 v1 v2 v6 (v8 + (1 : Int32)) hv0 q1.2)
    · refine v_aload_n 0 g d_Net_fittingAll_25 rfl ?_
      refine v_iload_n 1 g d_Net_fittingAll_26 rfl ?_
      refine v_iload 4 g d_Net_fittingAll_27 rfl ?_
      refine v_lload 3 g d_Net_fittingAll_29 rfl ?_
      refine v_callL (r_V (rest := []) [.int v1, .int v8, .long v6] g (m1 481 (by decide +kernel) (by decide +kernel)) yv_Net_fitting hv0 (fun r σ1 h => sp_Net_fitting g.2.2.1 hv0 h) rfl rfl (by decide) (Nat.le_of_ble_eq_true rfl) d_Net_fittingAll_31) (fun q2 => ?_)
      refine v_lstore [(6, .long q2.1), (0, .ref (E.2.1 v0)), (1, .int v1), (2, .long v2), (8, .int v8)] g d_Net_fittingAll_34 (by decide) rfl ?_
      refine v_iinc 4 [(8, .int (v8 + (1 : Int32))), (6, .long q2.1), (0, .ref (E.2.1 v0)), (1, .int v1), (2, .long v2)] g d_Net_fittingAll_36 rfl (v := (1 : Int32)) (by decide +kernel) (by decide) rfl ?_
      refine v_goto 7 g d_Net_fittingAll_39 (by decide) ?_
      exact v_sub [2,3,4,1,0] rfl (hk7 v0 v1 v2 q2.1 (v8 + (1 : Int32)) hv0 q2.2)
def L_Net_fittingAll_7 : Nat → Nat → Int32 → Int64 → Int64 → Int32 → Sto → Option (Int64 × Sto)
  | 0, _, _, _, _, _, _ => none
  | fu + 1, v0, v1, v2, v6, v8, σ => B_Net_fittingAll_7 (L_Net_fittingAll_7 fu) v0 v1 v2 v6 v8 σ
theorem vL_Net_fittingAll_7 {X : Xt} {E : En} (g : GG X E 3 b_Net_fittingAll R_Net 9) (fu : Nat) : ∀ (v0 : Nat) (v1 : Int32) (v2 : Int64) (v6 : Int64) (v8 : Int32) (hv0 : cls v0 = 4) (σ : Sto), VV X E b_Net_fittingAll 9 eL 7 [(0, .ref (E.2.1 v0)), (1, .int v1), (2, .long v2), (6, .long v6), (8, .int v8)] [] σ (L_Net_fittingAll_7 fu v0 v1 v2 v6 v8 σ) := by
  induction fu with
  | zero => intros; exact v_none
  | succ fu ih =>
    intro v0 v1 v2 v6 v8 hv0 σ
    exact vB_Net_fittingAll_7 g ih v0 v1 v2 v6 v8 hv0 σ
def B_Net_fittingAll_0 (n0 : Nat) (a1 : Int32) (a2 : Int64) (a4 : Int64) (σ : Sto) : Option (Int64 × Sto) :=
  L_Net_fittingAll_7 LF n0 a1 a2 a4 (0 : Int32) σ
set_option maxHeartbeats 4000000 in
set_option maxRecDepth 100000 in
theorem vB_Net_fittingAll_0 {X : Xt} {E : En} (g : GG X E 3 b_Net_fittingAll R_Net 9) (n0 : Nat) (a1 : Int32) (a2 : Int64) (a4 : Int64) (hn0 : cls n0 = 4) (σ : Sto) : VV X E b_Net_fittingAll 9 eL 0 [(0, .ref (E.2.1 n0)), (1, .int a1), (2, .long a2), (4, .long a4)] [] σ (B_Net_fittingAll_0 n0 a1 a2 a4 σ) := by
  unfold B_Net_fittingAll_0
  refine v_lload 3 g d_Net_fittingAll_0 rfl ?_
  refine v_lstore [(6, .long a4), (0, .ref (E.2.1 n0)), (1, .int a1), (2, .long a2), (4, .long a4)] g d_Net_fittingAll_2 (by decide) rfl ?_
  refine v_iconst (v := (0 : Int32)) g d_Net_fittingAll_4 (by decide +kernel) ?_
  refine v_istore [(8, .int (0 : Int32)), (6, .long a4), (0, .ref (E.2.1 n0)), (1, .int a1), (2, .long a2), (4, .long a4)] g d_Net_fittingAll_5 (by decide) rfl ?_
  exact v_sub [2,3,4,1,0] rfl (vL_Net_fittingAll_7 g LF n0 a1 a2 a4 (0 : Int32) hn0 σ)
def f_Net_fittingAll (n0 : Nat) (a1 : Int32) (a2 : Int64) (a4 : Int64) (σ : Sto) : Option (Int64 × Sto) := B_Net_fittingAll_0 n0 a1 a2 a4 σ
theorem sp_Net_fittingAll {l : Launch} {E : En} (hE : Dj E) {n0 : Nat} {a1 : Int32} {a2 : Int64} {a4 : Int64} (hn0 : cls n0 = 4) {σ : Sto} {r : Int64} {σ' : Sto} (h : f_Net_fittingAll n0 a1 a2 a4 σ = some (r, σ')) : Ct l E y_Net_fittingAll (wsM y_Net_fittingAll b_Net_fittingAll 9 (some .long)) 3 [.ref (E.2.1 n0), .int a1, .long a2, .long a4] σ (eL r) σ' :=
  ct_of hE (by decide +kernel) (Nat.le_of_ble_eq_true rfl) (fun x => Or.inr (Or.inr (Or.inl ⟨rfl, x, rfl⟩))) (fun X _ g => vB_Net_fittingAll_0 g n0 a1 a2 a4 hn0 σ) r σ' h
/-! method FittingRings$Net.withOneMore(IJJ)J -/
theorem yv_Net_withOneMore : YV y_Net_withOneMore b_Net_withOneMore 8 (some .long) 3 4 := ⟨m1 689 (by decide +kernel) (by decide +kernel), m1 690 (by decide +kernel) (by decide +kernel), ini_Net, m1 691 (by decide +kernel) (by decide +kernel), ⟨by decide +kernel, by decide +kernel, by decide +kernel⟩, by decide, by decide, T_Net, 5, rfl⟩
theorem d_Net_withOneMore_0 : decode b_Net_withOneMore 0 = .ok (.aload_n 0, 1) := by decide +kernel
theorem d_Net_withOneMore_1 : decode b_Net_withOneMore 1 = .ok (.iload_n 1, 1) := by decide +kernel
theorem d_Net_withOneMore_2 : decode b_Net_withOneMore 2 = .ok (.lload_n 2, 1) := by decide +kernel
theorem d_Net_withOneMore_3 : decode b_Net_withOneMore 3 = .ok (.lload 4, 2) := by decide +kernel
theorem d_Net_withOneMore_5 : decode b_Net_withOneMore 5 = .ok (.lload_n 2, 1) := by decide +kernel
theorem d_Net_withOneMore_6 : decode b_Net_withOneMore 6 = .ok (.ldc2_w 33, 3) := by decide +kernel
theorem d_Net_withOneMore_9 : decode b_Net_withOneMore 9 = .ok (.lxor, 1) := by decide +kernel
theorem d_Net_withOneMore_10 : decode b_Net_withOneMore 10 = .ok (.land, 1) := by decide +kernel
theorem d_Net_withOneMore_11 : decode b_Net_withOneMore 11 = .ok (.invokevirtual 80, 3) := by decide +kernel
theorem d_Net_withOneMore_14 : decode b_Net_withOneMore 14 = .ok (.lstore 6, 2) := by decide +kernel
theorem d_Net_withOneMore_16 : decode b_Net_withOneMore 16 = .ok (.lload_n 2, 1) := by decide +kernel
theorem d_Net_withOneMore_17 : decode b_Net_withOneMore 17 = .ok (.lload 6, 2) := by decide +kernel
theorem d_Net_withOneMore_19 : decode b_Net_withOneMore 19 = .ok (.lload 6, 2) := by decide +kernel
theorem d_Net_withOneMore_21 : decode b_Net_withOneMore 21 = .ok (.lneg, 1) := by decide +kernel
theorem d_Net_withOneMore_22 : decode b_Net_withOneMore 22 = .ok (.land, 1) := by decide +kernel
theorem d_Net_withOneMore_23 : decode b_Net_withOneMore 23 = .ok (.lor, 1) := by decide +kernel
theorem d_Net_withOneMore_24 : decode b_Net_withOneMore 24 = .ok (.lreturn, 1) := by decide +kernel
def B_Net_withOneMore_0 (n0 : Nat) (a1 : Int32) (a2 : Int64) (a4 : Int64) (σ : Sto) : Option (Int64 × Sto) :=
  ((f_Net_fittingAll n0 a1 a2 (a4 &&& (a2 ^^^ (-1 : Int64))) σ).bind fun q1 => some ((a2 ||| (q1.1 &&& (-q1.1))), q1.2))
set_option maxHeartbeats 4000000 in
set_option maxRecDepth 100000 in
theorem vB_Net_withOneMore_0 {X : Xt} {E : En} (g : GG X E 4 b_Net_withOneMore R_Net 8) (n0 : Nat) (a1 : Int32) (a2 : Int64) (a4 : Int64) (hn0 : cls n0 = 4) (σ : Sto) : VV X E b_Net_withOneMore 8 eL 0 [(0, .ref (E.2.1 n0)), (1, .int a1), (2, .long a2), (4, .long a4)] [] σ (B_Net_withOneMore_0 n0 a1 a2 a4 σ) := by
  unfold B_Net_withOneMore_0
  refine v_aload_n 0 g d_Net_withOneMore_0 rfl ?_
  refine v_iload_n 1 g d_Net_withOneMore_1 rfl ?_
  refine v_lload_n 2 g d_Net_withOneMore_2 rfl ?_
  refine v_lload 3 g d_Net_withOneMore_3 rfl ?_
  refine v_lload_n 2 g d_Net_withOneMore_5 rfl ?_
  refine v_ldc2 (v := (-1 : Int64)) g (m1 428 (by decide +kernel) (by decide +kernel)) d_Net_withOneMore_6 ?_
  refine v_lxor g d_Net_withOneMore_9 ?_
  refine v_land g d_Net_withOneMore_10 ?_
  refine v_callL (r_V (rest := []) [.int a1, .long a2, .long (a4 &&& (a2 ^^^ (-1 : Int64)))] g (m1 692 (by decide +kernel) (by decide +kernel)) yv_Net_fittingAll hn0 (fun r σ1 h => sp_Net_fittingAll g.2.2.1 hn0 h) rfl rfl (by decide) (Nat.le_of_ble_eq_true rfl) d_Net_withOneMore_11) (fun q1 => ?_)
  refine v_lstore [(6, .long q1.1), (0, .ref (E.2.1 n0)), (1, .int a1), (2, .long a2), (4, .long a4)] g d_Net_withOneMore_14 (by decide) rfl ?_
  refine v_lload_n 3 g d_Net_withOneMore_16 rfl ?_
  refine v_lload 0 g d_Net_withOneMore_17 rfl ?_
  refine v_lload 0 g d_Net_withOneMore_19 rfl ?_
  refine v_lneg g d_Net_withOneMore_21 ?_
  refine v_land g d_Net_withOneMore_22 ?_
  refine v_lor g d_Net_withOneMore_23 ?_
  exact v_ret d_Net_withOneMore_24 rfl
def f_Net_withOneMore (n0 : Nat) (a1 : Int32) (a2 : Int64) (a4 : Int64) (σ : Sto) : Option (Int64 × Sto) := B_Net_withOneMore_0 n0 a1 a2 a4 σ
theorem sp_Net_withOneMore {l : Launch} {E : En} (hE : Dj E) {n0 : Nat} {a1 : Int32} {a2 : Int64} {a4 : Int64} (hn0 : cls n0 = 4) {σ : Sto} {r : Int64} {σ' : Sto} (h : f_Net_withOneMore n0 a1 a2 a4 σ = some (r, σ')) : Ct l E y_Net_withOneMore (wsM y_Net_withOneMore b_Net_withOneMore 8 (some .long)) 4 [.ref (E.2.1 n0), .int a1, .long a2, .long a4] σ (eL r) σ' :=
  ct_of hE (by decide +kernel) (Nat.le_of_ble_eq_true rfl) (fun x => Or.inr (Or.inr (Or.inl ⟨rfl, x, rfl⟩))) (fun X _ g => vB_Net_withOneMore_0 g n0 a1 a2 a4 hn0 σ) r σ' h
/-! method FittingRings$Net.firstTwo(IJ)J -/
theorem yv_Net_firstTwo : YV y_Net_firstTwo b_Net_firstTwo 7 (some .long) 2 4 := ⟨m1 702 (by decide +kernel) (by decide +kernel), m1 11 (by decide +kernel) (by decide +kernel), ini_Net, m1 703 (by decide +kernel) (by decide +kernel), ⟨by decide +kernel, by decide +kernel, by decide +kernel⟩, by decide, by decide, T_Net, 5, rfl⟩
theorem d_Net_firstTwo_0 : decode b_Net_firstTwo 0 = .ok (.iconst 0, 1) := by decide +kernel
theorem d_Net_firstTwo_1 : decode b_Net_firstTwo 1 = .ok (.istore 4, 2) := by decide +kernel
theorem d_Net_firstTwo_3 : decode b_Net_firstTwo 3 = .ok (.iload 4, 2) := by decide +kernel
theorem d_Net_firstTwo_5 : decode b_Net_firstTwo 5 = .ok (.aload_n 0, 1) := by decide +kernel
theorem d_Net_firstTwo_6 : decode b_Net_firstTwo 6 = .ok (.getfield 9, 3) := by decide +kernel
theorem d_Net_firstTwo_9 : decode b_Net_firstTwo 9 = .ok (.if_icmp .ge 54, 3) := by decide +kernel
theorem d_Net_firstTwo_12 : decode b_Net_firstTwo 12 = .ok (.lload_n 2, 1) := by decide +kernel
theorem d_Net_firstTwo_13 : decode b_Net_firstTwo 13 = .ok (.iload 4, 2) := by decide +kernel
theorem d_Net_firstTwo_15 : decode b_Net_firstTwo 15 = .ok (.invokestatic 49, 3) := by decide +kernel
theorem d_Net_firstTwo_18 : decode b_Net_firstTwo 18 = .ok (.ifCond .eq 39, 3) := by decide +kernel
theorem d_Net_firstTwo_21 : decode b_Net_firstTwo 21 = .ok (.aload_n 0, 1) := by decide +kernel
theorem d_Net_firstTwo_22 : decode b_Net_firstTwo 22 = .ok (.iload_n 1, 1) := by decide +kernel
theorem d_Net_firstTwo_23 : decode b_Net_firstTwo 23 = .ok (.iload 4, 2) := by decide +kernel
theorem d_Net_firstTwo_25 : decode b_Net_firstTwo 25 = .ok (.lload_n 2, 1) := by decide +kernel
theorem d_Net_firstTwo_26 : decode b_Net_firstTwo 26 = .ok (.invokevirtual 76, 3) := by decide +kernel
theorem d_Net_firstTwo_29 : decode b_Net_firstTwo 29 = .ok (.ldc2_w 88, 3) := by decide +kernel
theorem d_Net_firstTwo_32 : decode b_Net_firstTwo 32 = .ok (.iload 4, 2) := by decide +kernel
theorem d_Net_firstTwo_34 : decode b_Net_firstTwo 34 = .ok (.lshl, 1) := by decide +kernel
theorem d_Net_firstTwo_35 : decode b_Net_firstTwo 35 = .ok (.land, 1) := by decide +kernel
theorem d_Net_firstTwo_36 : decode b_Net_firstTwo 36 = .ok (.lstore 5, 2) := by decide +kernel
theorem d_Net_firstTwo_38 : decode b_Net_firstTwo 38 = .ok (.lload 5, 2) := by decide +kernel
theorem d_Net_firstTwo_40 : decode b_Net_firstTwo 40 = .ok (.lconst 0, 1) := by decide +kernel
theorem d_Net_firstTwo_41 : decode b_Net_firstTwo 41 = .ok (.lcmp, 1) := by decide +kernel
theorem d_Net_firstTwo_42 : decode b_Net_firstTwo 42 = .ok (.ifCond .eq 15, 3) := by decide +kernel
theorem d_Net_firstTwo_45 : decode b_Net_firstTwo 45 = .ok (.lconst 1, 1) := by decide +kernel
theorem d_Net_firstTwo_46 : decode b_Net_firstTwo 46 = .ok (.iload 4, 2) := by decide +kernel
theorem d_Net_firstTwo_48 : decode b_Net_firstTwo 48 = .ok (.lshl, 1) := by decide +kernel
theorem d_Net_firstTwo_49 : decode b_Net_firstTwo 49 = .ok (.lload 5, 2) := by decide +kernel
theorem d_Net_firstTwo_51 : decode b_Net_firstTwo 51 = .ok (.lload 5, 2) := by decide +kernel
theorem d_Net_firstTwo_53 : decode b_Net_firstTwo 53 = .ok (.lneg, 1) := by decide +kernel
theorem d_Net_firstTwo_54 : decode b_Net_firstTwo 54 = .ok (.land, 1) := by decide +kernel
theorem d_Net_firstTwo_55 : decode b_Net_firstTwo 55 = .ok (.lor, 1) := by decide +kernel
theorem d_Net_firstTwo_56 : decode b_Net_firstTwo 56 = .ok (.lreturn, 1) := by decide +kernel
theorem d_Net_firstTwo_57 : decode b_Net_firstTwo 57 = .ok (.iinc 4 1, 3) := by decide +kernel
theorem d_Net_firstTwo_60 : decode b_Net_firstTwo 60 = .ok (.goto (-57), 3) := by decide +kernel
theorem d_Net_firstTwo_63 : decode b_Net_firstTwo 63 = .ok (.lconst 0, 1) := by decide +kernel
theorem d_Net_firstTwo_64 : decode b_Net_firstTwo 64 = .ok (.lreturn, 1) := by decide +kernel
def B_Net_firstTwo_3 (k3 : Nat → Int32 → Int64 → Int32 → Sto → Option (Int64 × Sto)) (v0 : Nat) (v1 : Int32) (v2 : Int64) (v4 : Int32) (σ : Sto) : Option (Int64 × Sto) :=
  (if (gI σ v0 0) ≤ v4 then some ((0 : Int64), σ)
 else ((f_FR_isOf v2 v4 σ).bind fun q1 => (if (b2i q1.1) = 0 then k3 v0 v1 v2 (v4 + (1 : Int32)) q1.2
  else ((f_Net_fitting v0 v1 v4 v2 q1.2).bind fun q2 => (lt1 (q2.1 &&& (lsh (-2 : Int64) v4)) fun x3 => (if x3 = (0 : Int64) then k3 v0 v1 v2 (v4 + (1 : Int32)) q2.2
   else some (((lsh (1 : Int64) v4) ||| (x3 &&& (-x3))), q2.2)))))))
set_option maxHeartbeats 4000000 in
set_option maxRecDepth 100000 in
theorem vB_Net_firstTwo_3 {X : Xt} {E : En} (g : GG X E 3 b_Net_firstTwo R_Net 7) {k3 : Nat → Int32 → Int64 → Int32 → Sto → Option (Int64 × Sto)} (hk3 : ∀ (v0 : Nat) (v1 : Int32) (v2 : Int64) (v4 : Int32) (hv0 : cls v0 = 4) (σ : Sto), VV X E b_Net_firstTwo 7 eL 3 [(0, .ref (E.2.1 v0)), (1, .int v1), (2, .long v2), (4, .int v4)] [] σ (k3 v0 v1 v2 v4 σ)) (v0 : Nat) (v1 : Int32) (v2 : Int64) (v4 : Int32) (hv0 : cls v0 = 4) (σ : Sto) : VV X E b_Net_firstTwo 7 eL 3 [(0, .ref (E.2.1 v0)), (1, .int v1), (2, .long v2), (4, .int v4)] [] σ (B_Net_firstTwo_3 k3 v0 v1 v2 v4 σ) := by
  unfold B_Net_firstTwo_3
  refine v_iload 3 g d_Net_firstTwo_3 rfl ?_
  refine v_aload_n 0 g d_Net_firstTwo_5 rfl ?_
  refine v_getI g ff_Net_9 hv0 rfl d_Net_firstTwo_6 ?_
  refine v_icmp_ge 63 g d_Net_firstTwo_9 (by decide) (fun _ => ?_) (fun _ => ?_)
  · refine v_lconst (v := (0 : Int64)) g d_Net_firstTwo_63 (by decide +kernel) ?_
    exact v_ret d_Net_firstTwo_64 rfl
  · refine v_lload_n 2 g d_Net_firstTwo_12 rfl ?_
    refine v_iload 3 g d_Net_firstTwo_13 rfl ?_
    refine v_callB (r_SN (rest := []) (host := R_FR) [.long v2, .int v4] g (by decide +kernel) ys_FR_isOf (fun r σ1 h => sp_FR_isOf g.2.2.1  h) rfl rfl (by decide) (Nat.le_of_ble_eq_true rfl) d_Net_firstTwo_15) (fun q1 => ?_)
    refine v_if_eq 57 g d_Net_firstTwo_18 (by decide) (fun _ => ?_) (fun _ => ?_)
    · refine v_iinc 3 [(4, .int (v4 + (1 : Int32))), (0, .ref (E.2.1 v0)), (1, .int v1), (2, .long v2)] g d_Net_firstTwo_57 rfl (v := (1 : Int32)) (by decide +kernel) (by decide) rfl ?_
      refine v_goto 3 g d_Net_firstTwo_60 (by decide) ?_
      exact v_sub [1,2,3,0] rfl (hk3 v0 v1 v2 (v4 + (1 : Int32)) hv0 q1.2)
    · refine v_aload_n 0 g d_Net_firstTwo_21 rfl ?_
      refine v_iload_n 1 g d_Net_firstTwo_22 rfl ?_
      refine v_iload 3 g d_Net_firstTwo_23 rfl ?_
      refine v_lload_n 2 g d_Net_firstTwo_25 rfl ?_
      refine v_callL (r_V (rest := []) [.int v1, .int v4, .long v2] g (m1 481 (by decide +kernel) (by decide +kernel)) yv_Net_fitting hv0 (fun r σ1 h => sp_Net_fitting g.2.2.1 hv0 h) rfl rfl (by decide) (Nat.le_of_ble_eq_true rfl) d_Net_firstTwo_26) (fun q2 => ?_)
      refine v_ldc2 (v := (-2 : Int64)) g (m1 704 (by decide +kernel) (by decide +kernel)) d_Net_firstTwo_29 ?_
      refine v_iload 3 g d_Net_firstTwo_32 rfl ?_
      refine v_lshl g d_Net_firstTwo_34 ?_
      refine v_land g d_Net_firstTwo_35 ?_
      refine v_nlet (fun x3 ex3 => ?_)
      rw [← ex3]
      refine v_lstore [(5, .long x3), (0, .ref (E.2.1 v0)), (1, .int v1), (2, .long v2), (4, .int v4)] g d_Net_firstTwo_36 (by decide) rfl ?_
      refine v_lload 0 g d_Net_firstTwo_38 rfl ?_
      refine v_lconst (v := (0 : Int64)) g d_Net_firstTwo_40 (by decide +kernel) ?_
      refine v_lcmp_eq 57 g d_Net_firstTwo_41 d_Net_firstTwo_42 (by decide) (fun _ => ?_) (fun _ => ?_)
      · refine v_iinc 4 [(4, .int (v4 + (1 : Int32))), (5, .long x3), (0, .ref (E.2.1 v0)), (1, .int v1), (2, .long v2)] g d_Net_firstTwo_57 rfl (v := (1 : Int32)) (by decide +kernel) (by decide) rfl ?_
        refine v_goto 3 g d_Net_firstTwo_60 (by decide) ?_
        exact v_sub [2,3,4,0] rfl (hk3 v0 v1 v2 (v4 + (1 : Int32)) hv0 q2.2)
      · refine v_lconst (v := (1 : Int64)) g d_Net_firstTwo_45 (by decide +kernel) ?_
        refine v_iload 4 g d_Net_firstTwo_46 rfl ?_
        refine v_lshl g d_Net_firstTwo_48 ?_
        refine v_lload 0 g d_Net_firstTwo_49 rfl ?_
        refine v_lload 0 g d_Net_firstTwo_51 rfl ?_
        refine v_lneg g d_Net_firstTwo_53 ?_
        refine v_land g d_Net_firstTwo_54 ?_
        refine v_lor g d_Net_firstTwo_55 ?_
        exact v_ret d_Net_firstTwo_56 rfl
def L_Net_firstTwo_3 : Nat → Nat → Int32 → Int64 → Int32 → Sto → Option (Int64 × Sto)
  | 0, _, _, _, _, _ => none
  | fu + 1, v0, v1, v2, v4, σ => B_Net_firstTwo_3 (L_Net_firstTwo_3 fu) v0 v1 v2 v4 σ
theorem vL_Net_firstTwo_3 {X : Xt} {E : En} (g : GG X E 3 b_Net_firstTwo R_Net 7) (fu : Nat) : ∀ (v0 : Nat) (v1 : Int32) (v2 : Int64) (v4 : Int32) (hv0 : cls v0 = 4) (σ : Sto), VV X E b_Net_firstTwo 7 eL 3 [(0, .ref (E.2.1 v0)), (1, .int v1), (2, .long v2), (4, .int v4)] [] σ (L_Net_firstTwo_3 fu v0 v1 v2 v4 σ) := by
  induction fu with
  | zero => intros; exact v_none
  | succ fu ih =>
    intro v0 v1 v2 v4 hv0 σ
    exact vB_Net_firstTwo_3 g ih v0 v1 v2 v4 hv0 σ
def B_Net_firstTwo_0 (n0 : Nat) (a1 : Int32) (a2 : Int64) (σ : Sto) : Option (Int64 × Sto) :=
  L_Net_firstTwo_3 LF n0 a1 a2 (0 : Int32) σ
set_option maxHeartbeats 4000000 in
set_option maxRecDepth 100000 in
theorem vB_Net_firstTwo_0 {X : Xt} {E : En} (g : GG X E 3 b_Net_firstTwo R_Net 7) (n0 : Nat) (a1 : Int32) (a2 : Int64) (hn0 : cls n0 = 4) (σ : Sto) : VV X E b_Net_firstTwo 7 eL 0 [(0, .ref (E.2.1 n0)), (1, .int a1), (2, .long a2)] [] σ (B_Net_firstTwo_0 n0 a1 a2 σ) := by
  unfold B_Net_firstTwo_0
  refine v_iconst (v := (0 : Int32)) g d_Net_firstTwo_0 (by decide +kernel) ?_
  refine v_istore [(4, .int (0 : Int32)), (0, .ref (E.2.1 n0)), (1, .int a1), (2, .long a2)] g d_Net_firstTwo_1 (by decide) rfl ?_
  exact v_sub [1,2,3,0] rfl (vL_Net_firstTwo_3 g LF n0 a1 a2 (0 : Int32) hn0 σ)
def f_Net_firstTwo (n0 : Nat) (a1 : Int32) (a2 : Int64) (σ : Sto) : Option (Int64 × Sto) := B_Net_firstTwo_0 n0 a1 a2 σ
theorem sp_Net_firstTwo {l : Launch} {E : En} (hE : Dj E) {n0 : Nat} {a1 : Int32} {a2 : Int64} (hn0 : cls n0 = 4) {σ : Sto} {r : Int64} {σ' : Sto} (h : f_Net_firstTwo n0 a1 a2 σ = some (r, σ')) : Ct l E y_Net_firstTwo (wsM y_Net_firstTwo b_Net_firstTwo 7 (some .long)) 3 [.ref (E.2.1 n0), .int a1, .long a2] σ (eL r) σ' :=
  ct_of hE (by decide +kernel) (Nat.le_of_ble_eq_true rfl) (fun x => Or.inr (Or.inr (Or.inl ⟨rfl, x, rfl⟩))) (fun X _ g => vB_Net_firstTwo_0 g n0 a1 a2 hn0 σ) r σ' h
/-! method FittingRings$Net.withTwoForOne(IJJ)J -/
theorem yv_Net_withTwoForOne : YV y_Net_withTwoForOne b_Net_withTwoForOne 11 (some .long) 3 4 := ⟨m1 697 (by decide +kernel) (by decide +kernel), m1 698 (by decide +kernel) (by decide +kernel), ini_Net, m1 699 (by decide +kernel) (by decide +kernel), ⟨by decide +kernel, by decide +kernel, by decide +kernel⟩, by decide, by decide, T_Net, 5, rfl⟩
theorem d_Net_withTwoForOne_0 : decode b_Net_withTwoForOne 0 = .ok (.iconst 0, 1) := by decide +kernel
theorem d_Net_withTwoForOne_1 : decode b_Net_withTwoForOne 1 = .ok (.istore 6, 2) := by decide +kernel
theorem d_Net_withTwoForOne_3 : decode b_Net_withTwoForOne 3 = .ok (.iload 6, 2) := by decide +kernel
theorem d_Net_withTwoForOne_5 : decode b_Net_withTwoForOne 5 = .ok (.aload_n 0, 1) := by decide +kernel
theorem d_Net_withTwoForOne_6 : decode b_Net_withTwoForOne 6 = .ok (.getfield 9, 3) := by decide +kernel
theorem d_Net_withTwoForOne_9 : decode b_Net_withTwoForOne 9 = .ok (.if_icmp .ge 65, 3) := by decide +kernel
theorem d_Net_withTwoForOne_12 : decode b_Net_withTwoForOne 12 = .ok (.lload_n 2, 1) := by decide +kernel
theorem d_Net_withTwoForOne_13 : decode b_Net_withTwoForOne 13 = .ok (.iload 6, 2) := by decide +kernel
theorem d_Net_withTwoForOne_15 : decode b_Net_withTwoForOne 15 = .ok (.invokestatic 49, 3) := by decide +kernel
theorem d_Net_withTwoForOne_18 : decode b_Net_withTwoForOne 18 = .ok (.ifCond .eq 50, 3) := by decide +kernel
theorem d_Net_withTwoForOne_21 : decode b_Net_withTwoForOne 21 = .ok (.lload_n 2, 1) := by decide +kernel
theorem d_Net_withTwoForOne_22 : decode b_Net_withTwoForOne 22 = .ok (.lconst 1, 1) := by decide +kernel
theorem d_Net_withTwoForOne_23 : decode b_Net_withTwoForOne 23 = .ok (.iload 6, 2) := by decide +kernel
theorem d_Net_withTwoForOne_25 : decode b_Net_withTwoForOne 25 = .ok (.lshl, 1) := by decide +kernel
theorem d_Net_withTwoForOne_26 : decode b_Net_withTwoForOne 26 = .ok (.ldc2_w 33, 3) := by decide +kernel
theorem d_Net_withTwoForOne_29 : decode b_Net_withTwoForOne 29 = .ok (.lxor, 1) := by decide +kernel
theorem d_Net_withTwoForOne_30 : decode b_Net_withTwoForOne 30 = .ok (.land, 1) := by decide +kernel
theorem d_Net_withTwoForOne_31 : decode b_Net_withTwoForOne 31 = .ok (.lstore 7, 2) := by decide +kernel
theorem d_Net_withTwoForOne_33 : decode b_Net_withTwoForOne 33 = .ok (.aload_n 0, 1) := by decide +kernel
theorem d_Net_withTwoForOne_34 : decode b_Net_withTwoForOne 34 = .ok (.iload_n 1, 1) := by decide +kernel
theorem d_Net_withTwoForOne_35 : decode b_Net_withTwoForOne 35 = .ok (.aload_n 0, 1) := by decide +kernel
theorem d_Net_withTwoForOne_36 : decode b_Net_withTwoForOne 36 = .ok (.iload_n 1, 1) := by decide +kernel
theorem d_Net_withTwoForOne_37 : decode b_Net_withTwoForOne 37 = .ok (.lload 7, 2) := by decide +kernel
theorem d_Net_withTwoForOne_39 : decode b_Net_withTwoForOne 39 = .ok (.lload 4, 2) := by decide +kernel
theorem d_Net_withTwoForOne_41 : decode b_Net_withTwoForOne 41 = .ok (.lload_n 2, 1) := by decide +kernel
theorem d_Net_withTwoForOne_42 : decode b_Net_withTwoForOne 42 = .ok (.ldc2_w 33, 3) := by decide +kernel
theorem d_Net_withTwoForOne_45 : decode b_Net_withTwoForOne 45 = .ok (.lxor, 1) := by decide +kernel
theorem d_Net_withTwoForOne_46 : decode b_Net_withTwoForOne 46 = .ok (.land, 1) := by decide +kernel
theorem d_Net_withTwoForOne_47 : decode b_Net_withTwoForOne 47 = .ok (.invokevirtual 80, 3) := by decide +kernel
theorem d_Net_withTwoForOne_50 : decode b_Net_withTwoForOne 50 = .ok (.invokevirtual 84, 3) := by decide +kernel
theorem d_Net_withTwoForOne_53 : decode b_Net_withTwoForOne 53 = .ok (.lstore 9, 2) := by decide +kernel
theorem d_Net_withTwoForOne_55 : decode b_Net_withTwoForOne 55 = .ok (.lload 9, 2) := by decide +kernel
theorem d_Net_withTwoForOne_57 : decode b_Net_withTwoForOne 57 = .ok (.lconst 0, 1) := by decide +kernel
theorem d_Net_withTwoForOne_58 : decode b_Net_withTwoForOne 58 = .ok (.lcmp, 1) := by decide +kernel
theorem d_Net_withTwoForOne_59 : decode b_Net_withTwoForOne 59 = .ok (.ifCond .eq 9, 3) := by decide +kernel
theorem d_Net_withTwoForOne_62 : decode b_Net_withTwoForOne 62 = .ok (.lload 7, 2) := by decide +kernel
theorem d_Net_withTwoForOne_64 : decode b_Net_withTwoForOne 64 = .ok (.lload 9, 2) := by decide +kernel
theorem d_Net_withTwoForOne_66 : decode b_Net_withTwoForOne 66 = .ok (.lor, 1) := by decide +kernel
theorem d_Net_withTwoForOne_67 : decode b_Net_withTwoForOne 67 = .ok (.lreturn, 1) := by decide +kernel
theorem d_Net_withTwoForOne_68 : decode b_Net_withTwoForOne 68 = .ok (.iinc 6 1, 3) := by decide +kernel
theorem d_Net_withTwoForOne_71 : decode b_Net_withTwoForOne 71 = .ok (.goto (-68), 3) := by decide +kernel
theorem d_Net_withTwoForOne_74 : decode b_Net_withTwoForOne 74 = .ok (.lload_n 2, 1) := by decide +kernel
theorem d_Net_withTwoForOne_75 : decode b_Net_withTwoForOne 75 = .ok (.lreturn, 1) := by decide +kernel
def B_Net_withTwoForOne_3 (k3 : Nat → Int32 → Int64 → Int64 → Int32 → Sto → Option (Int64 × Sto)) (v0 : Nat) (v1 : Int32) (v2 : Int64) (v4 : Int64) (v6 : Int32) (σ : Sto) : Option (Int64 × Sto) :=
  (if (gI σ v0 0) ≤ v6 then some (v2, σ)
 else ((f_FR_isOf v2 v6 σ).bind fun q1 => (if (b2i q1.1) = 0 then k3 v0 v1 v2 v4 (v6 + (1 : Int32)) q1.2
  else (lt1 (v2 &&& ((lsh (1 : Int64) v6) ^^^ (-1 : Int64))) fun x2 => ((f_Net_fittingAll v0 v1 x2 (v4 &&& (v2 ^^^ (-1 : Int64))) q1.2).bind fun q3 => ((f_Net_firstTwo v0 v1 q3.1 q3.2).bind fun q4 => (if q4.1 = (0 : Int64) then k3 v0 v1 v2 v4 (v6 + (1 : Int32)) q4.2
   else some ((x2 ||| q4.1), q4.2))))))))
set_option maxHeartbeats 4000000 in
set_option maxRecDepth 100000 in
theorem vB_Net_withTwoForOne_3 {X : Xt} {E : En} (g : GG X E 4 b_Net_withTwoForOne R_Net 11) {k3 : Nat → Int32 → Int64 → Int64 → Int32 → Sto → Option (Int64 × Sto)} (hk3 : ∀ (v0 : Nat) (v1 : Int32) (v2 : Int64) (v4 : Int64) (v6 : Int32) (hv0 : cls v0 = 4) (σ : Sto), VV X E b_Net_withTwoForOne 11 eL 3 [(0, .ref (E.2.1 v0)), (1, .int v1), (2, .long v2), (4, .long v4), (6, .int v6)] [] σ (k3 v0 v1 v2 v4 v6 σ)) (v0 : Nat) (v1 : Int32) (v2 : Int64) (v4 : Int64) (v6 : Int32) (hv0 : cls v0 = 4) (σ : Sto) : VV X E b_Net_withTwoForOne 11 eL 3 [(0, .ref (E.2.1 v0)), (1, .int v1), (2, .long v2), (4, .long v4), (6, .int v6)] [] σ (B_Net_withTwoForOne_3 k3 v0 v1 v2 v4 v6 σ) := by
  unfold B_Net_withTwoForOne_3
  refine v_iload 4 g d_Net_withTwoForOne_3 rfl ?_
  refine v_aload_n 0 g d_Net_withTwoForOne_5 rfl ?_
  refine v_getI g ff_Net_9 hv0 rfl d_Net_withTwoForOne_6 ?_
  refine v_icmp_ge 74 g d_Net_withTwoForOne_9 (by decide) (fun _ => ?_) (fun _ => ?_)
  · refine v_lload_n 2 g d_Net_withTwoForOne_74 rfl ?_
    exact v_ret d_Net_withTwoForOne_75 rfl
  · refine v_lload_n 2 g d_Net_withTwoForOne_12 rfl ?_
    refine v_iload 4 g d_Net_withTwoForOne_13 rfl ?_
    refine v_callB (r_SN (rest := []) (host := R_FR) [.long v2, .int v6] g (by decide +kernel) ys_FR_isOf (fun r σ1 h => sp_FR_isOf g.2.2.1  h) rfl rfl (by decide) (Nat.le_of_ble_eq_true rfl) d_Net_withTwoForOne_15) (fun q1 => ?_)
    refine v_if_eq 68 g d_Net_withTwoForOne_18 (by decide) (fun _ => ?_) (fun _ => ?_)
    · refine v_iinc 4 [(6, .int (v6 + (1 : Int32))), (0, .ref (E.2.1 v0)), (1, .int v1), (2, .long v2), (4, .long v4)] g d_Net_withTwoForOne_68 rfl (v := (1 : Int32)) (by decide +kernel) (by decide) rfl ?_
      refine v_goto 3 g d_Net_withTwoForOne_71 (by decide) ?_
      exact v_sub [1,2,3,4,0] rfl (hk3 v0 v1 v2 v4 (v6 + (1 : Int32)) hv0 q1.2)
    · refine v_lload_n 2 g d_Net_withTwoForOne_21 rfl ?_
      refine v_lconst (v := (1 : Int64)) g d_Net_withTwoForOne_22 (by decide +kernel) ?_
      refine v_iload 4 g d_Net_withTwoForOne_23 rfl ?_
      refine v_lshl g d_Net_withTwoForOne_25 ?_
      refine v_ldc2 (v := (-1 : Int64)) g (m1 428 (by decide +kernel) (by decide +kernel)) d_Net_withTwoForOne_26 ?_
      refine v_lxor g d_Net_withTwoForOne_29 ?_
      refine v_land g d_Net_withTwoForOne_30 ?_
      refine v_nlet (fun x2 ex2 => ?_)
      rw [← ex2]
      refine v_lstore [(7, .long x2), (0, .ref (E.2.1 v0)), (1, .int v1), (2, .long v2), (4, .long v4), (6, .int v6)] g d_Net_withTwoForOne_31 (by decide) rfl ?_
      refine v_aload_n 1 g d_Net_withTwoForOne_33 rfl ?_
      refine v_iload_n 2 g d_Net_withTwoForOne_34 rfl ?_
      refine v_aload_n 1 g d_Net_withTwoForOne_35 rfl ?_
      refine v_iload_n 2 g d_Net_withTwoForOne_36 rfl ?_
      refine v_lload 0 g d_Net_withTwoForOne_37 rfl ?_
      refine v_lload 4 g d_Net_withTwoForOne_39 rfl ?_
      refine v_lload_n 3 g d_Net_withTwoForOne_41 rfl ?_
      refine v_ldc2 (v := (-1 : Int64)) g (m1 428 (by decide +kernel) (by decide +kernel)) d_Net_withTwoForOne_42 ?_
      refine v_lxor g d_Net_withTwoForOne_45 ?_
      refine v_land g d_Net_withTwoForOne_46 ?_
      refine v_callL (r_V (rest := [.int v1, .ref (E.2.1 v0)]) [.int v1, .long x2, .long (v4 &&& (v2 ^^^ (-1 : Int64)))] g (m1 692 (by decide +kernel) (by decide +kernel)) yv_Net_fittingAll hv0 (fun r σ1 h => sp_Net_fittingAll g.2.2.1 hv0 h) rfl rfl (by decide) (Nat.le_of_ble_eq_true rfl) d_Net_withTwoForOne_47) (fun q3 => ?_)
      refine v_callL (r_V (rest := []) [.int v1, .long q3.1] g (m1 700 (by decide +kernel) (by decide +kernel)) yv_Net_firstTwo hv0 (fun r σ1 h => sp_Net_firstTwo g.2.2.1 hv0 h) rfl rfl (by decide) (Nat.le_of_ble_eq_true rfl) d_Net_withTwoForOne_50) (fun q4 => ?_)
      refine v_lstore [(9, .long q4.1), (7, .long x2), (0, .ref (E.2.1 v0)), (1, .int v1), (2, .long v2), (4, .long v4), (6, .int v6)] g d_Net_withTwoForOne_53 (by decide) rfl ?_
      refine v_lload 0 g d_Net_withTwoForOne_55 rfl ?_
      refine v_lconst (v := (0 : Int64)) g d_Net_withTwoForOne_57 (by decide +kernel) ?_
      refine v_lcmp_eq 68 g d_Net_withTwoForOne_58 d_Net_withTwoForOne_59 (by decide) (fun _ => ?_) (fun _ => ?_)
      · refine v_iinc 6 [(6, .int (v6 + (1 : Int32))), (9, .long q4.1), (7, .long x2), (0, .ref (E.2.1 v0)), (1, .int v1), (2, .long v2), (4, .long v4)] g d_Net_withTwoForOne_68 rfl (v := (1 : Int32)) (by decide +kernel) (by decide) rfl ?_
        refine v_goto 3 g d_Net_withTwoForOne_71 (by decide) ?_
        exact v_sub [3,4,5,6,0] rfl (hk3 v0 v1 v2 v4 (v6 + (1 : Int32)) hv0 q4.2)
      · refine v_lload 1 g d_Net_withTwoForOne_62 rfl ?_
        refine v_lload 0 g d_Net_withTwoForOne_64 rfl ?_
        refine v_lor g d_Net_withTwoForOne_66 ?_
        exact v_ret d_Net_withTwoForOne_67 rfl
def L_Net_withTwoForOne_3 : Nat → Nat → Int32 → Int64 → Int64 → Int32 → Sto → Option (Int64 × Sto)
  | 0, _, _, _, _, _, _ => none
  | fu + 1, v0, v1, v2, v4, v6, σ => B_Net_withTwoForOne_3 (L_Net_withTwoForOne_3 fu) v0 v1 v2 v4 v6 σ
theorem vL_Net_withTwoForOne_3 {X : Xt} {E : En} (g : GG X E 4 b_Net_withTwoForOne R_Net 11) (fu : Nat) : ∀ (v0 : Nat) (v1 : Int32) (v2 : Int64) (v4 : Int64) (v6 : Int32) (hv0 : cls v0 = 4) (σ : Sto), VV X E b_Net_withTwoForOne 11 eL 3 [(0, .ref (E.2.1 v0)), (1, .int v1), (2, .long v2), (4, .long v4), (6, .int v6)] [] σ (L_Net_withTwoForOne_3 fu v0 v1 v2 v4 v6 σ) := by
  induction fu with
  | zero => intros; exact v_none
  | succ fu ih =>
    intro v0 v1 v2 v4 v6 hv0 σ
    exact vB_Net_withTwoForOne_3 g ih v0 v1 v2 v4 v6 hv0 σ
def B_Net_withTwoForOne_0 (n0 : Nat) (a1 : Int32) (a2 : Int64) (a4 : Int64) (σ : Sto) : Option (Int64 × Sto) :=
  L_Net_withTwoForOne_3 LF n0 a1 a2 a4 (0 : Int32) σ
set_option maxHeartbeats 4000000 in
set_option maxRecDepth 100000 in
theorem vB_Net_withTwoForOne_0 {X : Xt} {E : En} (g : GG X E 4 b_Net_withTwoForOne R_Net 11) (n0 : Nat) (a1 : Int32) (a2 : Int64) (a4 : Int64) (hn0 : cls n0 = 4) (σ : Sto) : VV X E b_Net_withTwoForOne 11 eL 0 [(0, .ref (E.2.1 n0)), (1, .int a1), (2, .long a2), (4, .long a4)] [] σ (B_Net_withTwoForOne_0 n0 a1 a2 a4 σ) := by
  unfold B_Net_withTwoForOne_0
  refine v_iconst (v := (0 : Int32)) g d_Net_withTwoForOne_0 (by decide +kernel) ?_
  refine v_istore [(6, .int (0 : Int32)), (0, .ref (E.2.1 n0)), (1, .int a1), (2, .long a2), (4, .long a4)] g d_Net_withTwoForOne_1 (by decide) rfl ?_
  exact v_sub [1,2,3,4,0] rfl (vL_Net_withTwoForOne_3 g LF n0 a1 a2 a4 (0 : Int32) hn0 σ)
def f_Net_withTwoForOne (n0 : Nat) (a1 : Int32) (a2 : Int64) (a4 : Int64) (σ : Sto) : Option (Int64 × Sto) := B_Net_withTwoForOne_0 n0 a1 a2 a4 σ
theorem sp_Net_withTwoForOne {l : Launch} {E : En} (hE : Dj E) {n0 : Nat} {a1 : Int32} {a2 : Int64} {a4 : Int64} (hn0 : cls n0 = 4) {σ : Sto} {r : Int64} {σ' : Sto} (h : f_Net_withTwoForOne n0 a1 a2 a4 σ = some (r, σ')) : Ct l E y_Net_withTwoForOne (wsM y_Net_withTwoForOne b_Net_withTwoForOne 11 (some .long)) 4 [.ref (E.2.1 n0), .int a1, .long a2, .long a4] σ (eL r) σ' :=
  ct_of hE (by decide +kernel) (Nat.le_of_ble_eq_true rfl) (fun x => Or.inr (Or.inr (Or.inl ⟨rfl, x, rfl⟩))) (fun X _ g => vB_Net_withTwoForOne_0 g n0 a1 a2 a4 hn0 σ) r σ' h
/-! method FittingRings$Net.fits(II)I -/
theorem yv_Net_fits : YV y_Net_fits b_Net_fits 3 (some .int) 2 4 := ⟨m1 808 (by decide +kernel) (by decide +kernel), m1 809 (by decide +kernel) (by decide +kernel), ini_Net, m1 810 (by decide +kernel) (by decide +kernel), ⟨by decide +kernel, by decide +kernel, by decide +kernel⟩, by decide, by decide, T_Net, 5, rfl⟩
theorem d_Net_fits_0 : decode b_Net_fits 0 = .ok (.aload_n 0, 1) := by decide +kernel
theorem d_Net_fits_1 : decode b_Net_fits 1 = .ok (.iload_n 1, 1) := by decide +kernel
theorem d_Net_fits_2 : decode b_Net_fits 2 = .ok (.iload_n 2, 1) := by decide +kernel
theorem d_Net_fits_3 : decode b_Net_fits 3 = .ok (.aload_n 0, 1) := by decide +kernel
theorem d_Net_fits_4 : decode b_Net_fits 4 = .ok (.invokevirtual 29, 3) := by decide +kernel
theorem d_Net_fits_7 : decode b_Net_fits 7 = .ok (.invokevirtual 76, 3) := by decide +kernel
theorem d_Net_fits_10 : decode b_Net_fits 10 = .ok (.invokestatic 61, 3) := by decide +kernel
theorem d_Net_fits_13 : decode b_Net_fits 13 = .ok (.ireturn, 1) := by decide +kernel
def B_Net_fits_0 (n0 : Nat) (a1 : Int32) (a2 : Int32) (σ : Sto) : Option (Int32 × Sto) :=
  ((f_Net_whole n0 σ).bind fun q1 => ((f_Net_fitting n0 a1 a2 q1.1 q1.2).bind fun q2 => ((f_JLong_bitCount q2.1 q2.2).bind fun q3 => some (q3.1, q3.2))))
set_option maxHeartbeats 4000000 in
set_option maxRecDepth 100000 in
theorem vB_Net_fits_0 {X : Xt} {E : En} (g : GG X E 3 b_Net_fits R_Net 3) (n0 : Nat) (a1 : Int32) (a2 : Int32) (hn0 : cls n0 = 4) (σ : Sto) : VV X E b_Net_fits 3 eI 0 [(0, .ref (E.2.1 n0)), (1, .int a1), (2, .int a2)] [] σ (B_Net_fits_0 n0 a1 a2 σ) := by
  unfold B_Net_fits_0
  refine v_aload_n 0 g d_Net_fits_0 rfl ?_
  refine v_iload_n 1 g d_Net_fits_1 rfl ?_
  refine v_iload_n 2 g d_Net_fits_2 rfl ?_
  refine v_aload_n 0 g d_Net_fits_3 rfl ?_
  refine v_callL (r_V (rest := [.int a2, .int a1, .ref (E.2.1 n0)]) [] g (m1 437 (by decide +kernel) (by decide +kernel)) yv_Net_whole hn0 (fun r σ1 h => sp_Net_whole g.2.2.1 hn0 h) rfl rfl (by decide) (Nat.le_of_ble_eq_true rfl) d_Net_fits_4) (fun q1 => ?_)
  refine v_callL (r_V (rest := []) [.int a1, .int a2, .long q1.1] g (m1 481 (by decide +kernel) (by decide +kernel)) yv_Net_fitting hn0 (fun r σ1 h => sp_Net_fitting g.2.2.1 hn0 h) rfl rfl (by decide) (Nat.le_of_ble_eq_true rfl) d_Net_fits_7) (fun q2 => ?_)
  refine v_callI (r_S (rest := []) [.long q2.1] g (m1 386 (by decide +kernel) (by decide +kernel)) ys_JLong_bitCount (fun r σ1 h => sp_JLong_bitCount g.2.2.1  h) rfl rfl (by decide) (Nat.le_of_ble_eq_true rfl) d_Net_fits_10) (fun q3 => ?_)
  exact v_ret d_Net_fits_13 rfl
def f_Net_fits (n0 : Nat) (a1 : Int32) (a2 : Int32) (σ : Sto) : Option (Int32 × Sto) := B_Net_fits_0 n0 a1 a2 σ
theorem sp_Net_fits {l : Launch} {E : En} (hE : Dj E) {n0 : Nat} {a1 : Int32} {a2 : Int32} (hn0 : cls n0 = 4) {σ : Sto} {r : Int32} {σ' : Sto} (h : f_Net_fits n0 a1 a2 σ = some (r, σ')) : Ct l E y_Net_fits (wsM y_Net_fits b_Net_fits 3 (some .int)) 3 [.ref (E.2.1 n0), .int a1, .int a2] σ (eI r) σ' :=
  ct_of hE (by decide +kernel) (Nat.le_of_ble_eq_true rfl) (fun x => Or.inl ⟨rfl, x, rfl⟩) (fun X _ g => vB_Net_fits_0 g n0 a1 a2 hn0 σ) r σ' h
/-! method FittingRings$Net.become(LFittingRings$Net;)V -/
theorem yv_Net_become : YV y_Net_become b_Net_become 2 (none) 1 4 := ⟨m1 831 (by decide +kernel) (by decide +kernel), m1 832 (by decide +kernel) (by decide +kernel), ini_Net, m1 833 (by decide +kernel) (by decide +kernel), ⟨by decide +kernel, by decide +kernel, by decide +kernel⟩, by decide, by decide, T_Net, 5, rfl⟩
theorem d_Net_become_0 : decode b_Net_become 0 = .ok (.aload_n 0, 1) := by decide +kernel
theorem d_Net_become_1 : decode b_Net_become 1 = .ok (.aload_n 1, 1) := by decide +kernel
theorem d_Net_become_2 : decode b_Net_become 2 = .ok (.getfield 9, 3) := by decide +kernel
theorem d_Net_become_5 : decode b_Net_become 5 = .ok (.putfield 9, 3) := by decide +kernel
theorem d_Net_become_8 : decode b_Net_become 8 = .ok (.aload_n 1, 1) := by decide +kernel
theorem d_Net_become_9 : decode b_Net_become 9 = .ok (.getfield 15, 3) := by decide +kernel
theorem d_Net_become_12 : decode b_Net_become 12 = .ok (.iconst 0, 1) := by decide +kernel
theorem d_Net_become_13 : decode b_Net_become 13 = .ok (.aload_n 0, 1) := by decide +kernel
theorem d_Net_become_14 : decode b_Net_become 14 = .ok (.getfield 15, 3) := by decide +kernel
theorem d_Net_become_17 : decode b_Net_become 17 = .ok (.iconst 0, 1) := by decide +kernel
theorem d_Net_become_18 : decode b_Net_become 18 = .ok (.bipush 40, 2) := by decide +kernel
theorem d_Net_become_20 : decode b_Net_become 20 = .ok (.invokestatic 39, 3) := by decide +kernel
theorem d_Net_become_23 : decode b_Net_become 23 = .ok (.aload_n 1, 1) := by decide +kernel
theorem d_Net_become_24 : decode b_Net_become 24 = .ok (.getfield 19, 3) := by decide +kernel
theorem d_Net_become_27 : decode b_Net_become 27 = .ok (.iconst 0, 1) := by decide +kernel
theorem d_Net_become_28 : decode b_Net_become 28 = .ok (.aload_n 0, 1) := by decide +kernel
theorem d_Net_become_29 : decode b_Net_become 29 = .ok (.getfield 19, 3) := by decide +kernel
theorem d_Net_become_32 : decode b_Net_become 32 = .ok (.iconst 0, 1) := by decide +kernel
theorem d_Net_become_33 : decode b_Net_become 33 = .ok (.bipush 40, 2) := by decide +kernel
theorem d_Net_become_35 : decode b_Net_become 35 = .ok (.invokestatic 39, 3) := by decide +kernel
theorem d_Net_become_38 : decode b_Net_become 38 = .ok (.aload_n 1, 1) := by decide +kernel
theorem d_Net_become_39 : decode b_Net_become 39 = .ok (.getfield 22, 3) := by decide +kernel
theorem d_Net_become_42 : decode b_Net_become 42 = .ok (.iconst 0, 1) := by decide +kernel
theorem d_Net_become_43 : decode b_Net_become 43 = .ok (.aload_n 0, 1) := by decide +kernel
theorem d_Net_become_44 : decode b_Net_become 44 = .ok (.getfield 22, 3) := by decide +kernel
theorem d_Net_become_47 : decode b_Net_become 47 = .ok (.iconst 0, 1) := by decide +kernel
theorem d_Net_become_48 : decode b_Net_become 48 = .ok (.bipush 40, 2) := by decide +kernel
theorem d_Net_become_50 : decode b_Net_become 50 = .ok (.invokestatic 39, 3) := by decide +kernel
theorem d_Net_become_53 : decode b_Net_become 53 = .ok (.aload_n 1, 1) := by decide +kernel
theorem d_Net_become_54 : decode b_Net_become 54 = .ok (.getfield 26, 3) := by decide +kernel
theorem d_Net_become_57 : decode b_Net_become 57 = .ok (.iconst 0, 1) := by decide +kernel
theorem d_Net_become_58 : decode b_Net_become 58 = .ok (.aload_n 0, 1) := by decide +kernel
theorem d_Net_become_59 : decode b_Net_become 59 = .ok (.getfield 26, 3) := by decide +kernel
theorem d_Net_become_62 : decode b_Net_become 62 = .ok (.iconst 0, 1) := by decide +kernel
theorem d_Net_become_63 : decode b_Net_become 63 = .ok (.bipush 40, 2) := by decide +kernel
theorem d_Net_become_65 : decode b_Net_become 65 = .ok (.invokestatic 39, 3) := by decide +kernel
theorem d_Net_become_68 : decode b_Net_become 68 = .ok (.return_, 1) := by decide +kernel
def B_Net_become_0 (n0 : Nat) (a1 : Nat) (σ : Sto) : Option (Unit × Sto) :=
  (if cpk (0 : Int32) 40 (0 : Int32) 40 (40 : Int32) = true then (lt1 (cpI (sI σ n0 0 (gI σ a1 0)) (a1 + 1) (Int32.toNatClampNeg (0 : Int32)) (n0 + 1) (Int32.toNatClampNeg (0 : Int32)) (Int32.toNatClampNeg (40 : Int32))) fun σ1 => (if cpk (0 : Int32) 40 (0 : Int32) 40 (40 : Int32) = true then (lt1 (cpI σ1 (a1 + 2) (Int32.toNatClampNeg (0 : Int32)) (n0 + 2) (Int32.toNatClampNeg (0 : Int32)) (Int32.toNatClampNeg (40 : Int32))) fun σ2 => (if cpk (0 : Int32) 40 (0 : Int32) 40 (40 : Int32) = true then (lt1 (cpL σ2 (a1 + 3) (Int32.toNatClampNeg (0 : Int32)) (n0 + 3) (Int32.toNatClampNeg (0 : Int32)) (Int32.toNatClampNeg (40 : Int32))) fun σ3 => (if cpk (0 : Int32) 40 (0 : Int32) 40 (40 : Int32) = true then (lt1 (cpI σ3 (a1 + 4) (Int32.toNatClampNeg (0 : Int32)) (n0 + 4) (Int32.toNatClampNeg (0 : Int32)) (Int32.toNatClampNeg (40 : Int32))) fun σ4 => some ((), σ4)) else none)) else none)) else none)) else none)
set_option maxHeartbeats 4000000 in
set_option maxRecDepth 100000 in
theorem vB_Net_become_0 {X : Xt} {E : En} (g : GG X E 1 b_Net_become R_Net 2) (n0 : Nat) (a1 : Nat) (hn0 : cls n0 = 4) (ha1 : cls a1 = 4) (σ : Sto) : VV X E b_Net_become 2 eU 0 [(0, .ref (E.2.1 n0)), (1, .ref (E.2.1 a1))] [] σ (B_Net_become_0 n0 a1 σ) := by
  unfold B_Net_become_0
  refine v_aload_n 0 g d_Net_become_0 rfl ?_
  refine v_aload_n 1 g d_Net_become_1 rfl ?_
  refine v_getI g ff_Net_9 ha1 rfl d_Net_become_2 ?_
  refine v_putI g fp_Net_9 hn0 rfl d_Net_become_5 ?_
  refine v_aload_n 1 g d_Net_become_8 rfl ?_
  refine v_getR (a1 + 1) g ff_Net_15 ha1 rfl (rf_Net_1 ha1) d_Net_become_9 ?_
  refine v_iconst (v := (0 : Int32)) g d_Net_become_12 (by decide +kernel) ?_
  refine v_aload_n 0 g d_Net_become_13 rfl ?_
  refine v_getR (n0 + 1) g ff_Net_15 hn0 rfl (rf_Net_1 hn0) d_Net_become_14 ?_
  refine v_iconst (v := (0 : Int32)) g d_Net_become_17 (by decide +kernel) ?_
  refine v_bipush (v := (40 : Int32)) g d_Net_become_18 (by decide +kernel) ?_
  refine v_copyI g (m1 834 (by decide +kernel) (by decide +kernel)) (ar_Net_1 ha1).1 (ar_Net_1 ha1).2 (ar_Net_1 hn0).1 (ar_Net_1 hn0).2 (by decide) d_Net_become_20 (fun _ => ?_)
  refine v_nlet (fun σ1 eσ1 => ?_)
  rw [← eσ1]
  refine v_aload_n 1 g d_Net_become_23 rfl ?_
  refine v_getR (a1 + 2) g ff_Net_19 ha1 rfl (rf_Net_2 ha1) d_Net_become_24 ?_
  refine v_iconst (v := (0 : Int32)) g d_Net_become_27 (by decide +kernel) ?_
  refine v_aload_n 0 g d_Net_become_28 rfl ?_
  refine v_getR (n0 + 2) g ff_Net_19 hn0 rfl (rf_Net_2 hn0) d_Net_become_29 ?_
  refine v_iconst (v := (0 : Int32)) g d_Net_become_32 (by decide +kernel) ?_
  refine v_bipush (v := (40 : Int32)) g d_Net_become_33 (by decide +kernel) ?_
  refine v_copyI g (m1 834 (by decide +kernel) (by decide +kernel)) (ar_Net_2 ha1).1 (ar_Net_2 ha1).2 (ar_Net_2 hn0).1 (ar_Net_2 hn0).2 (by decide) d_Net_become_35 (fun _ => ?_)
  refine v_nlet (fun σ2 eσ2 => ?_)
  rw [← eσ2]
  refine v_aload_n 1 g d_Net_become_38 rfl ?_
  refine v_getR (a1 + 3) g ff_Net_22 ha1 rfl (rf_Net_3 ha1) d_Net_become_39 ?_
  refine v_iconst (v := (0 : Int32)) g d_Net_become_42 (by decide +kernel) ?_
  refine v_aload_n 0 g d_Net_become_43 rfl ?_
  refine v_getR (n0 + 3) g ff_Net_22 hn0 rfl (rf_Net_3 hn0) d_Net_become_44 ?_
  refine v_iconst (v := (0 : Int32)) g d_Net_become_47 (by decide +kernel) ?_
  refine v_bipush (v := (40 : Int32)) g d_Net_become_48 (by decide +kernel) ?_
  refine v_copyL g (m1 834 (by decide +kernel) (by decide +kernel)) (ar_Net_3 ha1).1 (ar_Net_3 ha1).2 (ar_Net_3 hn0).1 (ar_Net_3 hn0).2 (by decide) d_Net_become_50 (fun _ => ?_)
  refine v_nlet (fun σ3 eσ3 => ?_)
  rw [← eσ3]
  refine v_aload_n 1 g d_Net_become_53 rfl ?_
  refine v_getR (a1 + 4) g ff_Net_26 ha1 rfl (rf_Net_4 ha1) d_Net_become_54 ?_
  refine v_iconst (v := (0 : Int32)) g d_Net_become_57 (by decide +kernel) ?_
  refine v_aload_n 0 g d_Net_become_58 rfl ?_
  refine v_getR (n0 + 4) g ff_Net_26 hn0 rfl (rf_Net_4 hn0) d_Net_become_59 ?_
  refine v_iconst (v := (0 : Int32)) g d_Net_become_62 (by decide +kernel) ?_
  refine v_bipush (v := (40 : Int32)) g d_Net_become_63 (by decide +kernel) ?_
  refine v_copyI g (m1 834 (by decide +kernel) (by decide +kernel)) (ar_Net_4 ha1).1 (ar_Net_4 ha1).2 (ar_Net_4 hn0).1 (ar_Net_4 hn0).2 (by decide) d_Net_become_65 (fun _ => ?_)
  refine v_nlet (fun σ4 eσ4 => ?_)
  rw [← eσ4]
  exact v_ret d_Net_become_68 rfl
def f_Net_become (n0 : Nat) (a1 : Nat) (σ : Sto) : Option (Unit × Sto) := B_Net_become_0 n0 a1 σ
theorem sp_Net_become {l : Launch} {E : En} (hE : Dj E) {n0 : Nat} {a1 : Nat} (hn0 : cls n0 = 4) (ha1 : cls a1 = 4) {σ : Sto} {r : Unit} {σ' : Sto} (h : f_Net_become n0 a1 σ = some (r, σ')) : Ct l E y_Net_become (wsM y_Net_become b_Net_become 2 (none)) 1 [.ref (E.2.1 n0), .ref (E.2.1 a1)] σ (eU r) σ' :=
  ct_of hE (by decide +kernel) (Nat.le_of_ble_eq_true rfl) (fun _ => Or.inr (Or.inr (Or.inr (Or.inl ⟨rfl, rfl⟩)))) (fun X _ g => vB_Net_become_0 g n0 a1 hn0 ha1 σ) r σ' h
