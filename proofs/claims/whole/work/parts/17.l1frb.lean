theorem ff_FR_16 : FF R_FR 16 9 1 := ⟨R_FR, T_FR, 11, rfl, in_FR, by decide, rfl, by decide, m1 331 (by decide +kernel) (by decide +kernel)⟩
theorem ff_FR_19 : FF R_FR 19 9 2 := ⟨R_FR, T_FR, 11, rfl, in_FR, by decide, rfl, by decide, m1 332 (by decide +kernel) (by decide +kernel)⟩
theorem ff_FR_22 : FF R_FR 22 9 3 := ⟨R_FR, T_FR, 11, rfl, in_FR, by decide, rfl, by decide, m1 333 (by decide +kernel) (by decide +kernel)⟩
theorem ff_FR_282 : FF R_FR 282 5 1 := ⟨R_Prover, T_Prover, 8, rfl, in_Prover, by decide, rfl, by decide, m1 187 (by decide +kernel) (by decide +kernel)⟩
theorem ff_FR_283 : FF R_FR 283 5 0 := ⟨R_Prover, T_Prover, 8, rfl, in_Prover, by decide, rfl, by decide, m1 185 (by decide +kernel) (by decide +kernel)⟩
theorem ff_FR_316 : FF R_FR 316 7 1 := ⟨R_Sheet, T_Sheet, 3, rfl, in_Sheet, by decide, rfl, by decide, m1 298 (by decide +kernel) (by decide +kernel)⟩
theorem ff_FR_337 : FF R_FR 337 8 0 := ⟨R_Tape, T_Tape, 5, rfl, in_Tape, by decide, rfl, by decide, m1 257 (by decide +kernel) (by decide +kernel)⟩
theorem ff_FR_361 : FF R_FR 361 1 0 := ⟨R_Hand, T_Hand, 4, rfl, in_Hand, by decide, rfl, by decide, m1 314 (by decide +kernel) (by decide +kernel)⟩
theorem ff_FR_364 : FF R_FR 364 1 1 := ⟨R_Hand, T_Hand, 4, rfl, in_Hand, by decide, rfl, by decide, m1 316 (by decide +kernel) (by decide +kernel)⟩
theorem ff_FR_368 : FF R_FR 368 1 2 := ⟨R_Hand, T_Hand, 4, rfl, in_Hand, by decide, rfl, by decide, m1 318 (by decide +kernel) (by decide +kernel)⟩
theorem ff_FR_371 : FF R_FR 371 1 3 := ⟨R_Hand, T_Hand, 4, rfl, in_Hand, by decide, rfl, by decide, m1 320 (by decide +kernel) (by decide +kernel)⟩
theorem ff_FR_386 : FF R_FR 386 7 0 := ⟨R_Sheet, T_Sheet, 3, rfl, in_Sheet, by decide, rfl, by decide, m1 295 (by decide +kernel) (by decide +kernel)⟩
theorem ff_FR_387 : FF R_FR 387 7 2 := ⟨R_Sheet, T_Sheet, 3, rfl, in_Sheet, by decide, rfl, by decide, m1 300 (by decide +kernel) (by decide +kernel)⟩
theorem ff_FR_40 : FF R_FR 40 9 5 := ⟨R_FR, T_FR, 11, rfl, in_FR, by decide, rfl, by decide, m1 335 (by decide +kernel) (by decide +kernel)⟩
theorem ff_FR_54 : FF R_FR 54 9 7 := ⟨R_FR, T_FR, 11, rfl, in_FR, by decide, rfl, by decide, m1 337 (by decide +kernel) (by decide +kernel)⟩
theorem ff_FR_61 : FF R_FR 61 9 8 := ⟨R_FR, T_FR, 11, rfl, in_FR, by decide, rfl, by decide, m1 338 (by decide +kernel) (by decide +kernel)⟩
theorem ff_FR_67 : FF R_FR 67 9 9 := ⟨R_FR, T_FR, 11, rfl, in_FR, by decide, rfl, by decide, m1 339 (by decide +kernel) (by decide +kernel)⟩
theorem ff_FR_73 : FF R_FR 73 9 10 := ⟨R_FR, T_FR, 11, rfl, in_FR, by decide, rfl, by decide, m1 340 (by decide +kernel) (by decide +kernel)⟩
theorem fp_FR_22 : FP R_FR 22 9 3 (.boolean) := ⟨R_FR, T_FR, 11, rfl, in_FR, by decide, rfl, by decide, m1 333 (by decide +kernel) (by decide +kernel), ⟨ty_FR, tyok_FR⟩, nm_FR, rfl, by decide +kernel⟩
theorem fp_FR_241 : FP R_FR 241 4 0 (.int) := ⟨R_Net, T_Net, 5, rfl, in_Net, by decide, rfl, by decide, m1 109 (by decide +kernel) (by decide +kernel), ⟨ty_Net, tyok_Net⟩, nm_Net, rfl, by decide +kernel⟩
theorem fp_FR_337 : FP R_FR 337 8 0 (.int) := ⟨R_Tape, T_Tape, 5, rfl, in_Tape, by decide, rfl, by decide, m1 257 (by decide +kernel) (by decide +kernel), ⟨ty_Tape, tyok_Tape⟩, nm_Tape, rfl, by decide +kernel⟩
theorem fp_FR_341 : FP R_FR 341 3 0 (.int) := ⟨R_Lot, T_Lot, 1, rfl, in_Lot, by decide, rfl, by decide, m1 281 (by decide +kernel) (by decide +kernel), ⟨ty_Lot, tyok_Lot⟩, nm_Lot, rfl, by decide +kernel⟩
theorem fp_FR_361 : FP R_FR 361 1 0 (.int) := ⟨R_Hand, T_Hand, 4, rfl, in_Hand, by decide, rfl, by decide, m1 314 (by decide +kernel) (by decide +kernel), ⟨ty_Hand, tyok_Hand⟩, nm_Hand, rfl, by decide +kernel⟩
theorem fp_FR_364 : FP R_FR 364 1 1 (.long) := ⟨R_Hand, T_Hand, 4, rfl, in_Hand, by decide, rfl, by decide, m1 316 (by decide +kernel) (by decide +kernel), ⟨ty_Hand, tyok_Hand⟩, nm_Hand, rfl, by decide +kernel⟩
theorem fp_FR_368 : FP R_FR 368 1 2 (.int) := ⟨R_Hand, T_Hand, 4, rfl, in_Hand, by decide, rfl, by decide, m1 318 (by decide +kernel) (by decide +kernel), ⟨ty_Hand, tyok_Hand⟩, nm_Hand, rfl, by decide +kernel⟩
theorem fp_FR_371 : FP R_FR 371 1 3 (.int) := ⟨R_Hand, T_Hand, 4, rfl, in_Hand, by decide, rfl, by decide, m1 320 (by decide +kernel) (by decide +kernel), ⟨ty_Hand, tyok_Hand⟩, nm_Hand, rfl, by decide +kernel⟩
/-! method FittingRings.prove(IIIIJ)I -/
theorem yv_FR_prove : YV y_FR_prove b_FR_prove 7 (some .int) 5 9 := ⟨m1 706 (by decide +kernel) (by decide +kernel), m1 707 (by decide +kernel) (by decide +kernel), ini_FR, m1 708 (by decide +kernel) (by decide +kernel), ⟨by decide +kernel, by decide +kernel, by decide +kernel⟩, by decide, by decide, T_FR, 11, rfl⟩
theorem d_FR_prove_0 : decode b_FR_prove 0 = .ok (.aload_n 0, 1) := by decide +kernel
theorem d_FR_prove_1 : decode b_FR_prove 1 = .ok (.iload_n 1, 1) := by decide +kernel
theorem d_FR_prove_2 : decode b_FR_prove 2 = .ok (.iload_n 2, 1) := by decide +kernel
theorem d_FR_prove_3 : decode b_FR_prove 3 = .ok (.iload_n 3, 1) := by decide +kernel
theorem d_FR_prove_4 : decode b_FR_prove 4 = .ok (.iload 4, 2) := by decide +kernel
theorem d_FR_prove_6 : decode b_FR_prove 6 = .ok (.lload 5, 2) := by decide +kernel
theorem d_FR_prove_8 : decode b_FR_prove 8 = .ok (.invokevirtual 274, 3) := by decide +kernel
theorem d_FR_prove_11 : decode b_FR_prove 11 = .ok (.ifCond .ne 6, 3) := by decide +kernel
theorem d_FR_prove_14 : decode b_FR_prove 14 = .ok (.bipush (-2), 2) := by decide +kernel
theorem d_FR_prove_16 : decode b_FR_prove 16 = .ok (.ireturn, 1) := by decide +kernel
theorem d_FR_prove_17 : decode b_FR_prove 17 = .ok (.aload_n 0, 1) := by decide +kernel
theorem d_FR_prove_18 : decode b_FR_prove 18 = .ok (.getfield 40, 3) := by decide +kernel
theorem d_FR_prove_21 : decode b_FR_prove 21 = .ok (.iload_n 1, 1) := by decide +kernel
theorem d_FR_prove_22 : decode b_FR_prove 22 = .ok (.iload_n 2, 1) := by decide +kernel
theorem d_FR_prove_23 : decode b_FR_prove 23 = .ok (.iload_n 3, 1) := by decide +kernel
theorem d_FR_prove_24 : decode b_FR_prove 24 = .ok (.iload 4, 2) := by decide +kernel
theorem d_FR_prove_26 : decode b_FR_prove 26 = .ok (.lload 5, 2) := by decide +kernel
theorem d_FR_prove_28 : decode b_FR_prove 28 = .ok (.invokevirtual 278, 3) := by decide +kernel
theorem d_FR_prove_31 : decode b_FR_prove 31 = .ok (.ireturn, 1) := by decide +kernel
def B_FR_prove_0 (a1 : Int32) (a2 : Int32) (a3 : Int32) (a4 : Int32) (a5 : Int64) (σ : Sto) : Option (Int32 × Sto) :=
  ((f_FR_isClaim a1 a2 a3 a4 a5 σ).bind fun q1 => (if (b2i q1.1) = 0 then some ((-2 : Int32), q1.2)
 else ((f_Prover_build a1 a2 a3 a4 a5 q1.2).bind fun q2 => some (q2.1, q2.2))))
set_option maxHeartbeats 4000000 in
set_option maxRecDepth 100000 in
theorem vB_FR_prove_0 {X : Xt} {E : En} (g : GG X E 7 b_FR_prove R_FR 7) (a1 : Int32) (a2 : Int32) (a3 : Int32) (a4 : Int32) (a5 : Int64) (σ : Sto) : VV X E b_FR_prove 7 eI 0 [(0, .ref (E.2.1 0)), (1, .int a1), (2, .int a2), (3, .int a3), (4, .int a4), (5, .long a5)] [] σ (B_FR_prove_0 a1 a2 a3 a4 a5 σ) := by
  unfold B_FR_prove_0
  refine v_aload_n 0 g d_FR_prove_0 rfl ?_
  refine v_iload_n 1 g d_FR_prove_1 rfl ?_
  refine v_iload_n 2 g d_FR_prove_2 rfl ?_
  refine v_iload_n 3 g d_FR_prove_3 rfl ?_
  refine v_iload 4 g d_FR_prove_4 rfl ?_
  refine v_lload 5 g d_FR_prove_6 rfl ?_
  refine v_callB (r_V (rest := []) [.int a1, .int a2, .int a3, .int a4, .long a5] g (m1 709 (by decide +kernel) (by decide +kernel)) yv_FR_isClaim rfl (fun r σ1 h => sp_FR_isClaim g.2.2.1  h) rfl rfl (by decide) (Nat.le_of_ble_eq_true rfl) d_FR_prove_8) (fun q1 => ?_)
  refine v_if_ne 17 g d_FR_prove_11 (by decide) (fun _ => ?_) (fun _ => ?_)
  · refine v_aload_n 0 g d_FR_prove_17 rfl ?_
    refine v_getR 21 g ff_FR_40 rfl rfl rfl d_FR_prove_18 ?_
    refine v_iload_n 1 g d_FR_prove_21 rfl ?_
    refine v_iload_n 2 g d_FR_prove_22 rfl ?_
    refine v_iload_n 3 g d_FR_prove_23 rfl ?_
    refine v_iload 4 g d_FR_prove_24 rfl ?_
    refine v_lload 5 g d_FR_prove_26 rfl ?_
    refine v_callI (r_V (rest := []) [.int a1, .int a2, .int a3, .int a4, .long a5] g (m1 713 (by decide +kernel) (by decide +kernel)) yv_Prover_build rfl (fun r σ1 h => sp_Prover_build g.2.2.1  h) rfl rfl (by decide) (Nat.le_of_ble_eq_true rfl) d_FR_prove_28) (fun q2 => ?_)
    exact v_ret d_FR_prove_31 rfl
  · refine v_bipush (v := (-2 : Int32)) g d_FR_prove_14 (by decide +kernel) ?_
    exact v_ret d_FR_prove_16 rfl
def f_FR_prove (a1 : Int32) (a2 : Int32) (a3 : Int32) (a4 : Int32) (a5 : Int64) (σ : Sto) : Option (Int32 × Sto) := B_FR_prove_0 a1 a2 a3 a4 a5 σ
theorem sp_FR_prove {l : Launch} {E : En} (hE : Dj E) {a1 : Int32} {a2 : Int32} {a3 : Int32} {a4 : Int32} {a5 : Int64} {σ : Sto} {r : Int32} {σ' : Sto} (h : f_FR_prove a1 a2 a3 a4 a5 σ = some (r, σ')) : Ct l E y_FR_prove (wsM y_FR_prove b_FR_prove 7 (some .int)) 7 [.ref (E.2.1 0), .int a1, .int a2, .int a3, .int a4, .long a5] σ (eI r) σ' :=
  ct_of hE (by decide +kernel) (Nat.le_of_ble_eq_true rfl) (fun x => Or.inl ⟨rfl, x, rfl⟩) (fun X _ g => vB_FR_prove_0 g a1 a2 a3 a4 a5 σ) r σ' h
/-! method FittingRings.proof(I)I -/
theorem yv_FR_proof : YV y_FR_proof b_FR_proof 2 (some .int) 1 9 := ⟨m1 738 (by decide +kernel) (by decide +kernel), m1 739 (by decide +kernel) (by decide +kernel), ini_FR, m1 740 (by decide +kernel) (by decide +kernel), ⟨by decide +kernel, by decide +kernel, by decide +kernel⟩, by decide, by decide, T_FR, 11, rfl⟩
theorem d_FR_proof_0 : decode b_FR_proof 0 = .ok (.iload_n 1, 1) := by decide +kernel
theorem d_FR_proof_1 : decode b_FR_proof 1 = .ok (.ifCond .lt 26, 3) := by decide +kernel
theorem d_FR_proof_4 : decode b_FR_proof 4 = .ok (.iload_n 1, 1) := by decide +kernel
theorem d_FR_proof_5 : decode b_FR_proof 5 = .ok (.aload_n 0, 1) := by decide +kernel
theorem d_FR_proof_6 : decode b_FR_proof 6 = .ok (.getfield 40, 3) := by decide +kernel
theorem d_FR_proof_9 : decode b_FR_proof 9 = .ok (.getfield 282, 3) := by decide +kernel
theorem d_FR_proof_12 : decode b_FR_proof 12 = .ok (.if_icmp .ge 15, 3) := by decide +kernel
theorem d_FR_proof_15 : decode b_FR_proof 15 = .ok (.aload_n 0, 1) := by decide +kernel
theorem d_FR_proof_16 : decode b_FR_proof 16 = .ok (.getfield 40, 3) := by decide +kernel
theorem d_FR_proof_19 : decode b_FR_proof 19 = .ok (.getfield 283, 3) := by decide +kernel
theorem d_FR_proof_22 : decode b_FR_proof 22 = .ok (.iload_n 1, 1) := by decide +kernel
theorem d_FR_proof_23 : decode b_FR_proof 23 = .ok (.iaload, 1) := by decide +kernel
theorem d_FR_proof_24 : decode b_FR_proof 24 = .ok (.goto 5, 3) := by decide +kernel
theorem d_FR_proof_27 : decode b_FR_proof 27 = .ok (.bipush (-12), 2) := by decide +kernel
theorem d_FR_proof_29 : decode b_FR_proof 29 = .ok (.ireturn, 1) := by decide +kernel
def B_FR_proof_0 (a1 : Int32) (σ : Sto) : Option (Int32 × Sto) :=
  (if a1 < 0 then some ((-12 : Int32), σ)
 else (if (gI σ 21 1) ≤ a1 then some ((-12 : Int32), σ)
  else (if inb a1 200 = true then some ((gI σ 22 (Int32.toNatClampNeg a1)), σ) else none)))
set_option maxHeartbeats 4000000 in
set_option maxRecDepth 100000 in
theorem vB_FR_proof_0 {X : Xt} {E : En} (g : GG X E 1 b_FR_proof R_FR 2) (a1 : Int32) (σ : Sto) : VV X E b_FR_proof 2 eI 0 [(0, .ref (E.2.1 0)), (1, .int a1)] [] σ (B_FR_proof_0 a1 σ) := by
  unfold B_FR_proof_0
  refine v_iload_n 1 g d_FR_proof_0 rfl ?_
  refine v_if_lt 27 g d_FR_proof_1 (by decide) (fun _ => ?_) (fun _ => ?_)
  · refine v_bipush (v := (-12 : Int32)) g d_FR_proof_27 (by decide +kernel) ?_
    exact v_ret d_FR_proof_29 rfl
  · refine v_iload_n 1 g d_FR_proof_4 rfl ?_
    refine v_aload_n 0 g d_FR_proof_5 rfl ?_
    refine v_getR 21 g ff_FR_40 rfl rfl rfl d_FR_proof_6 ?_
    refine v_getI g ff_FR_282 rfl rfl d_FR_proof_9 ?_
    refine v_icmp_ge 27 g d_FR_proof_12 (by decide) (fun _ => ?_) (fun _ => ?_)
    · refine v_bipush (v := (-12 : Int32)) g d_FR_proof_27 (by decide +kernel) ?_
      exact v_ret d_FR_proof_29 rfl
    · refine v_aload_n 0 g d_FR_proof_15 rfl ?_
      refine v_getR 21 g ff_FR_40 rfl rfl rfl d_FR_proof_16 ?_
      refine v_getR 22 g ff_FR_283 rfl rfl rfl d_FR_proof_19 ?_
      refine v_iload_n 1 g d_FR_proof_22 rfl ?_
      refine v_iald g rfl rfl d_FR_proof_23 (fun _ => ?_)
      refine v_goto 29 g d_FR_proof_24 (by decide) ?_
      exact v_ret d_FR_proof_29 rfl
def f_FR_proof (a1 : Int32) (σ : Sto) : Option (Int32 × Sto) := B_FR_proof_0 a1 σ
theorem sp_FR_proof {l : Launch} {E : En} (hE : Dj E) {a1 : Int32} {σ : Sto} {r : Int32} {σ' : Sto} (h : f_FR_proof a1 σ = some (r, σ')) : Ct l E y_FR_proof (wsM y_FR_proof b_FR_proof 2 (some .int)) 1 [.ref (E.2.1 0), .int a1] σ (eI r) σ' :=
  ct_of hE (by decide +kernel) (Nat.le_of_ble_eq_true rfl) (fun x => Or.inl ⟨rfl, x, rfl⟩) (fun X _ g => vB_FR_proof_0 g a1 σ) r σ' h
/-! method FittingRings.check(IIIIIJ)I -/
theorem yv_FR_check : YV y_FR_check b_FR_check 8 (some .int) 6 9 := ⟨m1 742 (by decide +kernel) (by decide +kernel), m1 743 (by decide +kernel) (by decide +kernel), ini_FR, m1 744 (by decide +kernel) (by decide +kernel), ⟨by decide +kernel, by decide +kernel, by decide +kernel⟩, by decide, by decide, T_FR, 11, rfl⟩
theorem d_FR_check_0 : decode b_FR_check 0 = .ok (.iload_n 1, 1) := by decide +kernel
theorem d_FR_check_1 : decode b_FR_check 1 = .ok (.invokestatic 286, 3) := by decide +kernel
theorem d_FR_check_4 : decode b_FR_check 4 = .ok (.ifCond .eq 18, 3) := by decide +kernel
theorem d_FR_check_7 : decode b_FR_check 7 = .ok (.aload_n 0, 1) := by decide +kernel
theorem d_FR_check_8 : decode b_FR_check 8 = .ok (.iload_n 2, 1) := by decide +kernel
theorem d_FR_check_9 : decode b_FR_check 9 = .ok (.iload_n 3, 1) := by decide +kernel
theorem d_FR_check_10 : decode b_FR_check 10 = .ok (.iload 4, 2) := by decide +kernel
theorem d_FR_check_12 : decode b_FR_check 12 = .ok (.iload 5, 2) := by decide +kernel
theorem d_FR_check_14 : decode b_FR_check 14 = .ok (.lload 6, 2) := by decide +kernel
theorem d_FR_check_16 : decode b_FR_check 16 = .ok (.invokevirtual 274, 3) := by decide +kernel
theorem d_FR_check_19 : decode b_FR_check 19 = .ok (.ifCond .ne 6, 3) := by decide +kernel
theorem d_FR_check_22 : decode b_FR_check 22 = .ok (.bipush (-2), 2) := by decide +kernel
theorem d_FR_check_24 : decode b_FR_check 24 = .ok (.ireturn, 1) := by decide +kernel
theorem d_FR_check_25 : decode b_FR_check 25 = .ok (.aload_n 0, 1) := by decide +kernel
theorem d_FR_check_26 : decode b_FR_check 26 = .ok (.getfield 67, 3) := by decide +kernel
theorem d_FR_check_29 : decode b_FR_check 29 = .ok (.iload_n 1, 1) := by decide +kernel
theorem d_FR_check_30 : decode b_FR_check 30 = .ok (.aaload, 1) := by decide +kernel
theorem d_FR_check_31 : decode b_FR_check 31 = .ok (.invokevirtual 289, 3) := by decide +kernel
theorem d_FR_check_34 : decode b_FR_check 34 = .ok (.ifCond .eq 6, 3) := by decide +kernel
theorem d_FR_check_37 : decode b_FR_check 37 = .ok (.bipush (-11), 2) := by decide +kernel
theorem d_FR_check_39 : decode b_FR_check 39 = .ok (.ireturn, 1) := by decide +kernel
theorem d_FR_check_40 : decode b_FR_check 40 = .ok (.aload_n 0, 1) := by decide +kernel
theorem d_FR_check_41 : decode b_FR_check 41 = .ok (.getfield 40, 3) := by decide +kernel
theorem d_FR_check_44 : decode b_FR_check 44 = .ok (.aload_n 0, 1) := by decide +kernel
theorem d_FR_check_45 : decode b_FR_check 45 = .ok (.getfield 67, 3) := by decide +kernel
theorem d_FR_check_48 : decode b_FR_check 48 = .ok (.iload_n 1, 1) := by decide +kernel
theorem d_FR_check_49 : decode b_FR_check 49 = .ok (.aaload, 1) := by decide +kernel
theorem d_FR_check_50 : decode b_FR_check 50 = .ok (.iload_n 2, 1) := by decide +kernel
theorem d_FR_check_51 : decode b_FR_check 51 = .ok (.iload_n 3, 1) := by decide +kernel
theorem d_FR_check_52 : decode b_FR_check 52 = .ok (.iload 4, 2) := by decide +kernel
theorem d_FR_check_54 : decode b_FR_check 54 = .ok (.iload 5, 2) := by decide +kernel
theorem d_FR_check_56 : decode b_FR_check 56 = .ok (.lload 6, 2) := by decide +kernel
theorem d_FR_check_58 : decode b_FR_check 58 = .ok (.invokevirtual 293, 3) := by decide +kernel
theorem d_FR_check_61 : decode b_FR_check 61 = .ok (.ireturn, 1) := by decide +kernel
def B_FR_check_0 (a1 : Int32) (a2 : Int32) (a3 : Int32) (a4 : Int32) (a5 : Int32) (a6 : Int64) (σ : Sto) : Option (Int32 × Sto) :=
  ((f_FR_isSheet a1 σ).bind fun q1 => (if (b2i q1.1) = 0 then some ((-2 : Int32), q1.2)
 else ((f_FR_isClaim a2 a3 a4 a5 a6 q1.2).bind fun q2 => (if (b2i q2.1) = 0 then some ((-2 : Int32), q2.2)
  else (if inb a1 4 = true then ((f_Sheet_isMissing (36 + 2 * Int32.toNatClampNeg a1) q2.2).bind fun q4 => (if (b2i q4.1) = 0 then (if inb a1 4 = true then ((f_Prover_firstFault (36 + 2 * Int32.toNatClampNeg a1) a2 a3 a4 a5 a6 q4.2).bind fun q6 => some (q6.1, q6.2)) else none)
   else some ((-11 : Int32), q4.2))) else none)))))
set_option maxHeartbeats 4000000 in
set_option maxRecDepth 100000 in
theorem vB_FR_check_0 {X : Xt} {E : En} (g : GG X E 7 b_FR_check R_FR 8) (a1 : Int32) (a2 : Int32) (a3 : Int32) (a4 : Int32) (a5 : Int32) (a6 : Int64) (σ : Sto) : VV X E b_FR_check 8 eI 0 [(0, .ref (E.2.1 0)), (1, .int a1), (2, .int a2), (3, .int a3), (4, .int a4), (5, .int a5), (6, .long a6)] [] σ (B_FR_check_0 a1 a2 a3 a4 a5 a6 σ) := by
  unfold B_FR_check_0
  refine v_iload_n 1 g d_FR_check_0 rfl ?_
  refine v_callB (r_S (rest := []) [.int a1] g (m1 745 (by decide +kernel) (by decide +kernel)) ys_FR_isSheet (fun r σ1 h => sp_FR_isSheet g.2.2.1  h) rfl rfl (by decide) (Nat.le_of_ble_eq_true rfl) d_FR_check_1) (fun q1 => ?_)
  refine v_if_eq 22 g d_FR_check_4 (by decide) (fun _ => ?_) (fun _ => ?_)
  · refine v_bipush (v := (-2 : Int32)) g d_FR_check_22 (by decide +kernel) ?_
    exact v_ret d_FR_check_24 rfl
  · refine v_aload_n 0 g d_FR_check_7 rfl ?_
    refine v_iload_n 2 g d_FR_check_8 rfl ?_
    refine v_iload_n 3 g d_FR_check_9 rfl ?_
    refine v_iload 4 g d_FR_check_10 rfl ?_
    refine v_iload 5 g d_FR_check_12 rfl ?_
    refine v_lload 6 g d_FR_check_14 rfl ?_
    refine v_callB (r_V (rest := []) [.int a2, .int a3, .int a4, .int a5, .long a6] g (m1 709 (by decide +kernel) (by decide +kernel)) yv_FR_isClaim rfl (fun r σ1 h => sp_FR_isClaim g.2.2.1  h) rfl rfl (by decide) (Nat.le_of_ble_eq_true rfl) d_FR_check_16) (fun q2 => ?_)
    refine v_if_ne 25 g d_FR_check_19 (by decide) (fun _ => ?_) (fun _ => ?_)
    · refine v_aload_n 0 g d_FR_check_25 rfl ?_
      refine v_getR 34 g ff_FR_67 rfl rfl rfl d_FR_check_26 ?_
      refine v_iload_n 1 g d_FR_check_29 rfl ?_
      refine v_aaldS g d_FR_check_30 (fun h3 => ?_)
      refine v_callB (r_V (rest := []) [] g (m1 748 (by decide +kernel) (by decide +kernel)) yv_Sheet_isMissing (cls_sh h3) (fun r σ1 h => sp_Sheet_isMissing g.2.2.1 (cls_sh h3) h) rfl rfl (by decide) (Nat.le_of_ble_eq_true rfl) d_FR_check_31) (fun q4 => ?_)
      refine v_if_eq 40 g d_FR_check_34 (by decide) (fun _ => ?_) (fun _ => ?_)
      · refine v_aload_n 0 g d_FR_check_40 rfl ?_
        refine v_getR 21 g ff_FR_40 rfl rfl rfl d_FR_check_41 ?_
        refine v_aload_n 0 g d_FR_check_44 rfl ?_
        refine v_getR 34 g ff_FR_67 rfl rfl rfl d_FR_check_45 ?_
        refine v_iload_n 1 g d_FR_check_48 rfl ?_
        refine v_aaldS g d_FR_check_49 (fun h5 => ?_)
        refine v_iload_n 2 g d_FR_check_50 rfl ?_
        refine v_iload_n 3 g d_FR_check_51 rfl ?_
        refine v_iload 4 g d_FR_check_52 rfl ?_
        refine v_iload 5 g d_FR_check_54 rfl ?_
        refine v_lload 6 g d_FR_check_56 rfl ?_
        refine v_callI (r_V (rest := []) [.ref (E.2.1 (36 + 2 * Int32.toNatClampNeg a1)), .int a2, .int a3, .int a4, .int a5, .long a6] g (m1 752 (by decide +kernel) (by decide +kernel)) yv_Prover_firstFault rfl (fun r σ1 h => sp_Prover_firstFault g.2.2.1 (cls_sh h5) h) rfl rfl (by decide) (Nat.le_of_ble_eq_true rfl) d_FR_check_58) (fun q6 => ?_)
        exact v_ret d_FR_check_61 rfl
      · refine v_bipush (v := (-11 : Int32)) g d_FR_check_37 (by decide +kernel) ?_
        exact v_ret d_FR_check_39 rfl
    · refine v_bipush (v := (-2 : Int32)) g d_FR_check_22 (by decide +kernel) ?_
      exact v_ret d_FR_check_24 rfl
def f_FR_check (a1 : Int32) (a2 : Int32) (a3 : Int32) (a4 : Int32) (a5 : Int32) (a6 : Int64) (σ : Sto) : Option (Int32 × Sto) := B_FR_check_0 a1 a2 a3 a4 a5 a6 σ
theorem sp_FR_check {l : Launch} {E : En} (hE : Dj E) {a1 : Int32} {a2 : Int32} {a3 : Int32} {a4 : Int32} {a5 : Int32} {a6 : Int64} {σ : Sto} {r : Int32} {σ' : Sto} (h : f_FR_check a1 a2 a3 a4 a5 a6 σ = some (r, σ')) : Ct l E y_FR_check (wsM y_FR_check b_FR_check 8 (some .int)) 7 [.ref (E.2.1 0), .int a1, .int a2, .int a3, .int a4, .int a5, .long a6] σ (eI r) σ' :=
  ct_of hE (by decide +kernel) (Nat.le_of_ble_eq_true rfl) (fun x => Or.inl ⟨rfl, x, rfl⟩) (fun X _ g => vB_FR_check_0 g a1 a2 a3 a4 a5 a6 σ) r σ' h
/-! method FittingRings.writes(I)I -/
theorem yv_FR_writes : YV y_FR_writes b_FR_writes 4 (some .int) 1 9 := ⟨m1 767 (by decide +kernel) (by decide +kernel), m1 768 (by decide +kernel) (by decide +kernel), ini_FR, m1 769 (by decide +kernel) (by decide +kernel), ⟨by decide +kernel, by decide +kernel, by decide +kernel⟩, by decide, by decide, T_FR, 11, rfl⟩
theorem d_FR_writes_0 : decode b_FR_writes 0 = .ok (.iload_n 1, 1) := by decide +kernel
theorem d_FR_writes_1 : decode b_FR_writes 1 = .ok (.invokestatic 286, 3) := by decide +kernel
theorem d_FR_writes_4 : decode b_FR_writes 4 = .ok (.ifCond .ne 6, 3) := by decide +kernel
theorem d_FR_writes_7 : decode b_FR_writes 7 = .ok (.bipush (-2), 2) := by decide +kernel
theorem d_FR_writes_9 : decode b_FR_writes 9 = .ok (.ireturn, 1) := by decide +kernel
theorem d_FR_writes_10 : decode b_FR_writes 10 = .ok (.aload_n 0, 1) := by decide +kernel
theorem d_FR_writes_11 : decode b_FR_writes 11 = .ok (.getfield 40, 3) := by decide +kernel
theorem d_FR_writes_14 : decode b_FR_writes 14 = .ok (.getfield 282, 3) := by decide +kernel
theorem d_FR_writes_17 : decode b_FR_writes 17 = .ok (.ifCond .ne 6, 3) := by decide +kernel
theorem d_FR_writes_20 : decode b_FR_writes 20 = .ok (.bipush (-3), 2) := by decide +kernel
theorem d_FR_writes_22 : decode b_FR_writes 22 = .ok (.ireturn, 1) := by decide +kernel
theorem d_FR_writes_23 : decode b_FR_writes 23 = .ok (.aload_n 0, 1) := by decide +kernel
theorem d_FR_writes_24 : decode b_FR_writes 24 = .ok (.getfield 40, 3) := by decide +kernel
theorem d_FR_writes_27 : decode b_FR_writes 27 = .ok (.getfield 282, 3) := by decide +kernel
theorem d_FR_writes_30 : decode b_FR_writes 30 = .ok (.bipush 60, 2) := by decide +kernel
theorem d_FR_writes_32 : decode b_FR_writes 32 = .ok (.if_icmp .le 6, 3) := by decide +kernel
theorem d_FR_writes_35 : decode b_FR_writes 35 = .ok (.bipush (-4), 2) := by decide +kernel
theorem d_FR_writes_37 : decode b_FR_writes 37 = .ok (.ireturn, 1) := by decide +kernel
theorem d_FR_writes_38 : decode b_FR_writes 38 = .ok (.aload_n 0, 1) := by decide +kernel
theorem d_FR_writes_39 : decode b_FR_writes 39 = .ok (.getfield 67, 3) := by decide +kernel
theorem d_FR_writes_42 : decode b_FR_writes 42 = .ok (.iload_n 1, 1) := by decide +kernel
theorem d_FR_writes_43 : decode b_FR_writes 43 = .ok (.aaload, 1) := by decide +kernel
theorem d_FR_writes_44 : decode b_FR_writes 44 = .ok (.astore_n 2, 1) := by decide +kernel
theorem d_FR_writes_45 : decode b_FR_writes 45 = .ok (.aload_n 2, 1) := by decide +kernel
theorem d_FR_writes_46 : decode b_FR_writes 46 = .ok (.iconst 1, 1) := by decide +kernel
theorem d_FR_writes_47 : decode b_FR_writes 47 = .ok (.aload_n 0, 1) := by decide +kernel
theorem d_FR_writes_48 : decode b_FR_writes 48 = .ok (.getfield 40, 3) := by decide +kernel
theorem d_FR_writes_51 : decode b_FR_writes 51 = .ok (.getfield 282, 3) := by decide +kernel
theorem d_FR_writes_54 : decode b_FR_writes 54 = .ok (.invokevirtual 297, 3) := by decide +kernel
theorem d_FR_writes_57 : decode b_FR_writes 57 = .ok (.iconst 0, 1) := by decide +kernel
theorem d_FR_writes_58 : decode b_FR_writes 58 = .ok (.istore_n 3, 1) := by decide +kernel
theorem d_FR_writes_59 : decode b_FR_writes 59 = .ok (.iload_n 3, 1) := by decide +kernel
theorem d_FR_writes_60 : decode b_FR_writes 60 = .ok (.aload_n 0, 1) := by decide +kernel
theorem d_FR_writes_61 : decode b_FR_writes 61 = .ok (.getfield 40, 3) := by decide +kernel
theorem d_FR_writes_64 : decode b_FR_writes 64 = .ok (.getfield 282, 3) := by decide +kernel
theorem d_FR_writes_67 : decode b_FR_writes 67 = .ok (.if_icmp .ge 24, 3) := by decide +kernel
theorem d_FR_writes_70 : decode b_FR_writes 70 = .ok (.aload_n 2, 1) := by decide +kernel
theorem d_FR_writes_71 : decode b_FR_writes 71 = .ok (.iload_n 3, 1) := by decide +kernel
theorem d_FR_writes_72 : decode b_FR_writes 72 = .ok (.aload_n 0, 1) := by decide +kernel
theorem d_FR_writes_73 : decode b_FR_writes 73 = .ok (.getfield 40, 3) := by decide +kernel
theorem d_FR_writes_76 : decode b_FR_writes 76 = .ok (.getfield 283, 3) := by decide +kernel
theorem d_FR_writes_79 : decode b_FR_writes 79 = .ok (.iload_n 3, 1) := by decide +kernel
theorem d_FR_writes_80 : decode b_FR_writes 80 = .ok (.iaload, 1) := by decide +kernel
theorem d_FR_writes_81 : decode b_FR_writes 81 = .ok (.invokevirtual 300, 3) := by decide +kernel
theorem d_FR_writes_84 : decode b_FR_writes 84 = .ok (.pop, 1) := by decide +kernel
theorem d_FR_writes_85 : decode b_FR_writes 85 = .ok (.iinc 3 1, 3) := by decide +kernel
theorem d_FR_writes_88 : decode b_FR_writes 88 = .ok (.goto (-29), 3) := by decide +kernel
theorem d_FR_writes_91 : decode b_FR_writes 91 = .ok (.aload_n 0, 1) := by decide +kernel
theorem d_FR_writes_92 : decode b_FR_writes 92 = .ok (.getfield 40, 3) := by decide +kernel
theorem d_FR_writes_95 : decode b_FR_writes 95 = .ok (.getfield 282, 3) := by decide +kernel
theorem d_FR_writes_98 : decode b_FR_writes 98 = .ok (.ireturn, 1) := by decide +kernel
def B_FR_writes_59 (k59 : Nat → Int32 → Sto → Option (Int32 × Sto)) (v2 : Nat) (v3 : Int32) (σ : Sto) : Option (Int32 × Sto) :=
  (if (gI σ 21 1) ≤ v3 then some ((gI σ 21 1), σ)
 else (if inb v3 200 = true then ((f_Sheet_put v2 v3 (gI σ 22 (Int32.toNatClampNeg v3)) σ).bind fun q4 => k59 v2 (v3 + (1 : Int32)) q4.2) else none))
set_option maxHeartbeats 4000000 in
set_option maxRecDepth 100000 in
theorem vB_FR_writes_59 {X : Xt} {E : En} (g : GG X E 3 b_FR_writes R_FR 4) {k59 : Nat → Int32 → Sto → Option (Int32 × Sto)} (hk59 : ∀ (v2 : Nat) (v3 : Int32) (hv2 : cls v2 = 7) (σ : Sto), VV X E b_FR_writes 4 eI 59 [(0, .ref (E.2.1 0)), (2, .ref (E.2.1 v2)), (3, .int v3)] [] σ (k59 v2 v3 σ)) (v2 : Nat) (v3 : Int32) (hv2 : cls v2 = 7) (σ : Sto) : VV X E b_FR_writes 4 eI 59 [(0, .ref (E.2.1 0)), (2, .ref (E.2.1 v2)), (3, .int v3)] [] σ (B_FR_writes_59 k59 v2 v3 σ) := by
  unfold B_FR_writes_59
  refine v_iload_n 2 g d_FR_writes_59 rfl ?_
  refine v_aload_n 0 g d_FR_writes_60 rfl ?_
  refine v_getR 21 g ff_FR_40 rfl rfl rfl d_FR_writes_61 ?_
  refine v_getI g ff_FR_282 rfl rfl d_FR_writes_64 ?_
  refine v_icmp_ge 91 g d_FR_writes_67 (by decide) (fun _ => ?_) (fun _ => ?_)
  · refine v_aload_n 0 g d_FR_writes_91 rfl ?_
    refine v_getR 21 g ff_FR_40 rfl rfl rfl d_FR_writes_92 ?_
    refine v_getI g ff_FR_282 rfl rfl d_FR_writes_95 ?_
    exact v_ret d_FR_writes_98 rfl
  · refine v_aload_n 1 g d_FR_writes_70 rfl ?_
    refine v_iload_n 2 g d_FR_writes_71 rfl ?_
    refine v_aload_n 0 g d_FR_writes_72 rfl ?_
    refine v_getR 21 g ff_FR_40 rfl rfl rfl d_FR_writes_73 ?_
    refine v_getR 22 g ff_FR_283 rfl rfl rfl d_FR_writes_76 ?_
    refine v_iload_n 2 g d_FR_writes_79 rfl ?_
    refine v_iald g rfl rfl d_FR_writes_80 (fun _ => ?_)
    refine v_callI (r_V (rest := []) [.int v3, .int (gI σ 22 (Int32.toNatClampNeg v3))] g (m1 779 (by decide +kernel) (by decide +kernel)) yv_Sheet_put hv2 (fun r σ1 h => sp_Sheet_put g.2.2.1 hv2 h) rfl rfl (by decide) (Nat.le_of_ble_eq_true rfl) d_FR_writes_81) (fun q4 => ?_)
    refine v_pop g d_FR_writes_84 rfl ?_
    refine v_iinc 2 [(3, .int (v3 + (1 : Int32))), (0, .ref (E.2.1 0)), (2, .ref (E.2.1 v2))] g d_FR_writes_85 rfl (v := (1 : Int32)) (by decide +kernel) (by decide) rfl ?_
    refine v_goto 59 g d_FR_writes_88 (by decide) ?_
    exact v_sub [1,2,0] rfl (hk59 v2 (v3 + (1 : Int32)) hv2 q4.2)
def L_FR_writes_59 : Nat → Nat → Int32 → Sto → Option (Int32 × Sto)
  | 0, _, _, _ => none
  | fu + 1, v2, v3, σ => B_FR_writes_59 (L_FR_writes_59 fu) v2 v3 σ
theorem vL_FR_writes_59 {X : Xt} {E : En} (g : GG X E 3 b_FR_writes R_FR 4) (fu : Nat) : ∀ (v2 : Nat) (v3 : Int32) (hv2 : cls v2 = 7) (σ : Sto), VV X E b_FR_writes 4 eI 59 [(0, .ref (E.2.1 0)), (2, .ref (E.2.1 v2)), (3, .int v3)] [] σ (L_FR_writes_59 fu v2 v3 σ) := by
  induction fu with
  | zero => intros; exact v_none
  | succ fu ih =>
    intro v2 v3 hv2 σ
    exact vB_FR_writes_59 g ih v2 v3 hv2 σ
def B_FR_writes_0 (a1 : Int32) (σ : Sto) : Option (Int32 × Sto) :=
  ((f_FR_isSheet a1 σ).bind fun q1 => (if (b2i q1.1) = 0 then some ((-2 : Int32), q1.2)
 else (if (gI q1.2 21 1) = 0 then some ((-3 : Int32), q1.2)
  else (if (gI q1.2 21 1) ≤ (60 : Int32) then (if inb a1 4 = true then ((f_Sheet_remake (36 + 2 * Int32.toNatClampNeg a1) (1 : Int32) (gI q1.2 21 1) q1.2).bind fun q3 => L_FR_writes_59 LF (36 + 2 * Int32.toNatClampNeg a1) (0 : Int32) q3.2) else none)
   else some ((-4 : Int32), q1.2)))))
set_option maxHeartbeats 4000000 in
set_option maxRecDepth 100000 in
theorem vB_FR_writes_0 {X : Xt} {E : En} (g : GG X E 3 b_FR_writes R_FR 4) (a1 : Int32) (σ : Sto) : VV X E b_FR_writes 4 eI 0 [(0, .ref (E.2.1 0)), (1, .int a1)] [] σ (B_FR_writes_0 a1 σ) := by
  unfold B_FR_writes_0
  refine v_iload_n 1 g d_FR_writes_0 rfl ?_
  refine v_callB (r_S (rest := []) [.int a1] g (m1 745 (by decide +kernel) (by decide +kernel)) ys_FR_isSheet (fun r σ1 h => sp_FR_isSheet g.2.2.1  h) rfl rfl (by decide) (Nat.le_of_ble_eq_true rfl) d_FR_writes_1) (fun q1 => ?_)
  refine v_if_ne 10 g d_FR_writes_4 (by decide) (fun _ => ?_) (fun _ => ?_)
  · refine v_aload_n 0 g d_FR_writes_10 rfl ?_
    refine v_getR 21 g ff_FR_40 rfl rfl rfl d_FR_writes_11 ?_
    refine v_getI g ff_FR_282 rfl rfl d_FR_writes_14 ?_
    refine v_if_ne 23 g d_FR_writes_17 (by decide) (fun _ => ?_) (fun _ => ?_)
    · refine v_aload_n 0 g d_FR_writes_23 rfl ?_
      refine v_getR 21 g ff_FR_40 rfl rfl rfl d_FR_writes_24 ?_
      refine v_getI g ff_FR_282 rfl rfl d_FR_writes_27 ?_
      refine v_bipush (v := (60 : Int32)) g d_FR_writes_30 (by decide +kernel) ?_
      refine v_icmp_le 38 g d_FR_writes_32 (by decide) (fun _ => ?_) (fun _ => ?_)
      · refine v_aload_n 0 g d_FR_writes_38 rfl ?_
        refine v_getR 34 g ff_FR_67 rfl rfl rfl d_FR_writes_39 ?_
        refine v_iload_n 1 g d_FR_writes_42 rfl ?_
        refine v_aaldS g d_FR_writes_43 (fun h2 => ?_)
        refine v_astore_n [(2, .ref (E.2.1 (36 + 2 * Int32.toNatClampNeg a1))), (0, .ref (E.2.1 0)), (1, .int a1)] g d_FR_writes_44 (by decide) rfl ?_
        refine v_aload_n 0 g d_FR_writes_45 rfl ?_
        refine v_iconst (v := (1 : Int32)) g d_FR_writes_46 (by decide +kernel) ?_
        refine v_aload_n 1 g d_FR_writes_47 rfl ?_
        refine v_getR 21 g ff_FR_40 rfl rfl rfl d_FR_writes_48 ?_
        refine v_getI g ff_FR_282 rfl rfl d_FR_writes_51 ?_
        refine v_callU (r_V (rest := []) [.int (1 : Int32), .int (gI q1.2 21 1)] g (m1 770 (by decide +kernel) (by decide +kernel)) yv_Sheet_remake (cls_sh h2) (fun r σ1 h => sp_Sheet_remake g.2.2.1 (cls_sh h2) h) rfl rfl (by decide) (Nat.le_of_ble_eq_true rfl) d_FR_writes_54) (fun q3 => ?_)
        refine v_iconst (v := (0 : Int32)) g d_FR_writes_57 (by decide +kernel) ?_
        refine v_istore_n [(3, .int (0 : Int32)), (2, .ref (E.2.1 (36 + 2 * Int32.toNatClampNeg a1))), (0, .ref (E.2.1 0)), (1, .int a1)] g d_FR_writes_58 (by decide) rfl ?_
        exact v_sub [2,1,0] rfl (vL_FR_writes_59 g LF (36 + 2 * Int32.toNatClampNeg a1) (0 : Int32) (cls_sh h2) q3.2)
      · refine v_bipush (v := (-4 : Int32)) g d_FR_writes_35 (by decide +kernel) ?_
        exact v_ret d_FR_writes_37 rfl
    · refine v_bipush (v := (-3 : Int32)) g d_FR_writes_20 (by decide +kernel) ?_
      exact v_ret d_FR_writes_22 rfl
  · refine v_bipush (v := (-2 : Int32)) g d_FR_writes_7 (by decide +kernel) ?_
    exact v_ret d_FR_writes_9 rfl
def f_FR_writes (a1 : Int32) (σ : Sto) : Option (Int32 × Sto) := B_FR_writes_0 a1 σ
theorem sp_FR_writes {l : Launch} {E : En} (hE : Dj E) {a1 : Int32} {σ : Sto} {r : Int32} {σ' : Sto} (h : f_FR_writes a1 σ = some (r, σ')) : Ct l E y_FR_writes (wsM y_FR_writes b_FR_writes 4 (some .int)) 3 [.ref (E.2.1 0), .int a1] σ (eI r) σ' :=
  ct_of hE (by decide +kernel) (Nat.le_of_ble_eq_true rfl) (fun x => Or.inl ⟨rfl, x, rfl⟩) (fun X _ g => vB_FR_writes_0 g a1 σ) r σ' h
/-! method FittingRings.cover(IIIJ)I -/
theorem yv_FR_cover : YV y_FR_cover b_FR_cover 13 (some .int) 4 9 := ⟨m1 784 (by decide +kernel) (by decide +kernel), m1 785 (by decide +kernel) (by decide +kernel), ini_FR, m1 786 (by decide +kernel) (by decide +kernel), ⟨by decide +kernel, by decide +kernel, by decide +kernel⟩, by decide, by decide, T_FR, 11, rfl⟩
theorem d_FR_cover_0 : decode b_FR_cover 0 = .ok (.iload_n 1, 1) := by decide +kernel
theorem d_FR_cover_1 : decode b_FR_cover 1 = .ok (.invokestatic 286, 3) := by decide +kernel
theorem d_FR_cover_4 : decode b_FR_cover 4 = .ok (.ifCond .eq 14, 3) := by decide +kernel
theorem d_FR_cover_7 : decode b_FR_cover 7 = .ok (.aload_n 0, 1) := by decide +kernel
theorem d_FR_cover_8 : decode b_FR_cover 8 = .ok (.iload_n 2, 1) := by decide +kernel
theorem d_FR_cover_9 : decode b_FR_cover 9 = .ok (.iload_n 3, 1) := by decide +kernel
theorem d_FR_cover_10 : decode b_FR_cover 10 = .ok (.lload 4, 2) := by decide +kernel
theorem d_FR_cover_12 : decode b_FR_cover 12 = .ok (.invokevirtual 194, 3) := by decide +kernel
theorem d_FR_cover_15 : decode b_FR_cover 15 = .ok (.ifCond .ne 6, 3) := by decide +kernel
theorem d_FR_cover_18 : decode b_FR_cover 18 = .ok (.bipush (-2), 2) := by decide +kernel
theorem d_FR_cover_20 : decode b_FR_cover 20 = .ok (.ireturn, 1) := by decide +kernel
theorem d_FR_cover_21 : decode b_FR_cover 21 = .ok (.aload_n 0, 1) := by decide +kernel
theorem d_FR_cover_22 : decode b_FR_cover 22 = .ok (.getfield 67, 3) := by decide +kernel
theorem d_FR_cover_25 : decode b_FR_cover 25 = .ok (.iload_n 1, 1) := by decide +kernel
theorem d_FR_cover_26 : decode b_FR_cover 26 = .ok (.aaload, 1) := by decide +kernel
theorem d_FR_cover_27 : decode b_FR_cover 27 = .ok (.astore 6, 2) := by decide +kernel
theorem d_FR_cover_29 : decode b_FR_cover 29 = .ok (.aload 6, 2) := by decide +kernel
theorem d_FR_cover_31 : decode b_FR_cover 31 = .ok (.invokevirtual 289, 3) := by decide +kernel
theorem d_FR_cover_34 : decode b_FR_cover 34 = .ok (.ifCond .eq 6, 3) := by decide +kernel
theorem d_FR_cover_37 : decode b_FR_cover 37 = .ok (.bipush (-11), 2) := by decide +kernel
theorem d_FR_cover_39 : decode b_FR_cover 39 = .ok (.ireturn, 1) := by decide +kernel
theorem d_FR_cover_40 : decode b_FR_cover 40 = .ok (.iconst 0, 1) := by decide +kernel
theorem d_FR_cover_41 : decode b_FR_cover 41 = .ok (.istore 7, 2) := by decide +kernel
theorem d_FR_cover_43 : decode b_FR_cover 43 = .ok (.iconst 0, 1) := by decide +kernel
theorem d_FR_cover_44 : decode b_FR_cover 44 = .ok (.istore 8, 2) := by decide +kernel
theorem d_FR_cover_46 : decode b_FR_cover 46 = .ok (.iload 8, 2) := by decide +kernel
theorem d_FR_cover_48 : decode b_FR_cover 48 = .ok (.aload_n 0, 1) := by decide +kernel
theorem d_FR_cover_49 : decode b_FR_cover 49 = .ok (.getfield 10, 3) := by decide +kernel
theorem d_FR_cover_52 : decode b_FR_cover 52 = .ok (.getfield 241, 3) := by decide +kernel
theorem d_FR_cover_55 : decode b_FR_cover 55 = .ok (.if_icmp .ge 96, 3) := by decide +kernel
theorem d_FR_cover_58 : decode b_FR_cover 58 = .ok (.lload 4, 2) := by decide +kernel
theorem d_FR_cover_60 : decode b_FR_cover 60 = .ok (.iload 8, 2) := by decide +kernel
theorem d_FR_cover_62 : decode b_FR_cover 62 = .ok (.invokestatic 244, 3) := by decide +kernel
theorem d_FR_cover_65 : decode b_FR_cover 65 = .ok (.ifCond .eq 80, 3) := by decide +kernel
theorem d_FR_cover_68 : decode b_FR_cover 68 = .ok (.aload 6, 2) := by decide +kernel
theorem d_FR_cover_70 : decode b_FR_cover 70 = .ok (.iload 8, 2) := by decide +kernel
theorem d_FR_cover_72 : decode b_FR_cover 72 = .ok (.lload 4, 2) := by decide +kernel
theorem d_FR_cover_74 : decode b_FR_cover 74 = .ok (.invokevirtual 303, 3) := by decide +kernel
theorem d_FR_cover_77 : decode b_FR_cover 77 = .ok (.lstore 9, 2) := by decide +kernel
theorem d_FR_cover_79 : decode b_FR_cover 79 = .ok (.lload 9, 2) := by decide +kernel
theorem d_FR_cover_81 : decode b_FR_cover 81 = .ok (.lconst 1, 1) := by decide +kernel
theorem d_FR_cover_82 : decode b_FR_cover 82 = .ok (.iload 8, 2) := by decide +kernel
theorem d_FR_cover_84 : decode b_FR_cover 84 = .ok (.lshl, 1) := by decide +kernel
theorem d_FR_cover_85 : decode b_FR_cover 85 = .ok (.lconst 1, 1) := by decide +kernel
theorem d_FR_cover_86 : decode b_FR_cover 86 = .ok (.lsub, 1) := by decide +kernel
theorem d_FR_cover_87 : decode b_FR_cover 87 = .ok (.land, 1) := by decide +kernel
theorem d_FR_cover_88 : decode b_FR_cover 88 = .ok (.lstore 11, 2) := by decide +kernel
theorem d_FR_cover_90 : decode b_FR_cover 90 = .ok (.aload 6, 2) := by decide +kernel
theorem d_FR_cover_92 : decode b_FR_cover 92 = .ok (.iload 8, 2) := by decide +kernel
theorem d_FR_cover_94 : decode b_FR_cover 94 = .ok (.invokevirtual 307, 3) := by decide +kernel
theorem d_FR_cover_97 : decode b_FR_cover 97 = .ok (.ifCond .lt 20, 3) := by decide +kernel
theorem d_FR_cover_100 : decode b_FR_cover 100 = .ok (.aload_n 0, 1) := by decide +kernel
theorem d_FR_cover_101 : decode b_FR_cover 101 = .ok (.getfield 10, 3) := by decide +kernel
theorem d_FR_cover_104 : decode b_FR_cover 104 = .ok (.iload_n 2, 1) := by decide +kernel
theorem d_FR_cover_105 : decode b_FR_cover 105 = .ok (.iload 8, 2) := by decide +kernel
theorem d_FR_cover_107 : decode b_FR_cover 107 = .ok (.lload 11, 2) := by decide +kernel
theorem d_FR_cover_109 : decode b_FR_cover 109 = .ok (.invokevirtual 148, 3) := by decide +kernel
theorem d_FR_cover_112 : decode b_FR_cover 112 = .ok (.lconst 0, 1) := by decide +kernel
theorem d_FR_cover_113 : decode b_FR_cover 113 = .ok (.lcmp, 1) := by decide +kernel
theorem d_FR_cover_114 : decode b_FR_cover 114 = .ok (.ifCond .eq 9, 3) := by decide +kernel
theorem d_FR_cover_117 : decode b_FR_cover 117 = .ok (.bipush (-100), 2) := by decide +kernel
theorem d_FR_cover_119 : decode b_FR_cover 119 = .ok (.iload 8, 2) := by decide +kernel
theorem d_FR_cover_121 : decode b_FR_cover 121 = .ok (.isub, 1) := by decide +kernel
theorem d_FR_cover_122 : decode b_FR_cover 122 = .ok (.ireturn, 1) := by decide +kernel
theorem d_FR_cover_123 : decode b_FR_cover 123 = .ok (.lload 11, 2) := by decide +kernel
theorem d_FR_cover_125 : decode b_FR_cover 125 = .ok (.lconst 0, 1) := by decide +kernel
theorem d_FR_cover_126 : decode b_FR_cover 126 = .ok (.lcmp, 1) := by decide +kernel
theorem d_FR_cover_127 : decode b_FR_cover 127 = .ok (.ifCond .ne 18, 3) := by decide +kernel
theorem d_FR_cover_130 : decode b_FR_cover 130 = .ok (.iload 7, 2) := by decide +kernel
theorem d_FR_cover_132 : decode b_FR_cover 132 = .ok (.aload_n 0, 1) := by decide +kernel
theorem d_FR_cover_133 : decode b_FR_cover 133 = .ok (.getfield 10, 3) := by decide +kernel
theorem d_FR_cover_136 : decode b_FR_cover 136 = .ok (.iload_n 3, 1) := by decide +kernel
theorem d_FR_cover_137 : decode b_FR_cover 137 = .ok (.lload 9, 2) := by decide +kernel
theorem d_FR_cover_139 : decode b_FR_cover 139 = .ok (.invokevirtual 310, 3) := by decide +kernel
theorem d_FR_cover_142 : decode b_FR_cover 142 = .ok (.iadd, 1) := by decide +kernel
theorem d_FR_cover_143 : decode b_FR_cover 143 = .ok (.istore 7, 2) := by decide +kernel
theorem d_FR_cover_145 : decode b_FR_cover 145 = .ok (.iinc 8 1, 3) := by decide +kernel
theorem d_FR_cover_148 : decode b_FR_cover 148 = .ok (.goto (-102), 3) := by decide +kernel
theorem d_FR_cover_151 : decode b_FR_cover 151 = .ok (.iload 7, 2) := by decide +kernel
theorem d_FR_cover_153 : decode b_FR_cover 153 = .ok (.ireturn, 1) := by decide +kernel
def B_FR_cover_46 (k46 : Int32 → Int32 → Int64 → Nat → Int32 → Int32 → Sto → Option (Int32 × Sto)) (v2 : Int32) (v3 : Int32) (v4 : Int64) (v6 : Nat) (v7 : Int32) (v8 : Int32) (σ : Sto) : Option (Int32 × Sto) :=
  (if (gI σ 1 0) ≤ v8 then some (v7, σ)
 else ((f_FR_isOf v4 v8 σ).bind fun q5 => (if (b2i q5.1) = 0 then k46 v2 v3 v4 v6 v7 (v8 + (1 : Int32)) q5.2
  else ((f_Sheet_alike v6 v8 v4 q5.2).bind fun q6 => (lt1 (q6.1 &&& ((lsh (1 : Int64) v8) - (1 : Int64))) fun x7 => ((f_Sheet_at v6 v8 q6.2).bind fun q8 => (if q8.1 < 0 then some (((-100 : Int32) - v8), q8.2)
   else ((f_Net_fitting 1 v2 v8 x7 q8.2).bind fun q9 => (if q9.1 = (0 : Int64) then (if x7 = (0 : Int64) then ((f_Net_peak 1 v3 q6.1 q9.2).bind fun q10 => k46 v2 v3 v4 v6 (v7 + q10.1) (v8 + (1 : Int32)) q10.2)
     else k46 v2 v3 v4 v6 v7 (v8 + (1 : Int32)) q9.2)
    else some (((-100 : Int32) - v8), q9.2))))))))))
set_option maxHeartbeats 4000000 in
set_option maxRecDepth 100000 in
theorem vB_FR_cover_46 {X : Xt} {E : En} (g : GG X E 4 b_FR_cover R_FR 13) {k46 : Int32 → Int32 → Int64 → Nat → Int32 → Int32 → Sto → Option (Int32 × Sto)} (hk46 : ∀ (v2 : Int32) (v3 : Int32) (v4 : Int64) (v6 : Nat) (v7 : Int32) (v8 : Int32) (hv6 : cls v6 = 7) (σ : Sto), VV X E b_FR_cover 13 eI 46 [(0, .ref (E.2.1 0)), (2, .int v2), (3, .int v3), (4, .long v4), (6, .ref (E.2.1 v6)), (7, .int v7), (8, .int v8)] [] σ (k46 v2 v3 v4 v6 v7 v8 σ)) (v2 : Int32) (v3 : Int32) (v4 : Int64) (v6 : Nat) (v7 : Int32) (v8 : Int32) (hv6 : cls v6 = 7) (σ : Sto) : VV X E b_FR_cover 13 eI 46 [(0, .ref (E.2.1 0)), (2, .int v2), (3, .int v3), (4, .long v4), (6, .ref (E.2.1 v6)), (7, .int v7), (8, .int v8)] [] σ (B_FR_cover_46 k46 v2 v3 v4 v6 v7 v8 σ) := by
  unfold B_FR_cover_46
  refine v_iload 6 g d_FR_cover_46 rfl ?_
  refine v_aload_n 0 g d_FR_cover_48 rfl ?_
  refine v_getR 1 g ff_FR_10 rfl rfl rfl d_FR_cover_49 ?_
  refine v_getI g ff_FR_241 rfl rfl d_FR_cover_52 ?_
  refine v_icmp_ge 151 g d_FR_cover_55 (by decide) (fun _ => ?_) (fun _ => ?_)
  · refine v_iload 5 g d_FR_cover_151 rfl ?_
    exact v_ret d_FR_cover_153 rfl
  · refine v_lload 3 g d_FR_cover_58 rfl ?_
    refine v_iload 6 g d_FR_cover_60 rfl ?_
    refine v_callB (r_S (rest := []) [.long v4, .int v8] g (m1 596 (by decide +kernel) (by decide +kernel)) ys_FR_isOf (fun r σ1 h => sp_FR_isOf g.2.2.1  h) rfl rfl (by decide) (Nat.le_of_ble_eq_true rfl) d_FR_cover_62) (fun q5 => ?_)
    refine v_if_eq 145 g d_FR_cover_65 (by decide) (fun _ => ?_) (fun _ => ?_)
    · refine v_iinc 6 [(8, .int (v8 + (1 : Int32))), (0, .ref (E.2.1 0)), (2, .int v2), (3, .int v3), (4, .long v4), (6, .ref (E.2.1 v6)), (7, .int v7)] g d_FR_cover_145 rfl (v := (1 : Int32)) (by decide +kernel) (by decide) rfl ?_
      refine v_goto 46 g d_FR_cover_148 (by decide) ?_
      exact v_sub [1,2,3,4,5,6,0] rfl (hk46 v2 v3 v4 v6 v7 (v8 + (1 : Int32)) hv6 q5.2)
    · refine v_aload 4 g d_FR_cover_68 rfl ?_
      refine v_iload 6 g d_FR_cover_70 rfl ?_
      refine v_lload 3 g d_FR_cover_72 rfl ?_
      refine v_callL (r_V (rest := []) [.int v8, .long v4] g (m1 787 (by decide +kernel) (by decide +kernel)) yv_Sheet_alike hv6 (fun r σ1 h => sp_Sheet_alike g.2.2.1 hv6 h) rfl rfl (by decide) (Nat.le_of_ble_eq_true rfl) d_FR_cover_74) (fun q6 => ?_)
      refine v_lstore [(9, .long q6.1), (0, .ref (E.2.1 0)), (2, .int v2), (3, .int v3), (4, .long v4), (6, .ref (E.2.1 v6)), (7, .int v7), (8, .int v8)] g d_FR_cover_77 (by decide) rfl ?_
      refine v_lload 0 g d_FR_cover_79 rfl ?_
      refine v_lconst (v := (1 : Int64)) g d_FR_cover_81 (by decide +kernel) ?_
      refine v_iload 7 g d_FR_cover_82 rfl ?_
      refine v_lshl g d_FR_cover_84 ?_
      refine v_lconst (v := (1 : Int64)) g d_FR_cover_85 (by decide +kernel) ?_
      refine v_lsub g d_FR_cover_86 ?_
      refine v_land g d_FR_cover_87 ?_
      refine v_nlet (fun x7 ex7 => ?_)
      rw [← ex7]
      refine v_lstore [(11, .long x7), (9, .long q6.1), (0, .ref (E.2.1 0)), (2, .int v2), (3, .int v3), (4, .long v4), (6, .ref (E.2.1 v6)), (7, .int v7), (8, .int v8)] g d_FR_cover_88 (by decide) rfl ?_
      refine v_aload 6 g d_FR_cover_90 rfl ?_
      refine v_iload 8 g d_FR_cover_92 rfl ?_
      refine v_callI (r_V (rest := []) [.int v8] g (m1 793 (by decide +kernel) (by decide +kernel)) yv_Sheet_at hv6 (fun r σ1 h => sp_Sheet_at g.2.2.1 hv6 h) rfl rfl (by decide) (Nat.le_of_ble_eq_true rfl) d_FR_cover_94) (fun q8 => ?_)
      refine v_if_lt 117 g d_FR_cover_97 (by decide) (fun _ => ?_) (fun _ => ?_)
      · refine v_bipush (v := (-100 : Int32)) g d_FR_cover_117 (by decide +kernel) ?_
        refine v_iload 8 g d_FR_cover_119 rfl ?_
        refine v_isub g d_FR_cover_121 ?_
        exact v_ret d_FR_cover_122 rfl
      · refine v_aload_n 2 g d_FR_cover_100 rfl ?_
        refine v_getR 1 g ff_FR_10 rfl rfl rfl d_FR_cover_101 ?_
        refine v_iload_n 3 g d_FR_cover_104 rfl ?_
        refine v_iload 8 g d_FR_cover_105 rfl ?_
        refine v_lload 0 g d_FR_cover_107 rfl ?_
        refine v_callL (r_V (rest := []) [.int v2, .int v8, .long x7] g (m1 457 (by decide +kernel) (by decide +kernel)) yv_Net_fitting rfl (fun r σ1 h => sp_Net_fitting g.2.2.1 rfl h) rfl rfl (by decide) (Nat.le_of_ble_eq_true rfl) d_FR_cover_109) (fun q9 => ?_)
        refine v_lconst (v := (0 : Int64)) g d_FR_cover_112 (by decide +kernel) ?_
        refine v_lcmp_eq 123 g d_FR_cover_113 d_FR_cover_114 (by decide) (fun _ => ?_) (fun _ => ?_)
        · refine v_lload 0 g d_FR_cover_123 rfl ?_
          refine v_lconst (v := (0 : Int64)) g d_FR_cover_125 (by decide +kernel) ?_
          refine v_lcmp_ne 145 g d_FR_cover_126 d_FR_cover_127 (by decide) (fun _ => ?_) (fun _ => ?_)
          · refine v_iinc 8 [(8, .int (v8 + (1 : Int32))), (11, .long x7), (9, .long q6.1), (0, .ref (E.2.1 0)), (2, .int v2), (3, .int v3), (4, .long v4), (6, .ref (E.2.1 v6)), (7, .int v7)] g d_FR_cover_145 rfl (v := (1 : Int32)) (by decide +kernel) (by decide) rfl ?_
            refine v_goto 46 g d_FR_cover_148 (by decide) ?_
            exact v_sub [3,4,5,6,7,8,0] rfl (hk46 v2 v3 v4 v6 v7 (v8 + (1 : Int32)) hv6 q9.2)
          · refine v_iload 7 g d_FR_cover_130 rfl ?_
            refine v_aload_n 2 g d_FR_cover_132 rfl ?_
            refine v_getR 1 g ff_FR_10 rfl rfl rfl d_FR_cover_133 ?_
            refine v_iload_n 4 g d_FR_cover_136 rfl ?_
            refine v_lload 1 g d_FR_cover_137 rfl ?_
            refine v_callI (r_V (rest := [.int v7]) [.int v3, .long q6.1] g (m1 794 (by decide +kernel) (by decide +kernel)) yv_Net_peak rfl (fun r σ1 h => sp_Net_peak g.2.2.1 rfl h) rfl rfl (by decide) (Nat.le_of_ble_eq_true rfl) d_FR_cover_139) (fun q10 => ?_)
            refine v_iadd g d_FR_cover_142 ?_
            refine v_istore [(7, .int (v7 + q10.1)), (11, .long x7), (9, .long q6.1), (0, .ref (E.2.1 0)), (2, .int v2), (3, .int v3), (4, .long v4), (6, .ref (E.2.1 v6)), (8, .int v8)] g d_FR_cover_143 (by decide) rfl ?_
            refine v_iinc 8 [(8, .int (v8 + (1 : Int32))), (7, .int (v7 + q10.1)), (11, .long x7), (9, .long q6.1), (0, .ref (E.2.1 0)), (2, .int v2), (3, .int v3), (4, .long v4), (6, .ref (E.2.1 v6))] g d_FR_cover_145 rfl (v := (1 : Int32)) (by decide +kernel) (by decide) rfl ?_
            refine v_goto 46 g d_FR_cover_148 (by decide) ?_
            exact v_sub [4,5,6,7,8,1,0] rfl (hk46 v2 v3 v4 v6 (v7 + q10.1) (v8 + (1 : Int32)) hv6 q10.2)
        · refine v_bipush (v := (-100 : Int32)) g d_FR_cover_117 (by decide +kernel) ?_
          refine v_iload 8 g d_FR_cover_119 rfl ?_
          refine v_isub g d_FR_cover_121 ?_
          exact v_ret d_FR_cover_122 rfl
def L_FR_cover_46 : Nat → Int32 → Int32 → Int64 → Nat → Int32 → Int32 → Sto → Option (Int32 × Sto)
  | 0, _, _, _, _, _, _, _ => none
  | fu + 1, v2, v3, v4, v6, v7, v8, σ => B_FR_cover_46 (L_FR_cover_46 fu) v2 v3 v4 v6 v7 v8 σ
theorem vL_FR_cover_46 {X : Xt} {E : En} (g : GG X E 4 b_FR_cover R_FR 13) (fu : Nat) : ∀ (v2 : Int32) (v3 : Int32) (v4 : Int64) (v6 : Nat) (v7 : Int32) (v8 : Int32) (hv6 : cls v6 = 7) (σ : Sto), VV X E b_FR_cover 13 eI 46 [(0, .ref (E.2.1 0)), (2, .int v2), (3, .int v3), (4, .long v4), (6, .ref (E.2.1 v6)), (7, .int v7), (8, .int v8)] [] σ (L_FR_cover_46 fu v2 v3 v4 v6 v7 v8 σ) := by
  induction fu with
  | zero => intros; exact v_none
  | succ fu ih =>
    intro v2 v3 v4 v6 v7 v8 hv6 σ
    exact vB_FR_cover_46 g ih v2 v3 v4 v6 v7 v8 hv6 σ
def B_FR_cover_0 (a1 : Int32) (a2 : Int32) (a3 : Int32) (a4 : Int64) (σ : Sto) : Option (Int32 × Sto) :=
  ((f_FR_isSheet a1 σ).bind fun q1 => (if (b2i q1.1) = 0 then some ((-2 : Int32), q1.2)
 else ((f_FR_isAsked a2 a3 a4 q1.2).bind fun q2 => (if (b2i q2.1) = 0 then some ((-2 : Int32), q2.2)
  else (if inb a1 4 = true then ((f_Sheet_isMissing (36 + 2 * Int32.toNatClampNeg a1) q2.2).bind fun q4 => (if (b2i q4.1) = 0 then L_FR_cover_46 LF a2 a3 a4 (36 + 2 * Int32.toNatClampNeg a1) (0 : Int32) (0 : Int32) q4.2
   else some ((-11 : Int32), q4.2))) else none)))))
set_option maxHeartbeats 4000000 in
set_option maxRecDepth 100000 in
theorem vB_FR_cover_0 {X : Xt} {E : En} (g : GG X E 4 b_FR_cover R_FR 13) (a1 : Int32) (a2 : Int32) (a3 : Int32) (a4 : Int64) (σ : Sto) : VV X E b_FR_cover 13 eI 0 [(0, .ref (E.2.1 0)), (1, .int a1), (2, .int a2), (3, .int a3), (4, .long a4)] [] σ (B_FR_cover_0 a1 a2 a3 a4 σ) := by
  unfold B_FR_cover_0
  refine v_iload_n 1 g d_FR_cover_0 rfl ?_
  refine v_callB (r_S (rest := []) [.int a1] g (m1 745 (by decide +kernel) (by decide +kernel)) ys_FR_isSheet (fun r σ1 h => sp_FR_isSheet g.2.2.1  h) rfl rfl (by decide) (Nat.le_of_ble_eq_true rfl) d_FR_cover_1) (fun q1 => ?_)
  refine v_if_eq 18 g d_FR_cover_4 (by decide) (fun _ => ?_) (fun _ => ?_)
  · refine v_bipush (v := (-2 : Int32)) g d_FR_cover_18 (by decide +kernel) ?_
    exact v_ret d_FR_cover_20 rfl
  · refine v_aload_n 0 g d_FR_cover_7 rfl ?_
    refine v_iload_n 2 g d_FR_cover_8 rfl ?_
    refine v_iload_n 3 g d_FR_cover_9 rfl ?_
    refine v_lload 4 g d_FR_cover_10 rfl ?_
    refine v_callB (r_V (rest := []) [.int a2, .int a3, .long a4] g (m1 529 (by decide +kernel) (by decide +kernel)) yv_FR_isAsked rfl (fun r σ1 h => sp_FR_isAsked g.2.2.1  h) rfl rfl (by decide) (Nat.le_of_ble_eq_true rfl) d_FR_cover_12) (fun q2 => ?_)
    refine v_if_ne 21 g d_FR_cover_15 (by decide) (fun _ => ?_) (fun _ => ?_)
    · refine v_aload_n 0 g d_FR_cover_21 rfl ?_
      refine v_getR 34 g ff_FR_67 rfl rfl rfl d_FR_cover_22 ?_
      refine v_iload_n 1 g d_FR_cover_25 rfl ?_
      refine v_aaldS g d_FR_cover_26 (fun h3 => ?_)
      refine v_astore [(6, .ref (E.2.1 (36 + 2 * Int32.toNatClampNeg a1))), (0, .ref (E.2.1 0)), (1, .int a1), (2, .int a2), (3, .int a3), (4, .long a4)] g d_FR_cover_27 (by decide) rfl ?_
      refine v_aload 0 g d_FR_cover_29 rfl ?_
      refine v_callB (r_V (rest := []) [] g (m1 748 (by decide +kernel) (by decide +kernel)) yv_Sheet_isMissing (cls_sh h3) (fun r σ1 h => sp_Sheet_isMissing g.2.2.1 (cls_sh h3) h) rfl rfl (by decide) (Nat.le_of_ble_eq_true rfl) d_FR_cover_31) (fun q4 => ?_)
      refine v_if_eq 40 g d_FR_cover_34 (by decide) (fun _ => ?_) (fun _ => ?_)
      · refine v_iconst (v := (0 : Int32)) g d_FR_cover_40 (by decide +kernel) ?_
        refine v_istore [(7, .int (0 : Int32)), (6, .ref (E.2.1 (36 + 2 * Int32.toNatClampNeg a1))), (0, .ref (E.2.1 0)), (1, .int a1), (2, .int a2), (3, .int a3), (4, .long a4)] g d_FR_cover_41 (by decide) rfl ?_
        refine v_iconst (v := (0 : Int32)) g d_FR_cover_43 (by decide +kernel) ?_
        refine v_istore [(8, .int (0 : Int32)), (7, .int (0 : Int32)), (6, .ref (E.2.1 (36 + 2 * Int32.toNatClampNeg a1))), (0, .ref (E.2.1 0)), (1, .int a1), (2, .int a2), (3, .int a3), (4, .long a4)] g d_FR_cover_44 (by decide) rfl ?_
        exact v_sub [3,5,6,7,2,1,0] rfl (vL_FR_cover_46 g LF a2 a3 a4 (36 + 2 * Int32.toNatClampNeg a1) (0 : Int32) (0 : Int32) (cls_sh h3) q4.2)
      · refine v_bipush (v := (-11 : Int32)) g d_FR_cover_37 (by decide +kernel) ?_
        exact v_ret d_FR_cover_39 rfl
    · refine v_bipush (v := (-2 : Int32)) g d_FR_cover_18 (by decide +kernel) ?_
      exact v_ret d_FR_cover_20 rfl
def f_FR_cover (a1 : Int32) (a2 : Int32) (a3 : Int32) (a4 : Int64) (σ : Sto) : Option (Int32 × Sto) := B_FR_cover_0 a1 a2 a3 a4 σ
theorem sp_FR_cover {l : Launch} {E : En} (hE : Dj E) {a1 : Int32} {a2 : Int32} {a3 : Int32} {a4 : Int64} {σ : Sto} {r : Int32} {σ' : Sto} (h : f_FR_cover a1 a2 a3 a4 σ = some (r, σ')) : Ct l E y_FR_cover (wsM y_FR_cover b_FR_cover 13 (some .int)) 4 [.ref (E.2.1 0), .int a1, .int a2, .int a3, .long a4] σ (eI r) σ' :=
  ct_of hE (by decide +kernel) (Nat.le_of_ble_eq_true rfl) (fun x => Or.inl ⟨rfl, x, rfl⟩) (fun X _ g => vB_FR_cover_0 g a1 a2 a3 a4 σ) r σ' h
/-! method FittingRings.film(IIJ)I -/
theorem yv_FR_film : YV y_FR_film b_FR_film 8 (some .int) 3 9 := ⟨m1 796 (by decide +kernel) (by decide +kernel), m1 797 (by decide +kernel) (by decide +kernel), ini_FR, m1 798 (by decide +kernel) (by decide +kernel), ⟨by decide +kernel, by decide +kernel, by decide +kernel⟩, by decide, by decide, T_FR, 11, rfl⟩
theorem d_FR_film_0 : decode b_FR_film 0 = .ok (.iload_n 1, 1) := by decide +kernel
theorem d_FR_film_1 : decode b_FR_film 1 = .ok (.invokestatic 286, 3) := by decide +kernel
theorem d_FR_film_4 : decode b_FR_film 4 = .ok (.ifCond .eq 12, 3) := by decide +kernel
theorem d_FR_film_7 : decode b_FR_film 7 = .ok (.aload_n 0, 1) := by decide +kernel
theorem d_FR_film_8 : decode b_FR_film 8 = .ok (.iload_n 2, 1) := by decide +kernel
theorem d_FR_film_9 : decode b_FR_film 9 = .ok (.lload_n 3, 1) := by decide +kernel
theorem d_FR_film_10 : decode b_FR_film 10 = .ok (.invokevirtual 156, 3) := by decide +kernel
theorem d_FR_film_13 : decode b_FR_film 13 = .ok (.ifCond .ne 6, 3) := by decide +kernel
theorem d_FR_film_16 : decode b_FR_film 16 = .ok (.bipush (-2), 2) := by decide +kernel
theorem d_FR_film_18 : decode b_FR_film 18 = .ok (.ireturn, 1) := by decide +kernel
theorem d_FR_film_19 : decode b_FR_film 19 = .ok (.aload_n 0, 1) := by decide +kernel
theorem d_FR_film_20 : decode b_FR_film 20 = .ok (.getfield 31, 3) := by decide +kernel
theorem d_FR_film_23 : decode b_FR_film 23 = .ok (.iload_n 2, 1) := by decide +kernel
theorem d_FR_film_24 : decode b_FR_film 24 = .ok (.lload_n 3, 1) := by decide +kernel
theorem d_FR_film_25 : decode b_FR_film 25 = .ok (.invokevirtual 179, 3) := by decide +kernel
theorem d_FR_film_28 : decode b_FR_film 28 = .ok (.astore 5, 2) := by decide +kernel
theorem d_FR_film_30 : decode b_FR_film 30 = .ok (.aload_n 0, 1) := by decide +kernel
theorem d_FR_film_31 : decode b_FR_film 31 = .ok (.getfield 67, 3) := by decide +kernel
theorem d_FR_film_34 : decode b_FR_film 34 = .ok (.iload_n 1, 1) := by decide +kernel
theorem d_FR_film_35 : decode b_FR_film 35 = .ok (.aaload, 1) := by decide +kernel
theorem d_FR_film_36 : decode b_FR_film 36 = .ok (.astore 6, 2) := by decide +kernel
theorem d_FR_film_38 : decode b_FR_film 38 = .ok (.aload 6, 2) := by decide +kernel
theorem d_FR_film_40 : decode b_FR_film 40 = .ok (.iconst 0, 1) := by decide +kernel
theorem d_FR_film_41 : decode b_FR_film 41 = .ok (.aload_n 0, 1) := by decide +kernel
theorem d_FR_film_42 : decode b_FR_film 42 = .ok (.getfield 10, 3) := by decide +kernel
theorem d_FR_film_45 : decode b_FR_film 45 = .ok (.getfield 241, 3) := by decide +kernel
theorem d_FR_film_48 : decode b_FR_film 48 = .ok (.invokevirtual 297, 3) := by decide +kernel
theorem d_FR_film_51 : decode b_FR_film 51 = .ok (.iconst 0, 1) := by decide +kernel
theorem d_FR_film_52 : decode b_FR_film 52 = .ok (.istore 7, 2) := by decide +kernel
theorem d_FR_film_54 : decode b_FR_film 54 = .ok (.iload 7, 2) := by decide +kernel
theorem d_FR_film_56 : decode b_FR_film 56 = .ok (.aload_n 0, 1) := by decide +kernel
theorem d_FR_film_57 : decode b_FR_film 57 = .ok (.getfield 10, 3) := by decide +kernel
theorem d_FR_film_60 : decode b_FR_film 60 = .ok (.getfield 241, 3) := by decide +kernel
theorem d_FR_film_63 : decode b_FR_film 63 = .ok (.if_icmp .ge 24, 3) := by decide +kernel
theorem d_FR_film_66 : decode b_FR_film 66 = .ok (.aload 6, 2) := by decide +kernel
theorem d_FR_film_68 : decode b_FR_film 68 = .ok (.iload 7, 2) := by decide +kernel
theorem d_FR_film_70 : decode b_FR_film 70 = .ok (.aload 5, 2) := by decide +kernel
theorem d_FR_film_72 : decode b_FR_film 72 = .ok (.iload 7, 2) := by decide +kernel
theorem d_FR_film_74 : decode b_FR_film 74 = .ok (.invokevirtual 313, 3) := by decide +kernel
theorem d_FR_film_77 : decode b_FR_film 77 = .ok (.invokevirtual 300, 3) := by decide +kernel
theorem d_FR_film_80 : decode b_FR_film 80 = .ok (.pop, 1) := by decide +kernel
theorem d_FR_film_81 : decode b_FR_film 81 = .ok (.iinc 7 1, 3) := by decide +kernel
theorem d_FR_film_84 : decode b_FR_film 84 = .ok (.goto (-30), 3) := by decide +kernel
theorem d_FR_film_87 : decode b_FR_film 87 = .ok (.aload 5, 2) := by decide +kernel
theorem d_FR_film_89 : decode b_FR_film 89 = .ok (.getfield 182, 3) := by decide +kernel
theorem d_FR_film_92 : decode b_FR_film 92 = .ok (.ireturn, 1) := by decide +kernel
def B_FR_film_54 (k54 : Nat → Int32 → Sto → Option (Int32 × Sto)) (v6 : Nat) (v7 : Int32) (σ : Sto) : Option (Int32 × Sto) :=
  (if (gI σ 1 0) ≤ v7 then some ((gI σ 17 4), σ)
 else ((f_Ranking_groupOf v7 σ).bind fun q6 => ((f_Sheet_put v6 v7 q6.1 q6.2).bind fun q7 => k54 v6 (v7 + (1 : Int32)) q7.2)))
set_option maxHeartbeats 4000000 in
set_option maxRecDepth 100000 in
theorem vB_FR_film_54 {X : Xt} {E : En} (g : GG X E 5 b_FR_film R_FR 8) {k54 : Nat → Int32 → Sto → Option (Int32 × Sto)} (hk54 : ∀ (v6 : Nat) (v7 : Int32) (hv6 : cls v6 = 7) (σ : Sto), VV X E b_FR_film 8 eI 54 [(0, .ref (E.2.1 0)), (5, .ref (E.2.1 17)), (6, .ref (E.2.1 v6)), (7, .int v7)] [] σ (k54 v6 v7 σ)) (v6 : Nat) (v7 : Int32) (hv6 : cls v6 = 7) (σ : Sto) : VV X E b_FR_film 8 eI 54 [(0, .ref (E.2.1 0)), (5, .ref (E.2.1 17)), (6, .ref (E.2.1 v6)), (7, .int v7)] [] σ (B_FR_film_54 k54 v6 v7 σ) := by
  unfold B_FR_film_54
  refine v_iload 3 g d_FR_film_54 rfl ?_
  refine v_aload_n 0 g d_FR_film_56 rfl ?_
  refine v_getR 1 g ff_FR_10 rfl rfl rfl d_FR_film_57 ?_
  refine v_getI g ff_FR_241 rfl rfl d_FR_film_60 ?_
  refine v_icmp_ge 87 g d_FR_film_63 (by decide) (fun _ => ?_) (fun _ => ?_)
  · refine v_aload 1 g d_FR_film_87 rfl ?_
    refine v_getI g ff_FR_182 rfl rfl d_FR_film_89 ?_
    exact v_ret d_FR_film_92 rfl
  · refine v_aload 2 g d_FR_film_66 rfl ?_
    refine v_iload 3 g d_FR_film_68 rfl ?_
    refine v_aload 1 g d_FR_film_70 rfl ?_
    refine v_iload 3 g d_FR_film_72 rfl ?_
    refine v_callI (r_V (rest := [.int v7, .ref (E.2.1 v6)]) [.int v7] g (m1 799 (by decide +kernel) (by decide +kernel)) yv_Ranking_groupOf rfl (fun r σ1 h => sp_Ranking_groupOf g.2.2.1  h) rfl rfl (by decide) (Nat.le_of_ble_eq_true rfl) d_FR_film_74) (fun q6 => ?_)
    refine v_callI (r_V (rest := []) [.int v7, .int q6.1] g (m1 779 (by decide +kernel) (by decide +kernel)) yv_Sheet_put hv6 (fun r σ1 h => sp_Sheet_put g.2.2.1 hv6 h) rfl rfl (by decide) (Nat.le_of_ble_eq_true rfl) d_FR_film_77) (fun q7 => ?_)
    refine v_pop g d_FR_film_80 rfl ?_
    refine v_iinc 3 [(7, .int (v7 + (1 : Int32))), (0, .ref (E.2.1 0)), (5, .ref (E.2.1 17)), (6, .ref (E.2.1 v6))] g d_FR_film_81 rfl (v := (1 : Int32)) (by decide +kernel) (by decide) rfl ?_
    refine v_goto 54 g d_FR_film_84 (by decide) ?_
    exact v_sub [1,2,3,0] rfl (hk54 v6 (v7 + (1 : Int32)) hv6 q7.2)
def L_FR_film_54 : Nat → Nat → Int32 → Sto → Option (Int32 × Sto)
  | 0, _, _, _ => none
  | fu + 1, v6, v7, σ => B_FR_film_54 (L_FR_film_54 fu) v6 v7 σ
theorem vL_FR_film_54 {X : Xt} {E : En} (g : GG X E 5 b_FR_film R_FR 8) (fu : Nat) : ∀ (v6 : Nat) (v7 : Int32) (hv6 : cls v6 = 7) (σ : Sto), VV X E b_FR_film 8 eI 54 [(0, .ref (E.2.1 0)), (5, .ref (E.2.1 17)), (6, .ref (E.2.1 v6)), (7, .int v7)] [] σ (L_FR_film_54 fu v6 v7 σ) := by
  induction fu with
  | zero => intros; exact v_none
  | succ fu ih =>
    intro v6 v7 hv6 σ
    exact vB_FR_film_54 g ih v6 v7 hv6 σ
def B_FR_film_0 (a1 : Int32) (a2 : Int32) (a3 : Int64) (σ : Sto) : Option (Int32 × Sto) :=
  ((f_FR_isSheet a1 σ).bind fun q1 => (if (b2i q1.1) = 0 then some ((-2 : Int32), q1.2)
 else ((f_FR_isSideAndSet a2 a3 q1.2).bind fun q2 => (if (b2i q2.1) = 0 then some ((-2 : Int32), q2.2)
  else ((f_Judge_grouped a2 a3 q2.2).bind fun q3 => (if inb a1 4 = true then ((f_Sheet_remake (36 + 2 * Int32.toNatClampNeg a1) (0 : Int32) (gI q3.2 1 0) q3.2).bind fun q5 => L_FR_film_54 LF (36 + 2 * Int32.toNatClampNeg a1) (0 : Int32) q5.2) else none))))))
set_option maxHeartbeats 4000000 in
set_option maxRecDepth 100000 in
theorem vB_FR_film_0 {X : Xt} {E : En} (g : GG X E 5 b_FR_film R_FR 8) (a1 : Int32) (a2 : Int32) (a3 : Int64) (σ : Sto) : VV X E b_FR_film 8 eI 0 [(0, .ref (E.2.1 0)), (1, .int a1), (2, .int a2), (3, .long a3)] [] σ (B_FR_film_0 a1 a2 a3 σ) := by
  unfold B_FR_film_0
  refine v_iload_n 1 g d_FR_film_0 rfl ?_
  refine v_callB (r_S (rest := []) [.int a1] g (m1 745 (by decide +kernel) (by decide +kernel)) ys_FR_isSheet (fun r σ1 h => sp_FR_isSheet g.2.2.1  h) rfl rfl (by decide) (Nat.le_of_ble_eq_true rfl) d_FR_film_1) (fun q1 => ?_)
  refine v_if_eq 16 g d_FR_film_4 (by decide) (fun _ => ?_) (fun _ => ?_)
  · refine v_bipush (v := (-2 : Int32)) g d_FR_film_16 (by decide +kernel) ?_
    exact v_ret d_FR_film_18 rfl
  · refine v_aload_n 0 g d_FR_film_7 rfl ?_
    refine v_iload_n 2 g d_FR_film_8 rfl ?_
    refine v_lload_n 3 g d_FR_film_9 rfl ?_
    refine v_callB (r_V (rest := []) [.int a2, .long a3] g (m1 473 (by decide +kernel) (by decide +kernel)) yv_FR_isSideAndSet rfl (fun r σ1 h => sp_FR_isSideAndSet g.2.2.1  h) rfl rfl (by decide) (Nat.le_of_ble_eq_true rfl) d_FR_film_10) (fun q2 => ?_)
    refine v_if_ne 19 g d_FR_film_13 (by decide) (fun _ => ?_) (fun _ => ?_)
    · refine v_aload_n 0 g d_FR_film_19 rfl ?_
      refine v_getR 16 g ff_FR_31 rfl rfl rfl d_FR_film_20 ?_
      refine v_iload_n 2 g d_FR_film_23 rfl ?_
      refine v_lload_n 3 g d_FR_film_24 rfl ?_
      refine v_callC (r_V (rest := []) [.int a2, .long a3] g (m1 508 (by decide +kernel) (by decide +kernel)) yv_Judge_grouped rfl (fun r σ1 h => sp_Judge_grouped g.2.2.1  h) rfl rfl (by decide) (Nat.le_of_ble_eq_true rfl) d_FR_film_25) (fun q3 => ?_)
      refine v_astore [(5, .ref (E.2.1 17)), (0, .ref (E.2.1 0)), (1, .int a1), (2, .int a2), (3, .long a3)] g d_FR_film_28 (by decide) rfl ?_
      refine v_aload_n 1 g d_FR_film_30 rfl ?_
      refine v_getR 34 g ff_FR_67 rfl rfl rfl d_FR_film_31 ?_
      refine v_iload_n 2 g d_FR_film_34 rfl ?_
      refine v_aaldS g d_FR_film_35 (fun h4 => ?_)
      refine v_astore [(6, .ref (E.2.1 (36 + 2 * Int32.toNatClampNeg a1))), (5, .ref (E.2.1 17)), (0, .ref (E.2.1 0)), (1, .int a1), (2, .int a2), (3, .long a3)] g d_FR_film_36 (by decide) rfl ?_
      refine v_aload 0 g d_FR_film_38 rfl ?_
      refine v_iconst (v := (0 : Int32)) g d_FR_film_40 (by decide +kernel) ?_
      refine v_aload_n 2 g d_FR_film_41 rfl ?_
      refine v_getR 1 g ff_FR_10 rfl rfl rfl d_FR_film_42 ?_
      refine v_getI g ff_FR_241 rfl rfl d_FR_film_45 ?_
      refine v_callU (r_V (rest := []) [.int (0 : Int32), .int (gI q3.2 1 0)] g (m1 770 (by decide +kernel) (by decide +kernel)) yv_Sheet_remake (cls_sh h4) (fun r σ1 h => sp_Sheet_remake g.2.2.1 (cls_sh h4) h) rfl rfl (by decide) (Nat.le_of_ble_eq_true rfl) d_FR_film_48) (fun q5 => ?_)
      refine v_iconst (v := (0 : Int32)) g d_FR_film_51 (by decide +kernel) ?_
      refine v_istore [(7, .int (0 : Int32)), (6, .ref (E.2.1 (36 + 2 * Int32.toNatClampNeg a1))), (5, .ref (E.2.1 17)), (0, .ref (E.2.1 0)), (1, .int a1), (2, .int a2), (3, .long a3)] g d_FR_film_52 (by decide) rfl ?_
      exact v_sub [3,2,1,0] rfl (vL_FR_film_54 g LF (36 + 2 * Int32.toNatClampNeg a1) (0 : Int32) (cls_sh h4) q5.2)
    · refine v_bipush (v := (-2 : Int32)) g d_FR_film_16 (by decide +kernel) ?_
      exact v_ret d_FR_film_18 rfl
def f_FR_film (a1 : Int32) (a2 : Int32) (a3 : Int64) (σ : Sto) : Option (Int32 × Sto) := B_FR_film_0 a1 a2 a3 σ
theorem sp_FR_film {l : Launch} {E : En} (hE : Dj E) {a1 : Int32} {a2 : Int32} {a3 : Int64} {σ : Sto} {r : Int32} {σ' : Sto} (h : f_FR_film a1 a2 a3 σ = some (r, σ')) : Ct l E y_FR_film (wsM y_FR_film b_FR_film 8 (some .int)) 5 [.ref (E.2.1 0), .int a1, .int a2, .long a3] σ (eI r) σ' :=
  ct_of hE (by decide +kernel) (Nat.le_of_ble_eq_true rfl) (fun x => Or.inl ⟨rfl, x, rfl⟩) (fun X _ g => vB_FR_film_0 g a1 a2 a3 σ) r σ' h
/-! method FittingRings.turnThatMends(LFittingRings$Sheet;IJ)I -/
theorem yv_FR_turnThatMends : YV y_FR_turnThatMends b_FR_turnThatMends 9 (some .int) 3 9 := ⟨m1 813 (by decide +kernel) (by decide +kernel), m1 15 (by decide +kernel) (by decide +kernel), ini_FR, m1 814 (by decide +kernel) (by decide +kernel), ⟨by decide +kernel, by decide +kernel, by decide +kernel⟩, by decide, by decide, T_FR, 11, rfl⟩
theorem d_FR_turnThatMends_0 : decode b_FR_turnThatMends 0 = .ok (.lload_n 3, 1) := by decide +kernel
theorem d_FR_turnThatMends_1 : decode b_FR_turnThatMends 1 = .ok (.invokestatic 108, 3) := by decide +kernel
theorem d_FR_turnThatMends_4 : decode b_FR_turnThatMends 4 = .ok (.iconst 2, 1) := by decide +kernel
theorem d_FR_turnThatMends_5 : decode b_FR_turnThatMends 5 = .ok (.if_icmp .eq 6, 3) := by decide +kernel
theorem d_FR_turnThatMends_8 : decode b_FR_turnThatMends 8 = .ok (.bipush (-3), 2) := by decide +kernel
theorem d_FR_turnThatMends_10 : decode b_FR_turnThatMends 10 = .ok (.ireturn, 1) := by decide +kernel
theorem d_FR_turnThatMends_11 : decode b_FR_turnThatMends 11 = .ok (.lload_n 3, 1) := by decide +kernel
theorem d_FR_turnThatMends_12 : decode b_FR_turnThatMends 12 = .ok (.invokestatic 324, 3) := by decide +kernel
theorem d_FR_turnThatMends_15 : decode b_FR_turnThatMends 15 = .ok (.istore 5, 2) := by decide +kernel
theorem d_FR_turnThatMends_17 : decode b_FR_turnThatMends 17 = .ok (.lload_n 3, 1) := by decide +kernel
theorem d_FR_turnThatMends_18 : decode b_FR_turnThatMends 18 = .ok (.lload_n 3, 1) := by decide +kernel
theorem d_FR_turnThatMends_19 : decode b_FR_turnThatMends 19 = .ok (.lconst 1, 1) := by decide +kernel
theorem d_FR_turnThatMends_20 : decode b_FR_turnThatMends 20 = .ok (.lsub, 1) := by decide +kernel
theorem d_FR_turnThatMends_21 : decode b_FR_turnThatMends 21 = .ok (.land, 1) := by decide +kernel
theorem d_FR_turnThatMends_22 : decode b_FR_turnThatMends 22 = .ok (.invokestatic 324, 3) := by decide +kernel
theorem d_FR_turnThatMends_25 : decode b_FR_turnThatMends 25 = .ok (.istore 6, 2) := by decide +kernel
theorem d_FR_turnThatMends_27 : decode b_FR_turnThatMends 27 = .ok (.aload_n 0, 1) := by decide +kernel
theorem d_FR_turnThatMends_28 : decode b_FR_turnThatMends 28 = .ok (.getfield 10, 3) := by decide +kernel
theorem d_FR_turnThatMends_31 : decode b_FR_turnThatMends 31 = .ok (.iload_n 2, 1) := by decide +kernel
theorem d_FR_turnThatMends_32 : decode b_FR_turnThatMends 32 = .ok (.iload 5, 2) := by decide +kernel
theorem d_FR_turnThatMends_34 : decode b_FR_turnThatMends 34 = .ok (.lconst 1, 1) := by decide +kernel
theorem d_FR_turnThatMends_35 : decode b_FR_turnThatMends 35 = .ok (.iload 6, 2) := by decide +kernel
theorem d_FR_turnThatMends_37 : decode b_FR_turnThatMends 37 = .ok (.lshl, 1) := by decide +kernel
theorem d_FR_turnThatMends_38 : decode b_FR_turnThatMends 38 = .ok (.invokevirtual 148, 3) := by decide +kernel
theorem d_FR_turnThatMends_41 : decode b_FR_turnThatMends 41 = .ok (.lconst 0, 1) := by decide +kernel
theorem d_FR_turnThatMends_42 : decode b_FR_turnThatMends 42 = .ok (.lcmp, 1) := by decide +kernel
theorem d_FR_turnThatMends_43 : decode b_FR_turnThatMends 43 = .ok (.ifCond .eq 7, 3) := by decide +kernel
theorem d_FR_turnThatMends_46 : decode b_FR_turnThatMends 46 = .ok (.iconst (-1), 1) := by decide +kernel
theorem d_FR_turnThatMends_47 : decode b_FR_turnThatMends 47 = .ok (.goto 4, 3) := by decide +kernel
theorem d_FR_turnThatMends_50 : decode b_FR_turnThatMends 50 = .ok (.iconst 1, 1) := by decide +kernel
theorem d_FR_turnThatMends_51 : decode b_FR_turnThatMends 51 = .ok (.istore 7, 2) := by decide +kernel
theorem d_FR_turnThatMends_53 : decode b_FR_turnThatMends 53 = .ok (.aload_n 1, 1) := by decide +kernel
theorem d_FR_turnThatMends_54 : decode b_FR_turnThatMends 54 = .ok (.iload 5, 2) := by decide +kernel
theorem d_FR_turnThatMends_56 : decode b_FR_turnThatMends 56 = .ok (.invokevirtual 307, 3) := by decide +kernel
theorem d_FR_turnThatMends_59 : decode b_FR_turnThatMends 59 = .ok (.aload_n 0, 1) := by decide +kernel
theorem d_FR_turnThatMends_60 : decode b_FR_turnThatMends 60 = .ok (.getfield 10, 3) := by decide +kernel
theorem d_FR_turnThatMends_63 : decode b_FR_turnThatMends 63 = .ok (.iload_n 2, 1) := by decide +kernel
theorem d_FR_turnThatMends_64 : decode b_FR_turnThatMends 64 = .ok (.iload 5, 2) := by decide +kernel
theorem d_FR_turnThatMends_66 : decode b_FR_turnThatMends 66 = .ok (.invokevirtual 317, 3) := by decide +kernel
theorem d_FR_turnThatMends_69 : decode b_FR_turnThatMends 69 = .ok (.iload 7, 2) := by decide +kernel
theorem d_FR_turnThatMends_71 : decode b_FR_turnThatMends 71 = .ok (.iadd, 1) := by decide +kernel
theorem d_FR_turnThatMends_72 : decode b_FR_turnThatMends 72 = .ok (.if_icmp .ne 29, 3) := by decide +kernel
theorem d_FR_turnThatMends_75 : decode b_FR_turnThatMends 75 = .ok (.aload_n 1, 1) := by decide +kernel
theorem d_FR_turnThatMends_76 : decode b_FR_turnThatMends 76 = .ok (.iload 6, 2) := by decide +kernel
theorem d_FR_turnThatMends_78 : decode b_FR_turnThatMends 78 = .ok (.invokevirtual 307, 3) := by decide +kernel
theorem d_FR_turnThatMends_81 : decode b_FR_turnThatMends 81 = .ok (.aload_n 0, 1) := by decide +kernel
theorem d_FR_turnThatMends_82 : decode b_FR_turnThatMends 82 = .ok (.getfield 10, 3) := by decide +kernel
theorem d_FR_turnThatMends_85 : decode b_FR_turnThatMends 85 = .ok (.iload_n 2, 1) := by decide +kernel
theorem d_FR_turnThatMends_86 : decode b_FR_turnThatMends 86 = .ok (.iload 6, 2) := by decide +kernel
theorem d_FR_turnThatMends_88 : decode b_FR_turnThatMends 88 = .ok (.invokevirtual 317, 3) := by decide +kernel
theorem d_FR_turnThatMends_91 : decode b_FR_turnThatMends 91 = .ok (.iload 7, 2) := by decide +kernel
theorem d_FR_turnThatMends_93 : decode b_FR_turnThatMends 93 = .ok (.iadd, 1) := by decide +kernel
theorem d_FR_turnThatMends_94 : decode b_FR_turnThatMends 94 = .ok (.if_icmp .ne 7, 3) := by decide +kernel
theorem d_FR_turnThatMends_97 : decode b_FR_turnThatMends 97 = .ok (.iconst 1, 1) := by decide +kernel
theorem d_FR_turnThatMends_98 : decode b_FR_turnThatMends 98 = .ok (.goto 4, 3) := by decide +kernel
theorem d_FR_turnThatMends_101 : decode b_FR_turnThatMends 101 = .ok (.iconst 0, 1) := by decide +kernel
theorem d_FR_turnThatMends_102 : decode b_FR_turnThatMends 102 = .ok (.istore 8, 2) := by decide +kernel
theorem d_FR_turnThatMends_104 : decode b_FR_turnThatMends 104 = .ok (.iload 8, 2) := by decide +kernel
theorem d_FR_turnThatMends_106 : decode b_FR_turnThatMends 106 = .ok (.ifCond .eq 13, 3) := by decide +kernel
theorem d_FR_turnThatMends_109 : decode b_FR_turnThatMends 109 = .ok (.iload 5, 2) := by decide +kernel
theorem d_FR_turnThatMends_111 : decode b_FR_turnThatMends 111 = .ok (.iload 6, 2) := by decide +kernel
theorem d_FR_turnThatMends_113 : decode b_FR_turnThatMends 113 = .ok (.invokestatic 256, 3) := by decide +kernel
theorem d_FR_turnThatMends_116 : decode b_FR_turnThatMends 116 = .ok (.goto 5, 3) := by decide +kernel
theorem d_FR_turnThatMends_119 : decode b_FR_turnThatMends 119 = .ok (.bipush (-3), 2) := by decide +kernel
theorem d_FR_turnThatMends_121 : decode b_FR_turnThatMends 121 = .ok (.ireturn, 1) := by decide +kernel
def B_FR_turnThatMends_51 (v1 : Nat) (v2 : Int32) (v5 : Int32) (v6 : Int32) (s0 : Int32) (σ : Sto) : Option (Int32 × Sto) :=
  ((f_Sheet_at v1 v5 σ).bind fun q5 => ((f_Net_fits 1 v2 v5 q5.2).bind fun q6 => (if q5.1 = (q6.1 + s0) then ((f_Sheet_at v1 v6 q6.2).bind fun q8 => ((f_Net_fits 1 v2 v6 q8.2).bind fun q9 => (if q8.1 = (q9.1 + s0) then (if (1 : Int32) = 0 then some ((-3 : Int32), q9.2)
   else ((f_FR_pairOf v5 v6 q9.2).bind fun q11 => some (q11.1, q11.2)))
  else (if (0 : Int32) = 0 then some ((-3 : Int32), q9.2)
   else ((f_FR_pairOf v5 v6 q9.2).bind fun q10 => some (q10.1, q10.2))))))
 else (if (0 : Int32) = 0 then some ((-3 : Int32), q6.2)
  else ((f_FR_pairOf v5 v6 q6.2).bind fun q7 => some (q7.1, q7.2))))))
set_option maxHeartbeats 4000000 in
set_option maxRecDepth 100000 in
theorem vB_FR_turnThatMends_51 {X : Xt} {E : En} (g : GG X E 4 b_FR_turnThatMends R_FR 9) (v1 : Nat) (v2 : Int32) (v5 : Int32) (v6 : Int32) (s0 : Int32) (hv1 : cls v1 = 7) (σ : Sto) : VV X E b_FR_turnThatMends 9 eI 51 [(0, .ref (E.2.1 0)), (1, .ref (E.2.1 v1)), (2, .int v2), (5, .int v5), (6, .int v6)] [.int s0] σ (B_FR_turnThatMends_51 v1 v2 v5 v6 s0 σ) := by
  unfold B_FR_turnThatMends_51
  refine v_istore [(7, .int s0), (0, .ref (E.2.1 0)), (1, .ref (E.2.1 v1)), (2, .int v2), (5, .int v5), (6, .int v6)] g d_FR_turnThatMends_51 (by decide) rfl ?_
  refine v_aload_n 2 g d_FR_turnThatMends_53 rfl ?_
  refine v_iload 4 g d_FR_turnThatMends_54 rfl ?_
  refine v_callI (r_V (rest := []) [.int v5] g (m1 793 (by decide +kernel) (by decide +kernel)) yv_Sheet_at hv1 (fun r σ1 h => sp_Sheet_at g.2.2.1 hv1 h) rfl rfl (by decide) (Nat.le_of_ble_eq_true rfl) d_FR_turnThatMends_56) (fun q5 => ?_)
  refine v_aload_n 1 g d_FR_turnThatMends_59 rfl ?_
  refine v_getR 1 g ff_FR_10 rfl rfl rfl d_FR_turnThatMends_60 ?_
  refine v_iload_n 3 g d_FR_turnThatMends_63 rfl ?_
  refine v_iload 4 g d_FR_turnThatMends_64 rfl ?_
  refine v_callI (r_V (rest := [.int q5.1]) [.int v2, .int v5] g (m1 807 (by decide +kernel) (by decide +kernel)) yv_Net_fits rfl (fun r σ1 h => sp_Net_fits g.2.2.1 rfl h) rfl rfl (by decide) (Nat.le_of_ble_eq_true rfl) d_FR_turnThatMends_66) (fun q6 => ?_)
  refine v_iload 0 g d_FR_turnThatMends_69 rfl ?_
  refine v_iadd g d_FR_turnThatMends_71 ?_
  refine v_icmp_ne 101 g d_FR_turnThatMends_72 (by decide) (fun _ => ?_) (fun _ => ?_)
  · refine v_iconst (v := (0 : Int32)) g d_FR_turnThatMends_101 (by decide +kernel) ?_
    refine v_istore [(8, .int (0 : Int32)), (7, .int s0), (0, .ref (E.2.1 0)), (1, .ref (E.2.1 v1)), (2, .int v2), (5, .int v5), (6, .int v6)] g d_FR_turnThatMends_102 (by decide) rfl ?_
    refine v_iload 0 g d_FR_turnThatMends_104 rfl ?_
    refine v_if_eq 119 g d_FR_turnThatMends_106 (by decide) (fun _ => ?_) (fun _ => ?_)
    · refine v_bipush (v := (-3 : Int32)) g d_FR_turnThatMends_119 (by decide +kernel) ?_
      exact v_ret d_FR_turnThatMends_121 rfl
    · refine v_iload 5 g d_FR_turnThatMends_109 rfl ?_
      refine v_iload 6 g d_FR_turnThatMends_111 rfl ?_
      refine v_callI (r_S (rest := []) [.int v5, .int v6] g (m1 667 (by decide +kernel) (by decide +kernel)) ys_FR_pairOf (fun r σ1 h => sp_FR_pairOf g.2.2.1  h) rfl rfl (by decide) (Nat.le_of_ble_eq_true rfl) d_FR_turnThatMends_113) (fun q7 => ?_)
      refine v_goto 121 g d_FR_turnThatMends_116 (by decide) ?_
      exact v_ret d_FR_turnThatMends_121 rfl
  · refine v_aload_n 2 g d_FR_turnThatMends_75 rfl ?_
    refine v_iload 5 g d_FR_turnThatMends_76 rfl ?_
    refine v_callI (r_V (rest := []) [.int v6] g (m1 793 (by decide +kernel) (by decide +kernel)) yv_Sheet_at hv1 (fun r σ1 h => sp_Sheet_at g.2.2.1 hv1 h) rfl rfl (by decide) (Nat.le_of_ble_eq_true rfl) d_FR_turnThatMends_78) (fun q8 => ?_)
    refine v_aload_n 1 g d_FR_turnThatMends_81 rfl ?_
    refine v_getR 1 g ff_FR_10 rfl rfl rfl d_FR_turnThatMends_82 ?_
    refine v_iload_n 3 g d_FR_turnThatMends_85 rfl ?_
    refine v_iload 5 g d_FR_turnThatMends_86 rfl ?_
    refine v_callI (r_V (rest := [.int q8.1]) [.int v2, .int v6] g (m1 807 (by decide +kernel) (by decide +kernel)) yv_Net_fits rfl (fun r σ1 h => sp_Net_fits g.2.2.1 rfl h) rfl rfl (by decide) (Nat.le_of_ble_eq_true rfl) d_FR_turnThatMends_88) (fun q9 => ?_)
    refine v_iload 0 g d_FR_turnThatMends_91 rfl ?_
    refine v_iadd g d_FR_turnThatMends_93 ?_
    refine v_icmp_ne 101 g d_FR_turnThatMends_94 (by decide) (fun _ => ?_) (fun _ => ?_)
    · refine v_iconst (v := (0 : Int32)) g d_FR_turnThatMends_101 (by decide +kernel) ?_
      refine v_istore [(8, .int (0 : Int32)), (7, .int s0), (0, .ref (E.2.1 0)), (1, .ref (E.2.1 v1)), (2, .int v2), (5, .int v5), (6, .int v6)] g d_FR_turnThatMends_102 (by decide) rfl ?_
      refine v_iload 0 g d_FR_turnThatMends_104 rfl ?_
      refine v_if_eq 119 g d_FR_turnThatMends_106 (by decide) (fun _ => ?_) (fun _ => ?_)
      · refine v_bipush (v := (-3 : Int32)) g d_FR_turnThatMends_119 (by decide +kernel) ?_
        exact v_ret d_FR_turnThatMends_121 rfl
      · refine v_iload 5 g d_FR_turnThatMends_109 rfl ?_
        refine v_iload 6 g d_FR_turnThatMends_111 rfl ?_
        refine v_callI (r_S (rest := []) [.int v5, .int v6] g (m1 667 (by decide +kernel) (by decide +kernel)) ys_FR_pairOf (fun r σ1 h => sp_FR_pairOf g.2.2.1  h) rfl rfl (by decide) (Nat.le_of_ble_eq_true rfl) d_FR_turnThatMends_113) (fun q10 => ?_)
        refine v_goto 121 g d_FR_turnThatMends_116 (by decide) ?_
        exact v_ret d_FR_turnThatMends_121 rfl
    · refine v_iconst (v := (1 : Int32)) g d_FR_turnThatMends_97 (by decide +kernel) ?_
      refine v_goto 102 g d_FR_turnThatMends_98 (by decide) ?_
      refine v_istore [(8, .int (1 : Int32)), (7, .int s0), (0, .ref (E.2.1 0)), (1, .ref (E.2.1 v1)), (2, .int v2), (5, .int v5), (6, .int v6)] g d_FR_turnThatMends_102 (by decide) rfl ?_
      refine v_iload 0 g d_FR_turnThatMends_104 rfl ?_
      refine v_if_eq 119 g d_FR_turnThatMends_106 (by decide) (fun _ => ?_) (fun _ => ?_)
      · refine v_bipush (v := (-3 : Int32)) g d_FR_turnThatMends_119 (by decide +kernel) ?_
        exact v_ret d_FR_turnThatMends_121 rfl
      · refine v_iload 5 g d_FR_turnThatMends_109 rfl ?_
        refine v_iload 6 g d_FR_turnThatMends_111 rfl ?_
        refine v_callI (r_S (rest := []) [.int v5, .int v6] g (m1 667 (by decide +kernel) (by decide +kernel)) ys_FR_pairOf (fun r σ1 h => sp_FR_pairOf g.2.2.1  h) rfl rfl (by decide) (Nat.le_of_ble_eq_true rfl) d_FR_turnThatMends_113) (fun q11 => ?_)
        refine v_goto 121 g d_FR_turnThatMends_116 (by decide) ?_
        exact v_ret d_FR_turnThatMends_121 rfl
def B_FR_turnThatMends_0 (a1 : Nat) (a2 : Int32) (a3 : Int64) (σ : Sto) : Option (Int32 × Sto) :=
  ((f_JLong_bitCount a3 σ).bind fun q1 => (if q1.1 = (2 : Int32) then ((f_FR_leastOf a3 q1.2).bind fun q2 => ((f_FR_leastOf (a3 &&& (a3 - (1 : Int64))) q2.2).bind fun q3 => ((f_Net_fitting 1 a2 q2.1 (lsh (1 : Int64) q3.1) q3.2).bind fun q4 => (if q4.1 = (0 : Int64) then B_FR_turnThatMends_51 a1 a2 q2.1 q3.1 (1 : Int32) q4.2
  else B_FR_turnThatMends_51 a1 a2 q2.1 q3.1 (-1 : Int32) q4.2))))
 else some ((-3 : Int32), q1.2)))
set_option maxHeartbeats 4000000 in
set_option maxRecDepth 100000 in
theorem vB_FR_turnThatMends_0 {X : Xt} {E : En} (g : GG X E 4 b_FR_turnThatMends R_FR 9) (a1 : Nat) (a2 : Int32) (a3 : Int64) (ha1 : cls a1 = 7) (σ : Sto) : VV X E b_FR_turnThatMends 9 eI 0 [(0, .ref (E.2.1 0)), (1, .ref (E.2.1 a1)), (2, .int a2), (3, .long a3)] [] σ (B_FR_turnThatMends_0 a1 a2 a3 σ) := by
  unfold B_FR_turnThatMends_0
  refine v_lload_n 3 g d_FR_turnThatMends_0 rfl ?_
  refine v_callI (r_S (rest := []) [.long a3] g (m1 400 (by decide +kernel) (by decide +kernel)) ys_JLong_bitCount (fun r σ1 h => sp_JLong_bitCount g.2.2.1  h) rfl rfl (by decide) (Nat.le_of_ble_eq_true rfl) d_FR_turnThatMends_1) (fun q1 => ?_)
  refine v_iconst (v := (2 : Int32)) g d_FR_turnThatMends_4 (by decide +kernel) ?_
  refine v_icmp_eq 11 g d_FR_turnThatMends_5 (by decide) (fun _ => ?_) (fun _ => ?_)
  · refine v_lload_n 3 g d_FR_turnThatMends_11 rfl ?_
    refine v_callI (r_S (rest := []) [.long a3] g (m1 815 (by decide +kernel) (by decide +kernel)) ys_FR_leastOf (fun r σ1 h => sp_FR_leastOf g.2.2.1  h) rfl rfl (by decide) (Nat.le_of_ble_eq_true rfl) d_FR_turnThatMends_12) (fun q2 => ?_)
    refine v_istore [(5, .int q2.1), (0, .ref (E.2.1 0)), (1, .ref (E.2.1 a1)), (2, .int a2), (3, .long a3)] g d_FR_turnThatMends_15 (by decide) rfl ?_
    refine v_lload_n 4 g d_FR_turnThatMends_17 rfl ?_
    refine v_lload_n 4 g d_FR_turnThatMends_18 rfl ?_
    refine v_lconst (v := (1 : Int64)) g d_FR_turnThatMends_19 (by decide +kernel) ?_
    refine v_lsub g d_FR_turnThatMends_20 ?_
    refine v_land g d_FR_turnThatMends_21 ?_
    refine v_callI (r_S (rest := []) [.long (a3 &&& (a3 - (1 : Int64)))] g (m1 815 (by decide +kernel) (by decide +kernel)) ys_FR_leastOf (fun r σ1 h => sp_FR_leastOf g.2.2.1  h) rfl rfl (by decide) (Nat.le_of_ble_eq_true rfl) d_FR_turnThatMends_22) (fun q3 => ?_)
    refine v_istore [(6, .int q3.1), (5, .int q2.1), (0, .ref (E.2.1 0)), (1, .ref (E.2.1 a1)), (2, .int a2), (3, .long a3)] g d_FR_turnThatMends_25 (by decide) rfl ?_
    refine v_aload_n 2 g d_FR_turnThatMends_27 rfl ?_
    refine v_getR 1 g ff_FR_10 rfl rfl rfl d_FR_turnThatMends_28 ?_
    refine v_iload_n 4 g d_FR_turnThatMends_31 rfl ?_
    refine v_iload 1 g d_FR_turnThatMends_32 rfl ?_
    refine v_lconst (v := (1 : Int64)) g d_FR_turnThatMends_34 (by decide +kernel) ?_
    refine v_iload 0 g d_FR_turnThatMends_35 rfl ?_
    refine v_lshl g d_FR_turnThatMends_37 ?_
    refine v_callL (r_V (rest := []) [.int a2, .int q2.1, .long (lsh (1 : Int64) q3.1)] g (m1 457 (by decide +kernel) (by decide +kernel)) yv_Net_fitting rfl (fun r σ1 h => sp_Net_fitting g.2.2.1 rfl h) rfl rfl (by decide) (Nat.le_of_ble_eq_true rfl) d_FR_turnThatMends_38) (fun q4 => ?_)
    refine v_lconst (v := (0 : Int64)) g d_FR_turnThatMends_41 (by decide +kernel) ?_
    refine v_lcmp_eq 50 g d_FR_turnThatMends_42 d_FR_turnThatMends_43 (by decide) (fun _ => ?_) (fun _ => ?_)
    · refine v_iconst (v := (1 : Int32)) g d_FR_turnThatMends_50 (by decide +kernel) ?_
      exact v_sub [2,3,4,1,0] rfl (vB_FR_turnThatMends_51 g a1 a2 q2.1 q3.1 (1 : Int32) ha1 q4.2)
    · refine v_iconst (v := (-1 : Int32)) g d_FR_turnThatMends_46 (by decide +kernel) ?_
      refine v_goto 51 g d_FR_turnThatMends_47 (by decide) ?_
      exact v_sub [2,3,4,1,0] rfl (vB_FR_turnThatMends_51 g a1 a2 q2.1 q3.1 (-1 : Int32) ha1 q4.2)
  · refine v_bipush (v := (-3 : Int32)) g d_FR_turnThatMends_8 (by decide +kernel) ?_
    exact v_ret d_FR_turnThatMends_10 rfl
def f_FR_turnThatMends (a1 : Nat) (a2 : Int32) (a3 : Int64) (σ : Sto) : Option (Int32 × Sto) := B_FR_turnThatMends_0 a1 a2 a3 σ
theorem sp_FR_turnThatMends {l : Launch} {E : En} (hE : Dj E) {a1 : Nat} {a2 : Int32} {a3 : Int64} (ha1 : cls a1 = 7) {σ : Sto} {r : Int32} {σ' : Sto} (h : f_FR_turnThatMends a1 a2 a3 σ = some (r, σ')) : Ct l E y_FR_turnThatMends (wsM y_FR_turnThatMends b_FR_turnThatMends 9 (some .int)) 4 [.ref (E.2.1 0), .ref (E.2.1 a1), .int a2, .long a3] σ (eI r) σ' :=
  ct_of hE (by decide +kernel) (Nat.le_of_ble_eq_true rfl) (fun x => Or.inl ⟨rfl, x, rfl⟩) (fun X _ g => vB_FR_turnThatMends_0 g a1 a2 a3 ha1 σ) r σ' h
/-! method FittingRings.slip(II)I -/
theorem yv_FR_slip : YV y_FR_slip b_FR_slip 7 (some .int) 2 9 := ⟨m1 804 (by decide +kernel) (by decide +kernel), m1 805 (by decide +kernel) (by decide +kernel), ini_FR, m1 806 (by decide +kernel) (by decide +kernel), ⟨by decide +kernel, by decide +kernel, by decide +kernel⟩, by decide, by decide, T_FR, 11, rfl⟩
theorem d_FR_slip_0 : decode b_FR_slip 0 = .ok (.iload_n 1, 1) := by decide +kernel
theorem d_FR_slip_1 : decode b_FR_slip 1 = .ok (.invokestatic 286, 3) := by decide +kernel
theorem d_FR_slip_4 : decode b_FR_slip 4 = .ok (.ifCond .eq 10, 3) := by decide +kernel
theorem d_FR_slip_7 : decode b_FR_slip 7 = .ok (.iload_n 2, 1) := by decide +kernel
theorem d_FR_slip_8 : decode b_FR_slip 8 = .ok (.invokestatic 118, 3) := by decide +kernel
theorem d_FR_slip_11 : decode b_FR_slip 11 = .ok (.ifCond .ne 6, 3) := by decide +kernel
theorem d_FR_slip_14 : decode b_FR_slip 14 = .ok (.bipush (-2), 2) := by decide +kernel
theorem d_FR_slip_16 : decode b_FR_slip 16 = .ok (.ireturn, 1) := by decide +kernel
theorem d_FR_slip_17 : decode b_FR_slip 17 = .ok (.aload_n 0, 1) := by decide +kernel
theorem d_FR_slip_18 : decode b_FR_slip 18 = .ok (.getfield 67, 3) := by decide +kernel
theorem d_FR_slip_21 : decode b_FR_slip 21 = .ok (.iload_n 1, 1) := by decide +kernel
theorem d_FR_slip_22 : decode b_FR_slip 22 = .ok (.aaload, 1) := by decide +kernel
theorem d_FR_slip_23 : decode b_FR_slip 23 = .ok (.astore_n 3, 1) := by decide +kernel
theorem d_FR_slip_24 : decode b_FR_slip 24 = .ok (.aload_n 3, 1) := by decide +kernel
theorem d_FR_slip_25 : decode b_FR_slip 25 = .ok (.invokevirtual 289, 3) := by decide +kernel
theorem d_FR_slip_28 : decode b_FR_slip 28 = .ok (.ifCond .eq 6, 3) := by decide +kernel
theorem d_FR_slip_31 : decode b_FR_slip 31 = .ok (.bipush (-11), 2) := by decide +kernel
theorem d_FR_slip_33 : decode b_FR_slip 33 = .ok (.ireturn, 1) := by decide +kernel
theorem d_FR_slip_34 : decode b_FR_slip 34 = .ok (.aload_n 3, 1) := by decide +kernel
theorem d_FR_slip_35 : decode b_FR_slip 35 = .ok (.getfield 316, 3) := by decide +kernel
theorem d_FR_slip_38 : decode b_FR_slip 38 = .ok (.aload_n 0, 1) := by decide +kernel
theorem d_FR_slip_39 : decode b_FR_slip 39 = .ok (.getfield 10, 3) := by decide +kernel
theorem d_FR_slip_42 : decode b_FR_slip 42 = .ok (.getfield 241, 3) := by decide +kernel
theorem d_FR_slip_45 : decode b_FR_slip 45 = .ok (.if_icmp .ge 6, 3) := by decide +kernel
theorem d_FR_slip_48 : decode b_FR_slip 48 = .ok (.bipush (-12), 2) := by decide +kernel
theorem d_FR_slip_50 : decode b_FR_slip 50 = .ok (.ireturn, 1) := by decide +kernel
theorem d_FR_slip_51 : decode b_FR_slip 51 = .ok (.lconst 0, 1) := by decide +kernel
theorem d_FR_slip_52 : decode b_FR_slip 52 = .ok (.lstore 4, 2) := by decide +kernel
theorem d_FR_slip_54 : decode b_FR_slip 54 = .ok (.iconst 0, 1) := by decide +kernel
theorem d_FR_slip_55 : decode b_FR_slip 55 = .ok (.istore 6, 2) := by decide +kernel
theorem d_FR_slip_57 : decode b_FR_slip 57 = .ok (.iload 6, 2) := by decide +kernel
theorem d_FR_slip_59 : decode b_FR_slip 59 = .ok (.aload_n 0, 1) := by decide +kernel
theorem d_FR_slip_60 : decode b_FR_slip 60 = .ok (.getfield 10, 3) := by decide +kernel
theorem d_FR_slip_63 : decode b_FR_slip 63 = .ok (.getfield 241, 3) := by decide +kernel
theorem d_FR_slip_66 : decode b_FR_slip 66 = .ok (.if_icmp .ge 37, 3) := by decide +kernel
theorem d_FR_slip_69 : decode b_FR_slip 69 = .ok (.aload_n 3, 1) := by decide +kernel
theorem d_FR_slip_70 : decode b_FR_slip 70 = .ok (.iload 6, 2) := by decide +kernel
theorem d_FR_slip_72 : decode b_FR_slip 72 = .ok (.invokevirtual 307, 3) := by decide +kernel
theorem d_FR_slip_75 : decode b_FR_slip 75 = .ok (.aload_n 0, 1) := by decide +kernel
theorem d_FR_slip_76 : decode b_FR_slip 76 = .ok (.getfield 10, 3) := by decide +kernel
theorem d_FR_slip_79 : decode b_FR_slip 79 = .ok (.iload_n 2, 1) := by decide +kernel
theorem d_FR_slip_80 : decode b_FR_slip 80 = .ok (.iload 6, 2) := by decide +kernel
theorem d_FR_slip_82 : decode b_FR_slip 82 = .ok (.invokevirtual 317, 3) := by decide +kernel
theorem d_FR_slip_85 : decode b_FR_slip 85 = .ok (.if_icmp .eq 12, 3) := by decide +kernel
theorem d_FR_slip_88 : decode b_FR_slip 88 = .ok (.lload 4, 2) := by decide +kernel
theorem d_FR_slip_90 : decode b_FR_slip 90 = .ok (.lconst 1, 1) := by decide +kernel
theorem d_FR_slip_91 : decode b_FR_slip 91 = .ok (.iload 6, 2) := by decide +kernel
theorem d_FR_slip_93 : decode b_FR_slip 93 = .ok (.lshl, 1) := by decide +kernel
theorem d_FR_slip_94 : decode b_FR_slip 94 = .ok (.lor, 1) := by decide +kernel
theorem d_FR_slip_95 : decode b_FR_slip 95 = .ok (.lstore 4, 2) := by decide +kernel
theorem d_FR_slip_97 : decode b_FR_slip 97 = .ok (.iinc 6 1, 3) := by decide +kernel
theorem d_FR_slip_100 : decode b_FR_slip 100 = .ok (.goto (-43), 3) := by decide +kernel
theorem d_FR_slip_103 : decode b_FR_slip 103 = .ok (.lload 4, 2) := by decide +kernel
theorem d_FR_slip_105 : decode b_FR_slip 105 = .ok (.lconst 0, 1) := by decide +kernel
theorem d_FR_slip_106 : decode b_FR_slip 106 = .ok (.lcmp, 1) := by decide +kernel
theorem d_FR_slip_107 : decode b_FR_slip 107 = .ok (.ifCond .ne 7, 3) := by decide +kernel
theorem d_FR_slip_110 : decode b_FR_slip 110 = .ok (.iconst (-1), 1) := by decide +kernel
theorem d_FR_slip_111 : decode b_FR_slip 111 = .ok (.goto 11, 3) := by decide +kernel
theorem d_FR_slip_114 : decode b_FR_slip 114 = .ok (.aload_n 0, 1) := by decide +kernel
theorem d_FR_slip_115 : decode b_FR_slip 115 = .ok (.aload_n 3, 1) := by decide +kernel
theorem d_FR_slip_116 : decode b_FR_slip 116 = .ok (.iload_n 2, 1) := by decide +kernel
theorem d_FR_slip_117 : decode b_FR_slip 117 = .ok (.lload 4, 2) := by decide +kernel
theorem d_FR_slip_119 : decode b_FR_slip 119 = .ok (.invokevirtual 320, 3) := by decide +kernel
theorem d_FR_slip_122 : decode b_FR_slip 122 = .ok (.ireturn, 1) := by decide +kernel
def B_FR_slip_57 (k57 : Int32 → Nat → Int64 → Int32 → Sto → Option (Int32 × Sto)) (v2 : Int32) (v3 : Nat) (v4 : Int64) (v6 : Int32) (σ : Sto) : Option (Int32 × Sto) :=
  (if (gI σ 1 0) ≤ v6 then (if v4 = (0 : Int64) then some ((-1 : Int32), σ)
  else ((f_FR_turnThatMends v3 v2 v4 σ).bind fun q5 => some (q5.1, q5.2)))
 else ((f_Sheet_at v3 v6 σ).bind fun q6 => ((f_Net_fits 1 v2 v6 q6.2).bind fun q7 => (if q6.1 = q7.1 then k57 v2 v3 v4 (v6 + (1 : Int32)) q7.2
  else (lt1 (v4 ||| (lsh (1 : Int64) v6)) fun x8 => k57 v2 v3 x8 (v6 + (1 : Int32)) q7.2)))))
set_option maxHeartbeats 4000000 in
set_option maxRecDepth 100000 in
theorem vB_FR_slip_57 {X : Xt} {E : En} (g : GG X E 5 b_FR_slip R_FR 7) {k57 : Int32 → Nat → Int64 → Int32 → Sto → Option (Int32 × Sto)} (hk57 : ∀ (v2 : Int32) (v3 : Nat) (v4 : Int64) (v6 : Int32) (hv3 : cls v3 = 7) (σ : Sto), VV X E b_FR_slip 7 eI 57 [(0, .ref (E.2.1 0)), (2, .int v2), (3, .ref (E.2.1 v3)), (4, .long v4), (6, .int v6)] [] σ (k57 v2 v3 v4 v6 σ)) (v2 : Int32) (v3 : Nat) (v4 : Int64) (v6 : Int32) (hv3 : cls v3 = 7) (σ : Sto) : VV X E b_FR_slip 7 eI 57 [(0, .ref (E.2.1 0)), (2, .int v2), (3, .ref (E.2.1 v3)), (4, .long v4), (6, .int v6)] [] σ (B_FR_slip_57 k57 v2 v3 v4 v6 σ) := by
  unfold B_FR_slip_57
  refine v_iload 4 g d_FR_slip_57 rfl ?_
  refine v_aload_n 0 g d_FR_slip_59 rfl ?_
  refine v_getR 1 g ff_FR_10 rfl rfl rfl d_FR_slip_60 ?_
  refine v_getI g ff_FR_241 rfl rfl d_FR_slip_63 ?_
  refine v_icmp_ge 103 g d_FR_slip_66 (by decide) (fun _ => ?_) (fun _ => ?_)
  · refine v_lload 3 g d_FR_slip_103 rfl ?_
    refine v_lconst (v := (0 : Int64)) g d_FR_slip_105 (by decide +kernel) ?_
    refine v_lcmp_ne 114 g d_FR_slip_106 d_FR_slip_107 (by decide) (fun _ => ?_) (fun _ => ?_)
    · refine v_aload_n 0 g d_FR_slip_114 rfl ?_
      refine v_aload_n 2 g d_FR_slip_115 rfl ?_
      refine v_iload_n 1 g d_FR_slip_116 rfl ?_
      refine v_lload 3 g d_FR_slip_117 rfl ?_
      refine v_callI (r_V (rest := []) [.ref (E.2.1 v3), .int v2, .long v4] g (m1 811 (by decide +kernel) (by decide +kernel)) yv_FR_turnThatMends rfl (fun r σ1 h => sp_FR_turnThatMends g.2.2.1 hv3 h) rfl rfl (by decide) (Nat.le_of_ble_eq_true rfl) d_FR_slip_119) (fun q5 => ?_)
      exact v_ret d_FR_slip_122 rfl
    · refine v_iconst (v := (-1 : Int32)) g d_FR_slip_110 (by decide +kernel) ?_
      refine v_goto 122 g d_FR_slip_111 (by decide) ?_
      exact v_ret d_FR_slip_122 rfl
  · refine v_aload_n 2 g d_FR_slip_69 rfl ?_
    refine v_iload 4 g d_FR_slip_70 rfl ?_
    refine v_callI (r_V (rest := []) [.int v6] g (m1 793 (by decide +kernel) (by decide +kernel)) yv_Sheet_at hv3 (fun r σ1 h => sp_Sheet_at g.2.2.1 hv3 h) rfl rfl (by decide) (Nat.le_of_ble_eq_true rfl) d_FR_slip_72) (fun q6 => ?_)
    refine v_aload_n 0 g d_FR_slip_75 rfl ?_
    refine v_getR 1 g ff_FR_10 rfl rfl rfl d_FR_slip_76 ?_
    refine v_iload_n 1 g d_FR_slip_79 rfl ?_
    refine v_iload 4 g d_FR_slip_80 rfl ?_
    refine v_callI (r_V (rest := [.int q6.1]) [.int v2, .int v6] g (m1 807 (by decide +kernel) (by decide +kernel)) yv_Net_fits rfl (fun r σ1 h => sp_Net_fits g.2.2.1 rfl h) rfl rfl (by decide) (Nat.le_of_ble_eq_true rfl) d_FR_slip_82) (fun q7 => ?_)
    refine v_icmp_eq 97 g d_FR_slip_85 (by decide) (fun _ => ?_) (fun _ => ?_)
    · refine v_iinc 4 [(6, .int (v6 + (1 : Int32))), (0, .ref (E.2.1 0)), (2, .int v2), (3, .ref (E.2.1 v3)), (4, .long v4)] g d_FR_slip_97 rfl (v := (1 : Int32)) (by decide +kernel) (by decide) rfl ?_
      refine v_goto 57 g d_FR_slip_100 (by decide) ?_
      exact v_sub [1,2,3,4,0] rfl (hk57 v2 v3 v4 (v6 + (1 : Int32)) hv3 q7.2)
    · refine v_lload 3 g d_FR_slip_88 rfl ?_
      refine v_lconst (v := (1 : Int64)) g d_FR_slip_90 (by decide +kernel) ?_
      refine v_iload 4 g d_FR_slip_91 rfl ?_
      refine v_lshl g d_FR_slip_93 ?_
      refine v_lor g d_FR_slip_94 ?_
      refine v_nlet (fun x8 ex8 => ?_)
      rw [← ex8]
      refine v_lstore [(4, .long x8), (0, .ref (E.2.1 0)), (2, .int v2), (3, .ref (E.2.1 v3)), (6, .int v6)] g d_FR_slip_95 (by decide) rfl ?_
      refine v_iinc 4 [(6, .int (v6 + (1 : Int32))), (4, .long x8), (0, .ref (E.2.1 0)), (2, .int v2), (3, .ref (E.2.1 v3))] g d_FR_slip_97 rfl (v := (1 : Int32)) (by decide +kernel) (by decide) rfl ?_
      refine v_goto 57 g d_FR_slip_100 (by decide) ?_
      exact v_sub [2,3,4,1,0] rfl (hk57 v2 v3 x8 (v6 + (1 : Int32)) hv3 q7.2)
def L_FR_slip_57 : Nat → Int32 → Nat → Int64 → Int32 → Sto → Option (Int32 × Sto)
  | 0, _, _, _, _, _ => none
  | fu + 1, v2, v3, v4, v6, σ => B_FR_slip_57 (L_FR_slip_57 fu) v2 v3 v4 v6 σ
theorem vL_FR_slip_57 {X : Xt} {E : En} (g : GG X E 5 b_FR_slip R_FR 7) (fu : Nat) : ∀ (v2 : Int32) (v3 : Nat) (v4 : Int64) (v6 : Int32) (hv3 : cls v3 = 7) (σ : Sto), VV X E b_FR_slip 7 eI 57 [(0, .ref (E.2.1 0)), (2, .int v2), (3, .ref (E.2.1 v3)), (4, .long v4), (6, .int v6)] [] σ (L_FR_slip_57 fu v2 v3 v4 v6 σ) := by
  induction fu with
  | zero => intros; exact v_none
  | succ fu ih =>
    intro v2 v3 v4 v6 hv3 σ
    exact vB_FR_slip_57 g ih v2 v3 v4 v6 hv3 σ
def B_FR_slip_0 (a1 : Int32) (a2 : Int32) (σ : Sto) : Option (Int32 × Sto) :=
  ((f_FR_isSheet a1 σ).bind fun q1 => (if (b2i q1.1) = 0 then some ((-2 : Int32), q1.2)
 else ((f_FR_isBit a2 q1.2).bind fun q2 => (if (b2i q2.1) = 0 then some ((-2 : Int32), q2.2)
  else (if inb a1 4 = true then ((f_Sheet_isMissing (36 + 2 * Int32.toNatClampNeg a1) q2.2).bind fun q4 => (if (b2i q4.1) = 0 then (if (gI q4.2 1 0) ≤ (gI q4.2 (36 + 2 * Int32.toNatClampNeg a1) 1) then L_FR_slip_57 LF a2 (36 + 2 * Int32.toNatClampNeg a1) (0 : Int64) (0 : Int32) q4.2
    else some ((-12 : Int32), q4.2))
   else some ((-11 : Int32), q4.2))) else none)))))
set_option maxHeartbeats 4000000 in
set_option maxRecDepth 100000 in
theorem vB_FR_slip_0 {X : Xt} {E : En} (g : GG X E 5 b_FR_slip R_FR 7) (a1 : Int32) (a2 : Int32) (σ : Sto) : VV X E b_FR_slip 7 eI 0 [(0, .ref (E.2.1 0)), (1, .int a1), (2, .int a2)] [] σ (B_FR_slip_0 a1 a2 σ) := by
  unfold B_FR_slip_0
  refine v_iload_n 1 g d_FR_slip_0 rfl ?_
  refine v_callB (r_S (rest := []) [.int a1] g (m1 745 (by decide +kernel) (by decide +kernel)) ys_FR_isSheet (fun r σ1 h => sp_FR_isSheet g.2.2.1  h) rfl rfl (by decide) (Nat.le_of_ble_eq_true rfl) d_FR_slip_1) (fun q1 => ?_)
  refine v_if_eq 14 g d_FR_slip_4 (by decide) (fun _ => ?_) (fun _ => ?_)
  · refine v_bipush (v := (-2 : Int32)) g d_FR_slip_14 (by decide +kernel) ?_
    exact v_ret d_FR_slip_16 rfl
  · refine v_iload_n 2 g d_FR_slip_7 rfl ?_
    refine v_callB (r_S (rest := []) [.int a2] g (m1 414 (by decide +kernel) (by decide +kernel)) ys_FR_isBit (fun r σ1 h => sp_FR_isBit g.2.2.1  h) rfl rfl (by decide) (Nat.le_of_ble_eq_true rfl) d_FR_slip_8) (fun q2 => ?_)
    refine v_if_ne 17 g d_FR_slip_11 (by decide) (fun _ => ?_) (fun _ => ?_)
    · refine v_aload_n 0 g d_FR_slip_17 rfl ?_
      refine v_getR 34 g ff_FR_67 rfl rfl rfl d_FR_slip_18 ?_
      refine v_iload_n 1 g d_FR_slip_21 rfl ?_
      refine v_aaldS g d_FR_slip_22 (fun h3 => ?_)
      refine v_astore_n [(3, .ref (E.2.1 (36 + 2 * Int32.toNatClampNeg a1))), (0, .ref (E.2.1 0)), (1, .int a1), (2, .int a2)] g d_FR_slip_23 (by decide) rfl ?_
      refine v_aload_n 0 g d_FR_slip_24 rfl ?_
      refine v_callB (r_V (rest := []) [] g (m1 748 (by decide +kernel) (by decide +kernel)) yv_Sheet_isMissing (cls_sh h3) (fun r σ1 h => sp_Sheet_isMissing g.2.2.1 (cls_sh h3) h) rfl rfl (by decide) (Nat.le_of_ble_eq_true rfl) d_FR_slip_25) (fun q4 => ?_)
      refine v_if_eq 34 g d_FR_slip_28 (by decide) (fun _ => ?_) (fun _ => ?_)
      · refine v_aload_n 0 g d_FR_slip_34 rfl ?_
        refine v_getI g ff_FR_316 (cls_sh h3) rfl d_FR_slip_35 ?_
        refine v_aload_n 1 g d_FR_slip_38 rfl ?_
        refine v_getR 1 g ff_FR_10 rfl rfl rfl d_FR_slip_39 ?_
        refine v_getI g ff_FR_241 rfl rfl d_FR_slip_42 ?_
        refine v_icmp_ge 51 g d_FR_slip_45 (by decide) (fun _ => ?_) (fun _ => ?_)
        · refine v_lconst (v := (0 : Int64)) g d_FR_slip_51 (by decide +kernel) ?_
          refine v_lstore [(4, .long (0 : Int64)), (3, .ref (E.2.1 (36 + 2 * Int32.toNatClampNeg a1))), (0, .ref (E.2.1 0)), (1, .int a1), (2, .int a2)] g d_FR_slip_52 (by decide) rfl ?_
          refine v_iconst (v := (0 : Int32)) g d_FR_slip_54 (by decide +kernel) ?_
          refine v_istore [(6, .int (0 : Int32)), (4, .long (0 : Int64)), (3, .ref (E.2.1 (36 + 2 * Int32.toNatClampNeg a1))), (0, .ref (E.2.1 0)), (1, .int a1), (2, .int a2)] g d_FR_slip_55 (by decide) rfl ?_
          exact v_sub [3,5,2,1,0] rfl (vL_FR_slip_57 g LF a2 (36 + 2 * Int32.toNatClampNeg a1) (0 : Int64) (0 : Int32) (cls_sh h3) q4.2)
        · refine v_bipush (v := (-12 : Int32)) g d_FR_slip_48 (by decide +kernel) ?_
          exact v_ret d_FR_slip_50 rfl
      · refine v_bipush (v := (-11 : Int32)) g d_FR_slip_31 (by decide +kernel) ?_
        exact v_ret d_FR_slip_33 rfl
    · refine v_bipush (v := (-2 : Int32)) g d_FR_slip_14 (by decide +kernel) ?_
      exact v_ret d_FR_slip_16 rfl
def f_FR_slip (a1 : Int32) (a2 : Int32) (σ : Sto) : Option (Int32 × Sto) := B_FR_slip_0 a1 a2 σ
theorem sp_FR_slip {l : Launch} {E : En} (hE : Dj E) {a1 : Int32} {a2 : Int32} {σ : Sto} {r : Int32} {σ' : Sto} (h : f_FR_slip a1 a2 σ = some (r, σ')) : Ct l E y_FR_slip (wsM y_FR_slip b_FR_slip 7 (some .int)) 5 [.ref (E.2.1 0), .int a1, .int a2] σ (eI r) σ' :=
  ct_of hE (by decide +kernel) (Nat.le_of_ble_eq_true rfl) (fun x => Or.inl ⟨rfl, x, rfl⟩) (fun X _ g => vB_FR_slip_0 g a1 a2 σ) r σ' h
/-! method FittingRings.feed(IJ)I -/
theorem yv_FR_feed : YV y_FR_feed b_FR_feed 4 (some .int) 2 9 := ⟨m1 819 (by decide +kernel) (by decide +kernel), m1 820 (by decide +kernel) (by decide +kernel), ini_FR, m1 821 (by decide +kernel) (by decide +kernel), ⟨by decide +kernel, by decide +kernel, by decide +kernel⟩, by decide, by decide, T_FR, 11, rfl⟩
theorem d_FR_feed_0 : decode b_FR_feed 0 = .ok (.iload_n 1, 1) := by decide +kernel
theorem d_FR_feed_1 : decode b_FR_feed 1 = .ok (.iconst 1, 1) := by decide +kernel
theorem d_FR_feed_2 : decode b_FR_feed 2 = .ok (.if_icmp .lt 9, 3) := by decide +kernel
theorem d_FR_feed_5 : decode b_FR_feed 5 = .ok (.iload_n 1, 1) := by decide +kernel
theorem d_FR_feed_6 : decode b_FR_feed 6 = .ok (.bipush 8, 2) := by decide +kernel
theorem d_FR_feed_8 : decode b_FR_feed 8 = .ok (.if_icmp .le 6, 3) := by decide +kernel
theorem d_FR_feed_11 : decode b_FR_feed 11 = .ok (.bipush (-2), 2) := by decide +kernel
theorem d_FR_feed_13 : decode b_FR_feed 13 = .ok (.ireturn, 1) := by decide +kernel
theorem d_FR_feed_14 : decode b_FR_feed 14 = .ok (.aload_n 0, 1) := by decide +kernel
theorem d_FR_feed_15 : decode b_FR_feed 15 = .ok (.getfield 54, 3) := by decide +kernel
theorem d_FR_feed_18 : decode b_FR_feed 18 = .ok (.iload_n 1, 1) := by decide +kernel
theorem d_FR_feed_19 : decode b_FR_feed 19 = .ok (.lload_n 2, 1) := by decide +kernel
theorem d_FR_feed_20 : decode b_FR_feed 20 = .ok (.invokevirtual 327, 3) := by decide +kernel
theorem d_FR_feed_23 : decode b_FR_feed 23 = .ok (.ireturn, 1) := by decide +kernel
def B_FR_feed_0 (a1 : Int32) (a2 : Int64) (σ : Sto) : Option (Int32 × Sto) :=
  (if a1 < (1 : Int32) then some ((-2 : Int32), σ)
 else (if a1 ≤ (8 : Int32) then ((f_Tape_append a1 a2 σ).bind fun q1 => some (q1.1, q1.2))
  else some ((-2 : Int32), σ)))
set_option maxHeartbeats 4000000 in
set_option maxRecDepth 100000 in
theorem vB_FR_feed_0 {X : Xt} {E : En} (g : GG X E 2 b_FR_feed R_FR 4) (a1 : Int32) (a2 : Int64) (σ : Sto) : VV X E b_FR_feed 4 eI 0 [(0, .ref (E.2.1 0)), (1, .int a1), (2, .long a2)] [] σ (B_FR_feed_0 a1 a2 σ) := by
  unfold B_FR_feed_0
  refine v_iload_n 1 g d_FR_feed_0 rfl ?_
  refine v_iconst (v := (1 : Int32)) g d_FR_feed_1 (by decide +kernel) ?_
  refine v_icmp_lt 11 g d_FR_feed_2 (by decide) (fun _ => ?_) (fun _ => ?_)
  · refine v_bipush (v := (-2 : Int32)) g d_FR_feed_11 (by decide +kernel) ?_
    exact v_ret d_FR_feed_13 rfl
  · refine v_iload_n 1 g d_FR_feed_5 rfl ?_
    refine v_bipush (v := (8 : Int32)) g d_FR_feed_6 (by decide +kernel) ?_
    refine v_icmp_le 14 g d_FR_feed_8 (by decide) (fun _ => ?_) (fun _ => ?_)
    · refine v_aload_n 0 g d_FR_feed_14 rfl ?_
      refine v_getR 31 g ff_FR_54 rfl rfl rfl d_FR_feed_15 ?_
      refine v_iload_n 1 g d_FR_feed_18 rfl ?_
      refine v_lload_n 2 g d_FR_feed_19 rfl ?_
      refine v_callI (r_V (rest := []) [.int a1, .long a2] g (m1 822 (by decide +kernel) (by decide +kernel)) yv_Tape_append rfl (fun r σ1 h => sp_Tape_append g.2.2.1  h) rfl rfl (by decide) (Nat.le_of_ble_eq_true rfl) d_FR_feed_20) (fun q1 => ?_)
      exact v_ret d_FR_feed_23 rfl
    · refine v_bipush (v := (-2 : Int32)) g d_FR_feed_11 (by decide +kernel) ?_
      exact v_ret d_FR_feed_13 rfl
def f_FR_feed (a1 : Int32) (a2 : Int64) (σ : Sto) : Option (Int32 × Sto) := B_FR_feed_0 a1 a2 σ
theorem sp_FR_feed {l : Launch} {E : En} (hE : Dj E) {a1 : Int32} {a2 : Int64} {σ : Sto} {r : Int32} {σ' : Sto} (h : f_FR_feed a1 a2 σ = some (r, σ')) : Ct l E y_FR_feed (wsM y_FR_feed b_FR_feed 4 (some .int)) 2 [.ref (E.2.1 0), .int a1, .long a2] σ (eI r) σ' :=
  ct_of hE (by decide +kernel) (Nat.le_of_ble_eq_true rfl) (fun x => Or.inl ⟨rfl, x, rfl⟩) (fun X _ g => vB_FR_feed_0 g a1 a2 σ) r σ' h
/-! method FittingRings.text()I -/
theorem yv_FR_text : YV y_FR_text b_FR_text 2 (some .int) 0 9 := ⟨m1 827 (by decide +kernel) (by decide +kernel), m1 828 (by decide +kernel) (by decide +kernel), ini_FR, m1 829 (by decide +kernel) (by decide +kernel), ⟨by decide +kernel, by decide +kernel, by decide +kernel⟩, by decide, by decide, T_FR, 11, rfl⟩
theorem d_FR_text_0 : decode b_FR_text 0 = .ok (.aload_n 0, 1) := by decide +kernel
theorem d_FR_text_1 : decode b_FR_text 1 = .ok (.getfield 19, 3) := by decide +kernel
theorem d_FR_text_4 : decode b_FR_text 4 = .ok (.aload_n 0, 1) := by decide +kernel
theorem d_FR_text_5 : decode b_FR_text 5 = .ok (.getfield 10, 3) := by decide +kernel
theorem d_FR_text_8 : decode b_FR_text 8 = .ok (.invokevirtual 330, 3) := by decide +kernel
theorem d_FR_text_11 : decode b_FR_text 11 = .ok (.aload_n 0, 1) := by decide +kernel
theorem d_FR_text_12 : decode b_FR_text 12 = .ok (.getfield 54, 3) := by decide +kernel
theorem d_FR_text_15 : decode b_FR_text 15 = .ok (.aload_n 0, 1) := by decide +kernel
theorem d_FR_text_16 : decode b_FR_text 16 = .ok (.getfield 19, 3) := by decide +kernel
theorem d_FR_text_19 : decode b_FR_text 19 = .ok (.invokevirtual 333, 3) := by decide +kernel
theorem d_FR_text_22 : decode b_FR_text 22 = .ok (.istore_n 1, 1) := by decide +kernel
theorem d_FR_text_23 : decode b_FR_text 23 = .ok (.aload_n 0, 1) := by decide +kernel
theorem d_FR_text_24 : decode b_FR_text 24 = .ok (.getfield 54, 3) := by decide +kernel
theorem d_FR_text_27 : decode b_FR_text 27 = .ok (.iconst 0, 1) := by decide +kernel
theorem d_FR_text_28 : decode b_FR_text 28 = .ok (.putfield 337, 3) := by decide +kernel
theorem d_FR_text_31 : decode b_FR_text 31 = .ok (.iload_n 1, 1) := by decide +kernel
theorem d_FR_text_32 : decode b_FR_text 32 = .ok (.ifCond .lt 14, 3) := by decide +kernel
theorem d_FR_text_35 : decode b_FR_text 35 = .ok (.aload_n 0, 1) := by decide +kernel
theorem d_FR_text_36 : decode b_FR_text 36 = .ok (.getfield 10, 3) := by decide +kernel
theorem d_FR_text_39 : decode b_FR_text 39 = .ok (.aload_n 0, 1) := by decide +kernel
theorem d_FR_text_40 : decode b_FR_text 40 = .ok (.getfield 19, 3) := by decide +kernel
theorem d_FR_text_43 : decode b_FR_text 43 = .ok (.invokevirtual 330, 3) := by decide +kernel
theorem d_FR_text_46 : decode b_FR_text 46 = .ok (.iload_n 1, 1) := by decide +kernel
theorem d_FR_text_47 : decode b_FR_text 47 = .ok (.ireturn, 1) := by decide +kernel
def B_FR_text_0 (σ : Sto) : Option (Int32 × Sto) :=
  ((f_Net_become 11 1 σ).bind fun q1 => ((f_Tape_play 11 q1.2).bind fun q2 => (if q2.1 < 0 then some (q2.1, (sI q2.2 31 0 (0 : Int32)))
 else ((f_Net_become 1 11 (sI q2.2 31 0 (0 : Int32))).bind fun q3 => some (q2.1, q3.2)))))
set_option maxHeartbeats 4000000 in
set_option maxRecDepth 100000 in
theorem vB_FR_text_0 {X : Xt} {E : En} (g : GG X E 18 b_FR_text R_FR 2) (σ : Sto) : VV X E b_FR_text 2 eI 0 [(0, .ref (E.2.1 0))] [] σ (B_FR_text_0 σ) := by
  unfold B_FR_text_0
  refine v_aload_n 0 g d_FR_text_0 rfl ?_
  refine v_getR 11 g ff_FR_19 rfl rfl rfl d_FR_text_1 ?_
  refine v_aload_n 0 g d_FR_text_4 rfl ?_
  refine v_getR 1 g ff_FR_10 rfl rfl rfl d_FR_text_5 ?_
  refine v_callU (r_V (rest := []) [.ref (E.2.1 1)] g (m1 830 (by decide +kernel) (by decide +kernel)) yv_Net_become rfl (fun r σ1 h => sp_Net_become g.2.2.1 rfl rfl h) rfl rfl (by decide) (Nat.le_of_ble_eq_true rfl) d_FR_text_8) (fun q1 => ?_)
  refine v_aload_n 0 g d_FR_text_11 rfl ?_
  refine v_getR 31 g ff_FR_54 rfl rfl rfl d_FR_text_12 ?_
  refine v_aload_n 0 g d_FR_text_15 rfl ?_
  refine v_getR 11 g ff_FR_19 rfl rfl rfl d_FR_text_16 ?_
  refine v_callI (r_V (rest := []) [.ref (E.2.1 11)] g (m1 835 (by decide +kernel) (by decide +kernel)) yv_Tape_play rfl (fun r σ1 h => sp_Tape_play g.2.2.1 rfl h) rfl rfl (by decide) (Nat.le_of_ble_eq_true rfl) d_FR_text_19) (fun q2 => ?_)
  refine v_istore_n [(1, .int q2.1), (0, .ref (E.2.1 0))] g d_FR_text_22 (by decide) rfl ?_
  refine v_aload_n 1 g d_FR_text_23 rfl ?_
  refine v_getR 31 g ff_FR_54 rfl rfl rfl d_FR_text_24 ?_
  refine v_iconst (v := (0 : Int32)) g d_FR_text_27 (by decide +kernel) ?_
  refine v_putI g fp_FR_337 rfl rfl d_FR_text_28 ?_
  refine v_iload_n 0 g d_FR_text_31 rfl ?_
  refine v_if_lt 46 g d_FR_text_32 (by decide) (fun _ => ?_) (fun _ => ?_)
  · refine v_iload_n 0 g d_FR_text_46 rfl ?_
    exact v_ret d_FR_text_47 rfl
  · refine v_aload_n 1 g d_FR_text_35 rfl ?_
    refine v_getR 1 g ff_FR_10 rfl rfl rfl d_FR_text_36 ?_
    refine v_aload_n 1 g d_FR_text_39 rfl ?_
    refine v_getR 11 g ff_FR_19 rfl rfl rfl d_FR_text_40 ?_
    refine v_callU (r_V (rest := []) [.ref (E.2.1 11)] g (m1 830 (by decide +kernel) (by decide +kernel)) yv_Net_become rfl (fun r σ1 h => sp_Net_become g.2.2.1 rfl rfl h) rfl rfl (by decide) (Nat.le_of_ble_eq_true rfl) d_FR_text_43) (fun q3 => ?_)
    refine v_iload_n 0 g d_FR_text_46 rfl ?_
    exact v_ret d_FR_text_47 rfl
def f_FR_text (σ : Sto) : Option (Int32 × Sto) := B_FR_text_0 σ
theorem sp_FR_text {l : Launch} {E : En} (hE : Dj E) {σ : Sto} {r : Int32} {σ' : Sto} (h : f_FR_text σ = some (r, σ')) : Ct l E y_FR_text (wsM y_FR_text b_FR_text 2 (some .int)) 18 [.ref (E.2.1 0)] σ (eI r) σ' :=
  ct_of hE (by decide +kernel) (Nat.le_of_ble_eq_true rfl) (fun x => Or.inl ⟨rfl, x, rfl⟩) (fun X _ g => vB_FR_text_0 g σ) r σ' h
/-! method FittingRings.deal(III)I -/
theorem yv_FR_deal : YV y_FR_deal b_FR_deal 7 (some .int) 3 9 := ⟨m1 950 (by decide +kernel) (by decide +kernel), m1 951 (by decide +kernel) (by decide +kernel), ini_FR, m1 952 (by decide +kernel) (by decide +kernel), ⟨by decide +kernel, by decide +kernel, by decide +kernel⟩, by decide, by decide, T_FR, 11, rfl⟩
theorem d_FR_deal_0 : decode b_FR_deal 0 = .ok (.iload_n 2, 1) := by decide +kernel
theorem d_FR_deal_1 : decode b_FR_deal 1 = .ok (.iconst 1, 1) := by decide +kernel
theorem d_FR_deal_2 : decode b_FR_deal 2 = .ok (.if_icmp .lt 16, 3) := by decide +kernel
theorem d_FR_deal_5 : decode b_FR_deal 5 = .ok (.iload_n 2, 1) := by decide +kernel
theorem d_FR_deal_6 : decode b_FR_deal 6 = .ok (.bipush 40, 2) := by decide +kernel
theorem d_FR_deal_8 : decode b_FR_deal 8 = .ok (.if_icmp .gt 10, 3) := by decide +kernel
theorem d_FR_deal_11 : decode b_FR_deal 11 = .ok (.iload_n 3, 1) := by decide +kernel
theorem d_FR_deal_12 : decode b_FR_deal 12 = .ok (.invokestatic 338, 3) := by decide +kernel
theorem d_FR_deal_15 : decode b_FR_deal 15 = .ok (.ifCond .ne 6, 3) := by decide +kernel
theorem d_FR_deal_18 : decode b_FR_deal 18 = .ok (.bipush (-2), 2) := by decide +kernel
theorem d_FR_deal_20 : decode b_FR_deal 20 = .ok (.ireturn, 1) := by decide +kernel
theorem d_FR_deal_21 : decode b_FR_deal 21 = .ok (.aload_n 0, 1) := by decide +kernel
theorem d_FR_deal_22 : decode b_FR_deal 22 = .ok (.getfield 10, 3) := by decide +kernel
theorem d_FR_deal_25 : decode b_FR_deal 25 = .ok (.getfield 241, 3) := by decide +kernel
theorem d_FR_deal_28 : decode b_FR_deal 28 = .ok (.iload_n 2, 1) := by decide +kernel
theorem d_FR_deal_29 : decode b_FR_deal 29 = .ok (.iadd, 1) := by decide +kernel
theorem d_FR_deal_30 : decode b_FR_deal 30 = .ok (.bipush 40, 2) := by decide +kernel
theorem d_FR_deal_32 : decode b_FR_deal 32 = .ok (.if_icmp .le 6, 3) := by decide +kernel
theorem d_FR_deal_35 : decode b_FR_deal 35 = .ok (.bipush (-4), 2) := by decide +kernel
theorem d_FR_deal_37 : decode b_FR_deal 37 = .ok (.ireturn, 1) := by decide +kernel
theorem d_FR_deal_38 : decode b_FR_deal 38 = .ok (.aload_n 0, 1) := by decide +kernel
theorem d_FR_deal_39 : decode b_FR_deal 39 = .ok (.getfield 61, 3) := by decide +kernel
theorem d_FR_deal_42 : decode b_FR_deal 42 = .ok (.iload_n 1, 1) := by decide +kernel
theorem d_FR_deal_43 : decode b_FR_deal 43 = .ok (.putfield 341, 3) := by decide +kernel
theorem d_FR_deal_46 : decode b_FR_deal 46 = .ok (.iconst 0, 1) := by decide +kernel
theorem d_FR_deal_47 : decode b_FR_deal 47 = .ok (.istore 4, 2) := by decide +kernel
theorem d_FR_deal_49 : decode b_FR_deal 49 = .ok (.iload 4, 2) := by decide +kernel
theorem d_FR_deal_51 : decode b_FR_deal 51 = .ok (.iload_n 2, 1) := by decide +kernel
theorem d_FR_deal_52 : decode b_FR_deal 52 = .ok (.if_icmp .ge 56, 3) := by decide +kernel
theorem d_FR_deal_55 : decode b_FR_deal 55 = .ok (.aload_n 0, 1) := by decide +kernel
theorem d_FR_deal_56 : decode b_FR_deal 56 = .ok (.getfield 61, 3) := by decide +kernel
theorem d_FR_deal_59 : decode b_FR_deal 59 = .ok (.invokevirtual 344, 3) := by decide +kernel
theorem d_FR_deal_62 : decode b_FR_deal 62 = .ok (.bipush 6, 2) := by decide +kernel
theorem d_FR_deal_64 : decode b_FR_deal 64 = .ok (.irem, 1) := by decide +kernel
theorem d_FR_deal_65 : decode b_FR_deal 65 = .ok (.istore 5, 2) := by decide +kernel
theorem d_FR_deal_67 : decode b_FR_deal 67 = .ok (.aload_n 0, 1) := by decide +kernel
theorem d_FR_deal_68 : decode b_FR_deal 68 = .ok (.getfield 61, 3) := by decide +kernel
theorem d_FR_deal_71 : decode b_FR_deal 71 = .ok (.invokevirtual 344, 3) := by decide +kernel
theorem d_FR_deal_74 : decode b_FR_deal 74 = .ok (.bipush 100, 2) := by decide +kernel
theorem d_FR_deal_76 : decode b_FR_deal 76 = .ok (.irem, 1) := by decide +kernel
theorem d_FR_deal_77 : decode b_FR_deal 77 = .ok (.istore 6, 2) := by decide +kernel
theorem d_FR_deal_79 : decode b_FR_deal 79 = .ok (.aload_n 0, 1) := by decide +kernel
theorem d_FR_deal_80 : decode b_FR_deal 80 = .ok (.getfield 61, 3) := by decide +kernel
theorem d_FR_deal_83 : decode b_FR_deal 83 = .ok (.aload_n 0, 1) := by decide +kernel
theorem d_FR_deal_84 : decode b_FR_deal 84 = .ok (.getfield 10, 3) := by decide +kernel
theorem d_FR_deal_87 : decode b_FR_deal 87 = .ok (.aload_n 0, 1) := by decide +kernel
theorem d_FR_deal_88 : decode b_FR_deal 88 = .ok (.getfield 10, 3) := by decide +kernel
theorem d_FR_deal_91 : decode b_FR_deal 91 = .ok (.iload 5, 2) := by decide +kernel
theorem d_FR_deal_93 : decode b_FR_deal 93 = .ok (.iload 6, 2) := by decide +kernel
theorem d_FR_deal_95 : decode b_FR_deal 95 = .ok (.invokevirtual 86, 3) := by decide +kernel
theorem d_FR_deal_98 : decode b_FR_deal 98 = .ok (.iload_n 3, 1) := by decide +kernel
theorem d_FR_deal_99 : decode b_FR_deal 99 = .ok (.invokevirtual 347, 3) := by decide +kernel
theorem d_FR_deal_102 : decode b_FR_deal 102 = .ok (.iinc 4 1, 3) := by decide +kernel
theorem d_FR_deal_105 : decode b_FR_deal 105 = .ok (.goto (-56), 3) := by decide +kernel
theorem d_FR_deal_108 : decode b_FR_deal 108 = .ok (.aload_n 0, 1) := by decide +kernel
theorem d_FR_deal_109 : decode b_FR_deal 109 = .ok (.getfield 10, 3) := by decide +kernel
theorem d_FR_deal_112 : decode b_FR_deal 112 = .ok (.getfield 241, 3) := by decide +kernel
theorem d_FR_deal_115 : decode b_FR_deal 115 = .ok (.ireturn, 1) := by decide +kernel
def B_FR_deal_49 (k49 : Int32 → Int32 → Int32 → Sto → Option (Int32 × Sto)) (v2 : Int32) (v3 : Int32) (v4 : Int32) (σ : Sto) : Option (Int32 × Sto) :=
  (if v2 ≤ v4 then some ((gI σ 1 0), σ)
 else ((f_Lot_draw  σ).bind fun q2 => (if ¬ (6 : Int32) = 0 then ((f_Lot_draw  q2.2).bind fun q3 => (if ¬ (100 : Int32) = 0 then (lt1 (irm q3.1 (100 : Int32)) fun x4 => ((f_Net_add 1 (irm q2.1 (6 : Int32)) x4 q3.2).bind fun q5 => ((f_Lot_tieAhead 1 q5.1 v3 q5.2).bind fun q6 => k49 v2 v3 (v4 + (1 : Int32)) q6.2))) else none)) else none)))
set_option maxHeartbeats 4000000 in
set_option maxRecDepth 100000 in
theorem vB_FR_deal_49 {X : Xt} {E : En} (g : GG X E 5 b_FR_deal R_FR 7) {k49 : Int32 → Int32 → Int32 → Sto → Option (Int32 × Sto)} (hk49 : ∀ (v2 : Int32) (v3 : Int32) (v4 : Int32) (σ : Sto), VV X E b_FR_deal 7 eI 49 [(0, .ref (E.2.1 0)), (2, .int v2), (3, .int v3), (4, .int v4)] [] σ (k49 v2 v3 v4 σ)) (v2 : Int32) (v3 : Int32) (v4 : Int32) (σ : Sto) : VV X E b_FR_deal 7 eI 49 [(0, .ref (E.2.1 0)), (2, .int v2), (3, .int v3), (4, .int v4)] [] σ (B_FR_deal_49 k49 v2 v3 v4 σ) := by
  unfold B_FR_deal_49
  refine v_iload 3 g d_FR_deal_49 rfl ?_
  refine v_iload_n 1 g d_FR_deal_51 rfl ?_
  refine v_icmp_ge 108 g d_FR_deal_52 (by decide) (fun _ => ?_) (fun _ => ?_)
  · refine v_aload_n 0 g d_FR_deal_108 rfl ?_
    refine v_getR 1 g ff_FR_10 rfl rfl rfl d_FR_deal_109 ?_
    refine v_getI g ff_FR_241 rfl rfl d_FR_deal_112 ?_
    exact v_ret d_FR_deal_115 rfl
  · refine v_aload_n 0 g d_FR_deal_55 rfl ?_
    refine v_getR 33 g ff_FR_61 rfl rfl rfl d_FR_deal_56 ?_
    refine v_callI (r_V (rest := []) [] g (m1 956 (by decide +kernel) (by decide +kernel)) yv_Lot_draw rfl (fun r σ1 h => sp_Lot_draw g.2.2.1  h) rfl rfl (by decide) (Nat.le_of_ble_eq_true rfl) d_FR_deal_59) (fun q2 => ?_)
    refine v_bipush (v := (6 : Int32)) g d_FR_deal_62 (by decide +kernel) ?_
    refine v_irem g d_FR_deal_64 (fun _ => ?_)
    refine v_istore [(5, .int (irm q2.1 (6 : Int32))), (0, .ref (E.2.1 0)), (2, .int v2), (3, .int v3), (4, .int v4)] g d_FR_deal_65 (by decide) rfl ?_
    refine v_aload_n 1 g d_FR_deal_67 rfl ?_
    refine v_getR 33 g ff_FR_61 rfl rfl rfl d_FR_deal_68 ?_
    refine v_callI (r_V (rest := []) [] g (m1 956 (by decide +kernel) (by decide +kernel)) yv_Lot_draw rfl (fun r σ1 h => sp_Lot_draw g.2.2.1  h) rfl rfl (by decide) (Nat.le_of_ble_eq_true rfl) d_FR_deal_71) (fun q3 => ?_)
    refine v_bipush (v := (100 : Int32)) g d_FR_deal_74 (by decide +kernel) ?_
    refine v_irem g d_FR_deal_76 (fun _ => ?_)
    refine v_nlet (fun x4 ex4 => ?_)
    rw [← ex4]
    refine v_istore [(6, .int x4), (5, .int (irm q2.1 (6 : Int32))), (0, .ref (E.2.1 0)), (2, .int v2), (3, .int v3), (4, .int v4)] g d_FR_deal_77 (by decide) rfl ?_
    refine v_aload_n 2 g d_FR_deal_79 rfl ?_
    refine v_getR 33 g ff_FR_61 rfl rfl rfl d_FR_deal_80 ?_
    refine v_aload_n 2 g d_FR_deal_83 rfl ?_
    refine v_getR 1 g ff_FR_10 rfl rfl rfl d_FR_deal_84 ?_
    refine v_aload_n 2 g d_FR_deal_87 rfl ?_
    refine v_getR 1 g ff_FR_10 rfl rfl rfl d_FR_deal_88 ?_
    refine v_iload 1 g d_FR_deal_91 rfl ?_
    refine v_iload 0 g d_FR_deal_93 rfl ?_
    refine v_callI (r_V (rest := [.ref (E.2.1 1), .ref (E.2.1 33)]) [.int (irm q2.1 (6 : Int32)), .int x4] g (m1 374 (by decide +kernel) (by decide +kernel)) yv_Net_add rfl (fun r σ1 h => sp_Net_add g.2.2.1 rfl h) rfl rfl (by decide) (Nat.le_of_ble_eq_true rfl) d_FR_deal_95) (fun q5 => ?_)
    refine v_iload_n 4 g d_FR_deal_98 rfl ?_
    refine v_callU (r_V (rest := []) [.ref (E.2.1 1), .int q5.1, .int v3] g (m1 961 (by decide +kernel) (by decide +kernel)) yv_Lot_tieAhead rfl (fun r σ1 h => sp_Lot_tieAhead g.2.2.1 rfl h) rfl rfl (by decide) (Nat.le_of_ble_eq_true rfl) d_FR_deal_99) (fun q6 => ?_)
    refine v_iinc 5 [(4, .int (v4 + (1 : Int32))), (6, .int x4), (5, .int (irm q2.1 (6 : Int32))), (0, .ref (E.2.1 0)), (2, .int v2), (3, .int v3)] g d_FR_deal_102 rfl (v := (1 : Int32)) (by decide +kernel) (by decide) rfl ?_
    refine v_goto 49 g d_FR_deal_105 (by decide) ?_
    exact v_sub [3,4,5,0] rfl (hk49 v2 v3 (v4 + (1 : Int32)) q6.2)
def L_FR_deal_49 : Nat → Int32 → Int32 → Int32 → Sto → Option (Int32 × Sto)
  | 0, _, _, _, _ => none
  | fu + 1, v2, v3, v4, σ => B_FR_deal_49 (L_FR_deal_49 fu) v2 v3 v4 σ
theorem vL_FR_deal_49 {X : Xt} {E : En} (g : GG X E 5 b_FR_deal R_FR 7) (fu : Nat) : ∀ (v2 : Int32) (v3 : Int32) (v4 : Int32) (σ : Sto), VV X E b_FR_deal 7 eI 49 [(0, .ref (E.2.1 0)), (2, .int v2), (3, .int v3), (4, .int v4)] [] σ (L_FR_deal_49 fu v2 v3 v4 σ) := by
  induction fu with
  | zero => intros; exact v_none
  | succ fu ih =>
    intro v2 v3 v4 σ
    exact vB_FR_deal_49 g ih v2 v3 v4 σ
def B_FR_deal_0 (a1 : Int32) (a2 : Int32) (a3 : Int32) (σ : Sto) : Option (Int32 × Sto) :=
  (if a2 < (1 : Int32) then some ((-2 : Int32), σ)
 else (if (40 : Int32) < a2 then some ((-2 : Int32), σ)
  else ((f_FR_isOdds a3 σ).bind fun q1 => (if (b2i q1.1) = 0 then some ((-2 : Int32), q1.2)
   else (if ((gI q1.2 1 0) + a2) ≤ (40 : Int32) then L_FR_deal_49 LF a2 a3 (0 : Int32) (sI q1.2 33 0 a1)
    else some ((-4 : Int32), q1.2))))))
set_option maxHeartbeats 4000000 in
set_option maxRecDepth 100000 in
theorem vB_FR_deal_0 {X : Xt} {E : En} (g : GG X E 5 b_FR_deal R_FR 7) (a1 : Int32) (a2 : Int32) (a3 : Int32) (σ : Sto) : VV X E b_FR_deal 7 eI 0 [(0, .ref (E.2.1 0)), (1, .int a1), (2, .int a2), (3, .int a3)] [] σ (B_FR_deal_0 a1 a2 a3 σ) := by
  unfold B_FR_deal_0
  refine v_iload_n 2 g d_FR_deal_0 rfl ?_
  refine v_iconst (v := (1 : Int32)) g d_FR_deal_1 (by decide +kernel) ?_
  refine v_icmp_lt 18 g d_FR_deal_2 (by decide) (fun _ => ?_) (fun _ => ?_)
  · refine v_bipush (v := (-2 : Int32)) g d_FR_deal_18 (by decide +kernel) ?_
    exact v_ret d_FR_deal_20 rfl
  · refine v_iload_n 2 g d_FR_deal_5 rfl ?_
    refine v_bipush (v := (40 : Int32)) g d_FR_deal_6 (by decide +kernel) ?_
    refine v_icmp_gt 18 g d_FR_deal_8 (by decide) (fun _ => ?_) (fun _ => ?_)
    · refine v_bipush (v := (-2 : Int32)) g d_FR_deal_18 (by decide +kernel) ?_
      exact v_ret d_FR_deal_20 rfl
    · refine v_iload_n 3 g d_FR_deal_11 rfl ?_
      refine v_callB (r_S (rest := []) [.int a3] g (m1 953 (by decide +kernel) (by decide +kernel)) ys_FR_isOdds (fun r σ1 h => sp_FR_isOdds g.2.2.1  h) rfl rfl (by decide) (Nat.le_of_ble_eq_true rfl) d_FR_deal_12) (fun q1 => ?_)
      refine v_if_ne 21 g d_FR_deal_15 (by decide) (fun _ => ?_) (fun _ => ?_)
      · refine v_aload_n 0 g d_FR_deal_21 rfl ?_
        refine v_getR 1 g ff_FR_10 rfl rfl rfl d_FR_deal_22 ?_
        refine v_getI g ff_FR_241 rfl rfl d_FR_deal_25 ?_
        refine v_iload_n 2 g d_FR_deal_28 rfl ?_
        refine v_iadd g d_FR_deal_29 ?_
        refine v_bipush (v := (40 : Int32)) g d_FR_deal_30 (by decide +kernel) ?_
        refine v_icmp_le 38 g d_FR_deal_32 (by decide) (fun _ => ?_) (fun _ => ?_)
        · refine v_aload_n 0 g d_FR_deal_38 rfl ?_
          refine v_getR 33 g ff_FR_61 rfl rfl rfl d_FR_deal_39 ?_
          refine v_iload_n 1 g d_FR_deal_42 rfl ?_
          refine v_putI g fp_FR_341 rfl rfl d_FR_deal_43 ?_
          refine v_iconst (v := (0 : Int32)) g d_FR_deal_46 (by decide +kernel) ?_
          refine v_istore [(4, .int (0 : Int32)), (0, .ref (E.2.1 0)), (1, .int a1), (2, .int a2), (3, .int a3)] g d_FR_deal_47 (by decide) rfl ?_
          exact v_sub [1,3,4,0] rfl (vL_FR_deal_49 g LF a2 a3 (0 : Int32) (sI q1.2 33 0 a1))
        · refine v_bipush (v := (-4 : Int32)) g d_FR_deal_35 (by decide +kernel) ?_
          exact v_ret d_FR_deal_37 rfl
      · refine v_bipush (v := (-2 : Int32)) g d_FR_deal_18 (by decide +kernel) ?_
        exact v_ret d_FR_deal_20 rfl
def f_FR_deal (a1 : Int32) (a2 : Int32) (a3 : Int32) (σ : Sto) : Option (Int32 × Sto) := B_FR_deal_0 a1 a2 a3 σ
theorem sp_FR_deal {l : Launch} {E : En} (hE : Dj E) {a1 : Int32} {a2 : Int32} {a3 : Int32} {σ : Sto} {r : Int32} {σ' : Sto} (h : f_FR_deal a1 a2 a3 σ = some (r, σ')) : Ct l E y_FR_deal (wsM y_FR_deal b_FR_deal 7 (some .int)) 5 [.ref (E.2.1 0), .int a1, .int a2, .int a3] σ (eI r) σ' :=
  ct_of hE (by decide +kernel) (Nat.le_of_ble_eq_true rfl) (fun x => Or.inl ⟨rfl, x, rfl⟩) (fun X _ g => vB_FR_deal_0 g a1 a2 a3 σ) r σ' h
/-! method FittingRings.mean(IIIII)J -/
theorem yv_FR_mean : YV y_FR_mean b_FR_mean 9 (some .long) 5 9 := ⟨m1 968 (by decide +kernel) (by decide +kernel), m1 969 (by decide +kernel) (by decide +kernel), ini_FR, m1 970 (by decide +kernel) (by decide +kernel), ⟨by decide +kernel, by decide +kernel, by decide +kernel⟩, by decide, by decide, T_FR, 11, rfl⟩
theorem d_FR_mean_0 : decode b_FR_mean 0 = .ok (.iload_n 2, 1) := by decide +kernel
theorem d_FR_mean_1 : decode b_FR_mean 1 = .ok (.iconst 1, 1) := by decide +kernel
theorem d_FR_mean_2 : decode b_FR_mean 2 = .ok (.if_icmp .lt 35, 3) := by decide +kernel
theorem d_FR_mean_5 : decode b_FR_mean 5 = .ok (.iload_n 2, 1) := by decide +kernel
theorem d_FR_mean_6 : decode b_FR_mean 6 = .ok (.bipush 12, 2) := by decide +kernel
theorem d_FR_mean_8 : decode b_FR_mean 8 = .ok (.if_icmp .gt 29, 3) := by decide +kernel
theorem d_FR_mean_11 : decode b_FR_mean 11 = .ok (.iload_n 3, 1) := by decide +kernel
theorem d_FR_mean_12 : decode b_FR_mean 12 = .ok (.ifCond .lt 25, 3) := by decide +kernel
theorem d_FR_mean_15 : decode b_FR_mean 15 = .ok (.iload_n 3, 1) := by decide +kernel
theorem d_FR_mean_16 : decode b_FR_mean 16 = .ok (.bipush 10, 2) := by decide +kernel
theorem d_FR_mean_18 : decode b_FR_mean 18 = .ok (.if_icmp .gt 19, 3) := by decide +kernel
theorem d_FR_mean_21 : decode b_FR_mean 21 = .ok (.iload 4, 2) := by decide +kernel
theorem d_FR_mean_23 : decode b_FR_mean 23 = .ok (.invokestatic 338, 3) := by decide +kernel
theorem d_FR_mean_26 : decode b_FR_mean 26 = .ok (.ifCond .eq 11, 3) := by decide +kernel
theorem d_FR_mean_29 : decode b_FR_mean 29 = .ok (.iload 5, 2) := by decide +kernel
theorem d_FR_mean_31 : decode b_FR_mean 31 = .ok (.invokestatic 118, 3) := by decide +kernel
theorem d_FR_mean_34 : decode b_FR_mean 34 = .ok (.ifCond .ne 7, 3) := by decide +kernel
theorem d_FR_mean_37 : decode b_FR_mean 37 = .ok (.ldc2_w 146, 3) := by decide +kernel
theorem d_FR_mean_40 : decode b_FR_mean 40 = .ok (.lreturn, 1) := by decide +kernel
theorem d_FR_mean_41 : decode b_FR_mean 41 = .ok (.aload_n 0, 1) := by decide +kernel
theorem d_FR_mean_42 : decode b_FR_mean 42 = .ok (.getfield 61, 3) := by decide +kernel
theorem d_FR_mean_45 : decode b_FR_mean 45 = .ok (.iload_n 1, 1) := by decide +kernel
theorem d_FR_mean_46 : decode b_FR_mean 46 = .ok (.putfield 341, 3) := by decide +kernel
theorem d_FR_mean_49 : decode b_FR_mean 49 = .ok (.iconst 0, 1) := by decide +kernel
theorem d_FR_mean_50 : decode b_FR_mean 50 = .ok (.istore 6, 2) := by decide +kernel
theorem d_FR_mean_52 : decode b_FR_mean 52 = .ok (.iconst 0, 1) := by decide +kernel
theorem d_FR_mean_53 : decode b_FR_mean 53 = .ok (.istore 7, 2) := by decide +kernel
theorem d_FR_mean_55 : decode b_FR_mean 55 = .ok (.iload 7, 2) := by decide +kernel
theorem d_FR_mean_57 : decode b_FR_mean 57 = .ok (.iload_n 2, 1) := by decide +kernel
theorem d_FR_mean_58 : decode b_FR_mean 58 = .ok (.if_icmp .ge 79, 3) := by decide +kernel
theorem d_FR_mean_61 : decode b_FR_mean 61 = .ok (.aload_n 0, 1) := by decide +kernel
theorem d_FR_mean_62 : decode b_FR_mean 62 = .ok (.getfield 19, 3) := by decide +kernel
theorem d_FR_mean_65 : decode b_FR_mean 65 = .ok (.iconst 0, 1) := by decide +kernel
theorem d_FR_mean_66 : decode b_FR_mean 66 = .ok (.putfield 241, 3) := by decide +kernel
theorem d_FR_mean_69 : decode b_FR_mean 69 = .ok (.iconst 0, 1) := by decide +kernel
theorem d_FR_mean_70 : decode b_FR_mean 70 = .ok (.istore 8, 2) := by decide +kernel
theorem d_FR_mean_72 : decode b_FR_mean 72 = .ok (.iload 8, 2) := by decide +kernel
theorem d_FR_mean_74 : decode b_FR_mean 74 = .ok (.iload_n 3, 1) := by decide +kernel
theorem d_FR_mean_75 : decode b_FR_mean 75 = .ok (.if_icmp .ge 31, 3) := by decide +kernel
theorem d_FR_mean_78 : decode b_FR_mean 78 = .ok (.aload_n 0, 1) := by decide +kernel
theorem d_FR_mean_79 : decode b_FR_mean 79 = .ok (.getfield 61, 3) := by decide +kernel
theorem d_FR_mean_82 : decode b_FR_mean 82 = .ok (.aload_n 0, 1) := by decide +kernel
theorem d_FR_mean_83 : decode b_FR_mean 83 = .ok (.getfield 19, 3) := by decide +kernel
theorem d_FR_mean_86 : decode b_FR_mean 86 = .ok (.aload_n 0, 1) := by decide +kernel
theorem d_FR_mean_87 : decode b_FR_mean 87 = .ok (.getfield 19, 3) := by decide +kernel
theorem d_FR_mean_90 : decode b_FR_mean 90 = .ok (.iconst 0, 1) := by decide +kernel
theorem d_FR_mean_91 : decode b_FR_mean 91 = .ok (.iconst 0, 1) := by decide +kernel
theorem d_FR_mean_92 : decode b_FR_mean 92 = .ok (.invokevirtual 86, 3) := by decide +kernel
theorem d_FR_mean_95 : decode b_FR_mean 95 = .ok (.iload 4, 2) := by decide +kernel
theorem d_FR_mean_97 : decode b_FR_mean 97 = .ok (.invokevirtual 347, 3) := by decide +kernel
theorem d_FR_mean_100 : decode b_FR_mean 100 = .ok (.iinc 8 1, 3) := by decide +kernel
theorem d_FR_mean_103 : decode b_FR_mean 103 = .ok (.goto (-31), 3) := by decide +kernel
theorem d_FR_mean_106 : decode b_FR_mean 106 = .ok (.iload 6, 2) := by decide +kernel
theorem d_FR_mean_108 : decode b_FR_mean 108 = .ok (.aload_n 0, 1) := by decide +kernel
theorem d_FR_mean_109 : decode b_FR_mean 109 = .ok (.getfield 47, 3) := by decide +kernel
theorem d_FR_mean_112 : decode b_FR_mean 112 = .ok (.aload_n 0, 1) := by decide +kernel
theorem d_FR_mean_113 : decode b_FR_mean 113 = .ok (.getfield 19, 3) := by decide +kernel
theorem d_FR_mean_116 : decode b_FR_mean 116 = .ok (.iconst 0, 1) := by decide +kernel
theorem d_FR_mean_117 : decode b_FR_mean 117 = .ok (.iconst 0, 1) := by decide +kernel
theorem d_FR_mean_118 : decode b_FR_mean 118 = .ok (.aload_n 0, 1) := by decide +kernel
theorem d_FR_mean_119 : decode b_FR_mean 119 = .ok (.getfield 19, 3) := by decide +kernel
theorem d_FR_mean_122 : decode b_FR_mean 122 = .ok (.invokevirtual 351, 3) := by decide +kernel
theorem d_FR_mean_125 : decode b_FR_mean 125 = .ok (.invokevirtual 237, 3) := by decide +kernel
theorem d_FR_mean_128 : decode b_FR_mean 128 = .ok (.iadd, 1) := by decide +kernel
theorem d_FR_mean_129 : decode b_FR_mean 129 = .ok (.istore 6, 2) := by decide +kernel
theorem d_FR_mean_131 : decode b_FR_mean 131 = .ok (.iinc 7 1, 3) := by decide +kernel
theorem d_FR_mean_134 : decode b_FR_mean 134 = .ok (.goto (-79), 3) := by decide +kernel
theorem d_FR_mean_137 : decode b_FR_mean 137 = .ok (.iload 6, 2) := by decide +kernel
theorem d_FR_mean_139 : decode b_FR_mean 139 = .ok (.iload_n 2, 1) := by decide +kernel
theorem d_FR_mean_140 : decode b_FR_mean 140 = .ok (.invokestatic 355, 3) := by decide +kernel
theorem d_FR_mean_143 : decode b_FR_mean 143 = .ok (.istore 7, 2) := by decide +kernel
theorem d_FR_mean_145 : decode b_FR_mean 145 = .ok (.iload 5, 2) := by decide +kernel
theorem d_FR_mean_147 : decode b_FR_mean 147 = .ok (.ifCond .ne 8, 3) := by decide +kernel
theorem d_FR_mean_150 : decode b_FR_mean 150 = .ok (.iload 6, 2) := by decide +kernel
theorem d_FR_mean_152 : decode b_FR_mean 152 = .ok (.goto 4, 3) := by decide +kernel
theorem d_FR_mean_155 : decode b_FR_mean 155 = .ok (.iload_n 2, 1) := by decide +kernel
theorem d_FR_mean_156 : decode b_FR_mean 156 = .ok (.iload 7, 2) := by decide +kernel
theorem d_FR_mean_158 : decode b_FR_mean 158 = .ok (.idiv, 1) := by decide +kernel
theorem d_FR_mean_159 : decode b_FR_mean 159 = .ok (.i2l, 1) := by decide +kernel
theorem d_FR_mean_160 : decode b_FR_mean 160 = .ok (.lreturn, 1) := by decide +kernel
def B_FR_mean_72 (k55 : Int32 → Int32 → Int32 → Int32 → Int32 → Int32 → Sto → Option (Int64 × Sto)) (k72 : Int32 → Int32 → Int32 → Int32 → Int32 → Int32 → Int32 → Sto → Option (Int64 × Sto)) (v2 : Int32) (v3 : Int32) (v4 : Int32) (v5 : Int32) (v6 : Int32) (v7 : Int32) (v8 : Int32) (σ : Sto) : Option (Int64 × Sto) :=
  (if v3 ≤ v8 then ((f_Net_whole 11 σ).bind fun q4 => ((f_Finder_search 11 (0 : Int32) (0 : Int32) q4.1 q4.2).bind fun q5 => k55 v2 v3 v4 v5 (v6 + q5.1) (v7 + (1 : Int32)) q5.2))
 else ((f_Net_add 11 (0 : Int32) (0 : Int32) σ).bind fun q6 => ((f_Lot_tieAhead 11 q6.1 v4 q6.2).bind fun q7 => k72 v2 v3 v4 v5 v6 v7 (v8 + (1 : Int32)) q7.2)))
set_option maxHeartbeats 4000000 in
set_option maxRecDepth 100000 in
theorem vB_FR_mean_72 {X : Xt} {E : En} (g : GG X E 69 b_FR_mean R_FR 9) {k55 : Int32 → Int32 → Int32 → Int32 → Int32 → Int32 → Sto → Option (Int64 × Sto)} {k72 : Int32 → Int32 → Int32 → Int32 → Int32 → Int32 → Int32 → Sto → Option (Int64 × Sto)} (hk55 : ∀ (v2 : Int32) (v3 : Int32) (v4 : Int32) (v5 : Int32) (v6 : Int32) (v7 : Int32) (σ : Sto), VV X E b_FR_mean 9 eL 55 [(0, .ref (E.2.1 0)), (2, .int v2), (3, .int v3), (4, .int v4), (5, .int v5), (6, .int v6), (7, .int v7)] [] σ (k55 v2 v3 v4 v5 v6 v7 σ)) (hk72 : ∀ (v2 : Int32) (v3 : Int32) (v4 : Int32) (v5 : Int32) (v6 : Int32) (v7 : Int32) (v8 : Int32) (σ : Sto), VV X E b_FR_mean 9 eL 72 [(0, .ref (E.2.1 0)), (2, .int v2), (3, .int v3), (4, .int v4), (5, .int v5), (6, .int v6), (7, .int v7), (8, .int v8)] [] σ (k72 v2 v3 v4 v5 v6 v7 v8 σ)) (v2 : Int32) (v3 : Int32) (v4 : Int32) (v5 : Int32) (v6 : Int32) (v7 : Int32) (v8 : Int32) (σ : Sto) : VV X E b_FR_mean 9 eL 72 [(0, .ref (E.2.1 0)), (2, .int v2), (3, .int v3), (4, .int v4), (5, .int v5), (6, .int v6), (7, .int v7), (8, .int v8)] [] σ (B_FR_mean_72 k55 k72 v2 v3 v4 v5 v6 v7 v8 σ) := by
  unfold B_FR_mean_72
  refine v_iload 7 g d_FR_mean_72 rfl ?_
  refine v_iload_n 2 g d_FR_mean_74 rfl ?_
  refine v_icmp_ge 106 g d_FR_mean_75 (by decide) (fun _ => ?_) (fun _ => ?_)
  · refine v_iload 5 g d_FR_mean_106 rfl ?_
    refine v_aload_n 0 g d_FR_mean_108 rfl ?_
    refine v_getR 26 g ff_FR_47 rfl rfl rfl d_FR_mean_109 ?_
    refine v_aload_n 0 g d_FR_mean_112 rfl ?_
    refine v_getR 11 g ff_FR_19 rfl rfl rfl d_FR_mean_113 ?_
    refine v_iconst (v := (0 : Int32)) g d_FR_mean_116 (by decide +kernel) ?_
    refine v_iconst (v := (0 : Int32)) g d_FR_mean_117 (by decide +kernel) ?_
    refine v_aload_n 0 g d_FR_mean_118 rfl ?_
    refine v_getR 11 g ff_FR_19 rfl rfl rfl d_FR_mean_119 ?_
    refine v_callL (r_V (rest := [.int (0 : Int32), .int (0 : Int32), .ref (E.2.1 11), .ref (E.2.1 26), .int v6]) [] g (m1 971 (by decide +kernel) (by decide +kernel)) yv_Net_whole rfl (fun r σ1 h => sp_Net_whole g.2.2.1 rfl h) rfl rfl (by decide) (Nat.le_of_ble_eq_true rfl) d_FR_mean_122) (fun q4 => ?_)
    refine v_callI (r_V (rest := [.int v6]) [.ref (E.2.1 11), .int (0 : Int32), .int (0 : Int32), .long q4.1] g (m1 638 (by decide +kernel) (by decide +kernel)) yv_Finder_search rfl (fun r σ1 h => sp_Finder_search g.2.2.1 rfl h) rfl rfl (by decide) (Nat.le_of_ble_eq_true rfl) d_FR_mean_125) (fun q5 => ?_)
    refine v_iadd g d_FR_mean_128 ?_
    refine v_istore [(6, .int (v6 + q5.1)), (0, .ref (E.2.1 0)), (2, .int v2), (3, .int v3), (4, .int v4), (5, .int v5), (7, .int v7), (8, .int v8)] g d_FR_mean_129 (by decide) rfl ?_
    refine v_iinc 6 [(7, .int (v7 + (1 : Int32))), (6, .int (v6 + q5.1)), (0, .ref (E.2.1 0)), (2, .int v2), (3, .int v3), (4, .int v4), (5, .int v5), (8, .int v8)] g d_FR_mean_131 rfl (v := (1 : Int32)) (by decide +kernel) (by decide) rfl ?_
    refine v_goto 55 g d_FR_mean_134 (by decide) ?_
    exact v_sub [2,3,4,5,6,1,0] rfl (hk55 v2 v3 v4 v5 (v6 + q5.1) (v7 + (1 : Int32)) q5.2)
  · refine v_aload_n 0 g d_FR_mean_78 rfl ?_
    refine v_getR 33 g ff_FR_61 rfl rfl rfl d_FR_mean_79 ?_
    refine v_aload_n 0 g d_FR_mean_82 rfl ?_
    refine v_getR 11 g ff_FR_19 rfl rfl rfl d_FR_mean_83 ?_
    refine v_aload_n 0 g d_FR_mean_86 rfl ?_
    refine v_getR 11 g ff_FR_19 rfl rfl rfl d_FR_mean_87 ?_
    refine v_iconst (v := (0 : Int32)) g d_FR_mean_90 (by decide +kernel) ?_
    refine v_iconst (v := (0 : Int32)) g d_FR_mean_91 (by decide +kernel) ?_
    refine v_callI (r_V (rest := [.ref (E.2.1 11), .ref (E.2.1 33)]) [.int (0 : Int32), .int (0 : Int32)] g (m1 374 (by decide +kernel) (by decide +kernel)) yv_Net_add rfl (fun r σ1 h => sp_Net_add g.2.2.1 rfl h) rfl rfl (by decide) (Nat.le_of_ble_eq_true rfl) d_FR_mean_92) (fun q6 => ?_)
    refine v_iload 3 g d_FR_mean_95 rfl ?_
    refine v_callU (r_V (rest := []) [.ref (E.2.1 11), .int q6.1, .int v4] g (m1 961 (by decide +kernel) (by decide +kernel)) yv_Lot_tieAhead rfl (fun r σ1 h => sp_Lot_tieAhead g.2.2.1 rfl h) rfl rfl (by decide) (Nat.le_of_ble_eq_true rfl) d_FR_mean_97) (fun q7 => ?_)
    refine v_iinc 7 [(8, .int (v8 + (1 : Int32))), (0, .ref (E.2.1 0)), (2, .int v2), (3, .int v3), (4, .int v4), (5, .int v5), (6, .int v6), (7, .int v7)] g d_FR_mean_100 rfl (v := (1 : Int32)) (by decide +kernel) (by decide) rfl ?_
    refine v_goto 72 g d_FR_mean_103 (by decide) ?_
    exact v_sub [1,2,3,4,5,6,7,0] rfl (hk72 v2 v3 v4 v5 v6 v7 (v8 + (1 : Int32)) q7.2)
def L_FR_mean_72 (k55 : Int32 → Int32 → Int32 → Int32 → Int32 → Int32 → Sto → Option (Int64 × Sto)) : Nat → Int32 → Int32 → Int32 → Int32 → Int32 → Int32 → Int32 → Sto → Option (Int64 × Sto)
  | 0, _, _, _, _, _, _, _, _ => none
  | fu + 1, v2, v3, v4, v5, v6, v7, v8, σ => B_FR_mean_72 k55 (L_FR_mean_72 k55 fu) v2 v3 v4 v5 v6 v7 v8 σ
theorem vL_FR_mean_72 {X : Xt} {E : En} (g : GG X E 69 b_FR_mean R_FR 9) {k55 : Int32 → Int32 → Int32 → Int32 → Int32 → Int32 → Sto → Option (Int64 × Sto)} (hk55 : ∀ (v2 : Int32) (v3 : Int32) (v4 : Int32) (v5 : Int32) (v6 : Int32) (v7 : Int32) (σ : Sto), VV X E b_FR_mean 9 eL 55 [(0, .ref (E.2.1 0)), (2, .int v2), (3, .int v3), (4, .int v4), (5, .int v5), (6, .int v6), (7, .int v7)] [] σ (k55 v2 v3 v4 v5 v6 v7 σ)) (fu : Nat) : ∀ (v2 : Int32) (v3 : Int32) (v4 : Int32) (v5 : Int32) (v6 : Int32) (v7 : Int32) (v8 : Int32) (σ : Sto), VV X E b_FR_mean 9 eL 72 [(0, .ref (E.2.1 0)), (2, .int v2), (3, .int v3), (4, .int v4), (5, .int v5), (6, .int v6), (7, .int v7), (8, .int v8)] [] σ (L_FR_mean_72 k55 fu v2 v3 v4 v5 v6 v7 v8 σ) := by
  induction fu with
  | zero => intros; exact v_none
  | succ fu ih =>
    intro v2 v3 v4 v5 v6 v7 v8 σ
    exact vB_FR_mean_72 g hk55 ih v2 v3 v4 v5 v6 v7 v8 σ
def B_FR_mean_55 (k55 : Int32 → Int32 → Int32 → Int32 → Int32 → Int32 → Sto → Option (Int64 × Sto)) (v2 : Int32) (v3 : Int32) (v4 : Int32) (v5 : Int32) (v6 : Int32) (v7 : Int32) (σ : Sto) : Option (Int64 × Sto) :=
  (if v2 ≤ v7 then ((f_FR_commonDivisor v6 v2 σ).bind fun q3 => (if v5 = 0 then (if ¬ q3.1 = 0 then some ((Int32.toInt64 (v6 / q3.1)), q3.2) else none)
  else (if ¬ q3.1 = 0 then some ((Int32.toInt64 (v2 / q3.1)), q3.2) else none)))
 else L_FR_mean_72 k55 LF v2 v3 v4 v5 v6 v7 (0 : Int32) (sI σ 11 0 (0 : Int32)))
set_option maxHeartbeats 4000000 in
set_option maxRecDepth 100000 in
theorem vB_FR_mean_55 {X : Xt} {E : En} (g : GG X E 69 b_FR_mean R_FR 9) {k55 : Int32 → Int32 → Int32 → Int32 → Int32 → Int32 → Sto → Option (Int64 × Sto)} (hk55 : ∀ (v2 : Int32) (v3 : Int32) (v4 : Int32) (v5 : Int32) (v6 : Int32) (v7 : Int32) (σ : Sto), VV X E b_FR_mean 9 eL 55 [(0, .ref (E.2.1 0)), (2, .int v2), (3, .int v3), (4, .int v4), (5, .int v5), (6, .int v6), (7, .int v7)] [] σ (k55 v2 v3 v4 v5 v6 v7 σ)) (v2 : Int32) (v3 : Int32) (v4 : Int32) (v5 : Int32) (v6 : Int32) (v7 : Int32) (σ : Sto) : VV X E b_FR_mean 9 eL 55 [(0, .ref (E.2.1 0)), (2, .int v2), (3, .int v3), (4, .int v4), (5, .int v5), (6, .int v6), (7, .int v7)] [] σ (B_FR_mean_55 k55 v2 v3 v4 v5 v6 v7 σ) := by
  unfold B_FR_mean_55
  refine v_iload 6 g d_FR_mean_55 rfl ?_
  refine v_iload_n 1 g d_FR_mean_57 rfl ?_
  refine v_icmp_ge 137 g d_FR_mean_58 (by decide) (fun _ => ?_) (fun _ => ?_)
  · refine v_iload 5 g d_FR_mean_137 rfl ?_
    refine v_iload_n 1 g d_FR_mean_139 rfl ?_
    refine v_callI (r_S (rest := []) [.int v6, .int v2] g (m1 972 (by decide +kernel) (by decide +kernel)) ys_FR_commonDivisor (fun r σ1 h => sp_FR_commonDivisor g.2.2.1  h) rfl rfl (by decide) (Nat.le_of_ble_eq_true rfl) d_FR_mean_140) (fun q3 => ?_)
    refine v_istore [(7, .int q3.1), (0, .ref (E.2.1 0)), (2, .int v2), (3, .int v3), (4, .int v4), (5, .int v5), (6, .int v6)] g d_FR_mean_143 (by decide) rfl ?_
    refine v_iload 5 g d_FR_mean_145 rfl ?_
    refine v_if_ne 155 g d_FR_mean_147 (by decide) (fun _ => ?_) (fun _ => ?_)
    · refine v_iload_n 2 g d_FR_mean_155 rfl ?_
      refine v_iload 0 g d_FR_mean_156 rfl ?_
      refine v_idiv g d_FR_mean_158 (fun _ => ?_)
      refine v_i2l g d_FR_mean_159 ?_
      exact v_ret d_FR_mean_160 rfl
    · refine v_iload 6 g d_FR_mean_150 rfl ?_
      refine v_goto 156 g d_FR_mean_152 (by decide) ?_
      refine v_iload 0 g d_FR_mean_156 rfl ?_
      refine v_idiv g d_FR_mean_158 (fun _ => ?_)
      refine v_i2l g d_FR_mean_159 ?_
      exact v_ret d_FR_mean_160 rfl
  · refine v_aload_n 0 g d_FR_mean_61 rfl ?_
    refine v_getR 11 g ff_FR_19 rfl rfl rfl d_FR_mean_62 ?_
    refine v_iconst (v := (0 : Int32)) g d_FR_mean_65 (by decide +kernel) ?_
    refine v_putI g fp_FR_241 rfl rfl d_FR_mean_66 ?_
    refine v_iconst (v := (0 : Int32)) g d_FR_mean_69 (by decide +kernel) ?_
    refine v_istore [(8, .int (0 : Int32)), (0, .ref (E.2.1 0)), (2, .int v2), (3, .int v3), (4, .int v4), (5, .int v5), (6, .int v6), (7, .int v7)] g d_FR_mean_70 (by decide) rfl ?_
    exact v_sub [1,2,3,4,5,6,7,0] rfl (vL_FR_mean_72 g hk55 LF v2 v3 v4 v5 v6 v7 (0 : Int32) (sI σ 11 0 (0 : Int32)))
def L_FR_mean_55 : Nat → Int32 → Int32 → Int32 → Int32 → Int32 → Int32 → Sto → Option (Int64 × Sto)
  | 0, _, _, _, _, _, _, _ => none
  | fu + 1, v2, v3, v4, v5, v6, v7, σ => B_FR_mean_55 (L_FR_mean_55 fu) v2 v3 v4 v5 v6 v7 σ
theorem vL_FR_mean_55 {X : Xt} {E : En} (g : GG X E 69 b_FR_mean R_FR 9) (fu : Nat) : ∀ (v2 : Int32) (v3 : Int32) (v4 : Int32) (v5 : Int32) (v6 : Int32) (v7 : Int32) (σ : Sto), VV X E b_FR_mean 9 eL 55 [(0, .ref (E.2.1 0)), (2, .int v2), (3, .int v3), (4, .int v4), (5, .int v5), (6, .int v6), (7, .int v7)] [] σ (L_FR_mean_55 fu v2 v3 v4 v5 v6 v7 σ) := by
  induction fu with
  | zero => intros; exact v_none
  | succ fu ih =>
    intro v2 v3 v4 v5 v6 v7 σ
    exact vB_FR_mean_55 g ih v2 v3 v4 v5 v6 v7 σ
def B_FR_mean_0 (a1 : Int32) (a2 : Int32) (a3 : Int32) (a4 : Int32) (a5 : Int32) (σ : Sto) : Option (Int64 × Sto) :=
  (if a2 < (1 : Int32) then some ((-2 : Int64), σ)
 else (if (12 : Int32) < a2 then some ((-2 : Int64), σ)
  else (if a3 < 0 then some ((-2 : Int64), σ)
   else (if (10 : Int32) < a3 then some ((-2 : Int64), σ)
    else ((f_FR_isOdds a4 σ).bind fun q1 => (if (b2i q1.1) = 0 then some ((-2 : Int64), q1.2)
     else ((f_FR_isBit a5 q1.2).bind fun q2 => (if (b2i q2.1) = 0 then some ((-2 : Int64), q2.2)
      else L_FR_mean_55 LF a2 a3 a4 a5 (0 : Int32) (0 : Int32) (sI q2.2 33 0 a1)))))))))
set_option maxHeartbeats 4000000 in
set_option maxRecDepth 100000 in
theorem vB_FR_mean_0 {X : Xt} {E : En} (g : GG X E 69 b_FR_mean R_FR 9) (a1 : Int32) (a2 : Int32) (a3 : Int32) (a4 : Int32) (a5 : Int32) (σ : Sto) : VV X E b_FR_mean 9 eL 0 [(0, .ref (E.2.1 0)), (1, .int a1), (2, .int a2), (3, .int a3), (4, .int a4), (5, .int a5)] [] σ (B_FR_mean_0 a1 a2 a3 a4 a5 σ) := by
  unfold B_FR_mean_0
  refine v_iload_n 2 g d_FR_mean_0 rfl ?_
  refine v_iconst (v := (1 : Int32)) g d_FR_mean_1 (by decide +kernel) ?_
  refine v_icmp_lt 37 g d_FR_mean_2 (by decide) (fun _ => ?_) (fun _ => ?_)
  · refine v_ldc2 (v := (-2 : Int64)) g (m1 456 (by decide +kernel) (by decide +kernel)) d_FR_mean_37 ?_
    exact v_ret d_FR_mean_40 rfl
  · refine v_iload_n 2 g d_FR_mean_5 rfl ?_
    refine v_bipush (v := (12 : Int32)) g d_FR_mean_6 (by decide +kernel) ?_
    refine v_icmp_gt 37 g d_FR_mean_8 (by decide) (fun _ => ?_) (fun _ => ?_)
    · refine v_ldc2 (v := (-2 : Int64)) g (m1 456 (by decide +kernel) (by decide +kernel)) d_FR_mean_37 ?_
      exact v_ret d_FR_mean_40 rfl
    · refine v_iload_n 3 g d_FR_mean_11 rfl ?_
      refine v_if_lt 37 g d_FR_mean_12 (by decide) (fun _ => ?_) (fun _ => ?_)
      · refine v_ldc2 (v := (-2 : Int64)) g (m1 456 (by decide +kernel) (by decide +kernel)) d_FR_mean_37 ?_
        exact v_ret d_FR_mean_40 rfl
      · refine v_iload_n 3 g d_FR_mean_15 rfl ?_
        refine v_bipush (v := (10 : Int32)) g d_FR_mean_16 (by decide +kernel) ?_
        refine v_icmp_gt 37 g d_FR_mean_18 (by decide) (fun _ => ?_) (fun _ => ?_)
        · refine v_ldc2 (v := (-2 : Int64)) g (m1 456 (by decide +kernel) (by decide +kernel)) d_FR_mean_37 ?_
          exact v_ret d_FR_mean_40 rfl
        · refine v_iload 4 g d_FR_mean_21 rfl ?_
          refine v_callB (r_S (rest := []) [.int a4] g (m1 953 (by decide +kernel) (by decide +kernel)) ys_FR_isOdds (fun r σ1 h => sp_FR_isOdds g.2.2.1  h) rfl rfl (by decide) (Nat.le_of_ble_eq_true rfl) d_FR_mean_23) (fun q1 => ?_)
          refine v_if_eq 37 g d_FR_mean_26 (by decide) (fun _ => ?_) (fun _ => ?_)
          · refine v_ldc2 (v := (-2 : Int64)) g (m1 456 (by decide +kernel) (by decide +kernel)) d_FR_mean_37 ?_
            exact v_ret d_FR_mean_40 rfl
          · refine v_iload 5 g d_FR_mean_29 rfl ?_
            refine v_callB (r_S (rest := []) [.int a5] g (m1 414 (by decide +kernel) (by decide +kernel)) ys_FR_isBit (fun r σ1 h => sp_FR_isBit g.2.2.1  h) rfl rfl (by decide) (Nat.le_of_ble_eq_true rfl) d_FR_mean_31) (fun q2 => ?_)
            refine v_if_ne 41 g d_FR_mean_34 (by decide) (fun _ => ?_) (fun _ => ?_)
            · refine v_aload_n 0 g d_FR_mean_41 rfl ?_
              refine v_getR 33 g ff_FR_61 rfl rfl rfl d_FR_mean_42 ?_
              refine v_iload_n 1 g d_FR_mean_45 rfl ?_
              refine v_putI g fp_FR_341 rfl rfl d_FR_mean_46 ?_
              refine v_iconst (v := (0 : Int32)) g d_FR_mean_49 (by decide +kernel) ?_
              refine v_istore [(6, .int (0 : Int32)), (0, .ref (E.2.1 0)), (1, .int a1), (2, .int a2), (3, .int a3), (4, .int a4), (5, .int a5)] g d_FR_mean_50 (by decide) rfl ?_
              refine v_iconst (v := (0 : Int32)) g d_FR_mean_52 (by decide +kernel) ?_
              refine v_istore [(7, .int (0 : Int32)), (6, .int (0 : Int32)), (0, .ref (E.2.1 0)), (1, .int a1), (2, .int a2), (3, .int a3), (4, .int a4), (5, .int a5)] g d_FR_mean_53 (by decide) rfl ?_
              exact v_sub [2,4,5,6,7,1,0] rfl (vL_FR_mean_55 g LF a2 a3 a4 a5 (0 : Int32) (0 : Int32) (sI q2.2 33 0 a1))
            · refine v_ldc2 (v := (-2 : Int64)) g (m1 456 (by decide +kernel) (by decide +kernel)) d_FR_mean_37 ?_
              exact v_ret d_FR_mean_40 rfl
def f_FR_mean (a1 : Int32) (a2 : Int32) (a3 : Int32) (a4 : Int32) (a5 : Int32) (σ : Sto) : Option (Int64 × Sto) := B_FR_mean_0 a1 a2 a3 a4 a5 σ
theorem sp_FR_mean {l : Launch} {E : En} (hE : Dj E) {a1 : Int32} {a2 : Int32} {a3 : Int32} {a4 : Int32} {a5 : Int32} {σ : Sto} {r : Int64} {σ' : Sto} (h : f_FR_mean a1 a2 a3 a4 a5 σ = some (r, σ')) : Ct l E y_FR_mean (wsM y_FR_mean b_FR_mean 9 (some .long)) 69 [.ref (E.2.1 0), .int a1, .int a2, .int a3, .int a4, .int a5] σ (eL r) σ' :=
  ct_of hE (by decide +kernel) (Nat.le_of_ble_eq_true rfl) (fun x => Or.inr (Or.inr (Or.inl ⟨rfl, x, rfl⟩))) (fun X _ g => vB_FR_mean_0 g a1 a2 a3 a4 a5 σ) r σ' h
/-! method FittingRings.hold(IIJ)I -/
theorem yv_FR_hold : YV y_FR_hold b_FR_hold 7 (some .int) 3 9 := ⟨m1 977 (by decide +kernel) (by decide +kernel), m1 978 (by decide +kernel) (by decide +kernel), ini_FR, m1 979 (by decide +kernel) (by decide +kernel), ⟨by decide +kernel, by decide +kernel, by decide +kernel⟩, by decide, by decide, T_FR, 11, rfl⟩
theorem d_FR_hold_0 : decode b_FR_hold 0 = .ok (.iload_n 1, 1) := by decide +kernel
theorem d_FR_hold_1 : decode b_FR_hold 1 = .ok (.invokestatic 358, 3) := by decide +kernel
theorem d_FR_hold_4 : decode b_FR_hold 4 = .ok (.ifCond .eq 12, 3) := by decide +kernel
theorem d_FR_hold_7 : decode b_FR_hold 7 = .ok (.iload_n 2, 1) := by decide +kernel
theorem d_FR_hold_8 : decode b_FR_hold 8 = .ok (.ifCond .lt 8, 3) := by decide +kernel
theorem d_FR_hold_11 : decode b_FR_hold 11 = .ok (.iload_n 2, 1) := by decide +kernel
theorem d_FR_hold_12 : decode b_FR_hold 12 = .ok (.iconst 3, 1) := by decide +kernel
theorem d_FR_hold_13 : decode b_FR_hold 13 = .ok (.if_icmp .le 6, 3) := by decide +kernel
theorem d_FR_hold_16 : decode b_FR_hold 16 = .ok (.bipush (-2), 2) := by decide +kernel
theorem d_FR_hold_18 : decode b_FR_hold 18 = .ok (.ireturn, 1) := by decide +kernel
theorem d_FR_hold_19 : decode b_FR_hold 19 = .ok (.iload_n 2, 1) := by decide +kernel
theorem d_FR_hold_20 : decode b_FR_hold 20 = .ok (.iconst 1, 1) := by decide +kernel
theorem d_FR_hold_21 : decode b_FR_hold 21 = .ok (.if_icmp .ne 14, 3) := by decide +kernel
theorem d_FR_hold_24 : decode b_FR_hold 24 = .ok (.aload_n 0, 1) := by decide +kernel
theorem d_FR_hold_25 : decode b_FR_hold 25 = .ok (.getfield 10, 3) := by decide +kernel
theorem d_FR_hold_28 : decode b_FR_hold 28 = .ok (.lload_n 3, 1) := by decide +kernel
theorem d_FR_hold_29 : decode b_FR_hold 29 = .ok (.invokevirtual 90, 3) := by decide +kernel
theorem d_FR_hold_32 : decode b_FR_hold 32 = .ok (.ifCond .eq 15, 3) := by decide +kernel
theorem d_FR_hold_35 : decode b_FR_hold 35 = .ok (.iload_n 2, 1) := by decide +kernel
theorem d_FR_hold_36 : decode b_FR_hold 36 = .ok (.iconst 2, 1) := by decide +kernel
theorem d_FR_hold_37 : decode b_FR_hold 37 = .ok (.if_icmp .ne 13, 3) := by decide +kernel
theorem d_FR_hold_40 : decode b_FR_hold 40 = .ok (.lload_n 3, 1) := by decide +kernel
theorem d_FR_hold_41 : decode b_FR_hold 41 = .ok (.invokestatic 202, 3) := by decide +kernel
theorem d_FR_hold_44 : decode b_FR_hold 44 = .ok (.ifCond .ne 6, 3) := by decide +kernel
theorem d_FR_hold_47 : decode b_FR_hold 47 = .ok (.bipush (-2), 2) := by decide +kernel
theorem d_FR_hold_49 : decode b_FR_hold 49 = .ok (.ireturn, 1) := by decide +kernel
theorem d_FR_hold_50 : decode b_FR_hold 50 = .ok (.aload_n 0, 1) := by decide +kernel
theorem d_FR_hold_51 : decode b_FR_hold 51 = .ok (.getfield 73, 3) := by decide +kernel
theorem d_FR_hold_54 : decode b_FR_hold 54 = .ok (.iload_n 1, 1) := by decide +kernel
theorem d_FR_hold_55 : decode b_FR_hold 55 = .ok (.aaload, 1) := by decide +kernel
theorem d_FR_hold_56 : decode b_FR_hold 56 = .ok (.astore 5, 2) := by decide +kernel
theorem d_FR_hold_58 : decode b_FR_hold 58 = .ok (.aload 5, 2) := by decide +kernel
theorem d_FR_hold_60 : decode b_FR_hold 60 = .ok (.getfield 361, 3) := by decide +kernel
theorem d_FR_hold_63 : decode b_FR_hold 63 = .ok (.istore 6, 2) := by decide +kernel
theorem d_FR_hold_65 : decode b_FR_hold 65 = .ok (.aload 5, 2) := by decide +kernel
theorem d_FR_hold_67 : decode b_FR_hold 67 = .ok (.iload_n 2, 1) := by decide +kernel
theorem d_FR_hold_68 : decode b_FR_hold 68 = .ok (.putfield 361, 3) := by decide +kernel
theorem d_FR_hold_71 : decode b_FR_hold 71 = .ok (.aload 5, 2) := by decide +kernel
theorem d_FR_hold_73 : decode b_FR_hold 73 = .ok (.lload_n 3, 1) := by decide +kernel
theorem d_FR_hold_74 : decode b_FR_hold 74 = .ok (.putfield 364, 3) := by decide +kernel
theorem d_FR_hold_77 : decode b_FR_hold 77 = .ok (.iload_n 2, 1) := by decide +kernel
theorem d_FR_hold_78 : decode b_FR_hold 78 = .ok (.iconst 1, 1) := by decide +kernel
theorem d_FR_hold_79 : decode b_FR_hold 79 = .ok (.if_icmp .ne 33, 3) := by decide +kernel
theorem d_FR_hold_82 : decode b_FR_hold 82 = .ok (.aload 5, 2) := by decide +kernel
theorem d_FR_hold_84 : decode b_FR_hold 84 = .ok (.aload_n 0, 1) := by decide +kernel
theorem d_FR_hold_85 : decode b_FR_hold 85 = .ok (.getfield 10, 3) := by decide +kernel
theorem d_FR_hold_88 : decode b_FR_hold 88 = .ok (.getfield 94, 3) := by decide +kernel
theorem d_FR_hold_91 : decode b_FR_hold 91 = .ok (.lload_n 3, 1) := by decide +kernel
theorem d_FR_hold_92 : decode b_FR_hold 92 = .ok (.l2i, 1) := by decide +kernel
theorem d_FR_hold_93 : decode b_FR_hold 93 = .ok (.iaload, 1) := by decide +kernel
theorem d_FR_hold_94 : decode b_FR_hold 94 = .ok (.putfield 368, 3) := by decide +kernel
theorem d_FR_hold_97 : decode b_FR_hold 97 = .ok (.aload 5, 2) := by decide +kernel
theorem d_FR_hold_99 : decode b_FR_hold 99 = .ok (.aload_n 0, 1) := by decide +kernel
theorem d_FR_hold_100 : decode b_FR_hold 100 = .ok (.getfield 10, 3) := by decide +kernel
theorem d_FR_hold_103 : decode b_FR_hold 103 = .ok (.getfield 98, 3) := by decide +kernel
theorem d_FR_hold_106 : decode b_FR_hold 106 = .ok (.lload_n 3, 1) := by decide +kernel
theorem d_FR_hold_107 : decode b_FR_hold 107 = .ok (.l2i, 1) := by decide +kernel
theorem d_FR_hold_108 : decode b_FR_hold 108 = .ok (.iaload, 1) := by decide +kernel
theorem d_FR_hold_109 : decode b_FR_hold 109 = .ok (.putfield 371, 3) := by decide +kernel
theorem d_FR_hold_112 : decode b_FR_hold 112 = .ok (.iload 6, 2) := by decide +kernel
theorem d_FR_hold_114 : decode b_FR_hold 114 = .ok (.ireturn, 1) := by decide +kernel
def B_FR_hold_50 (v1 : Int32) (v2 : Int32) (v3 : Int64) (σ : Sto) : Option (Int32 × Sto) :=
  (if inb v1 4 = true then (lt1 (gI σ (44 + Int32.toNatClampNeg v1) 0) fun x6 => (lt1 (sL (sI σ (44 + Int32.toNatClampNeg v1) 0 v2) (44 + Int32.toNatClampNeg v1) 1 v3) fun σ7 => (if v2 = (1 : Int32) then (if inb (Int64.toInt32 v3) 40 = true then (lt1 (sI σ7 (44 + Int32.toNatClampNeg v1) 2 (gI σ7 2 (Int32.toNatClampNeg (Int64.toInt32 v3)))) fun σ8 => (if inb (Int64.toInt32 v3) 40 = true then (lt1 (sI σ8 (44 + Int32.toNatClampNeg v1) 3 (gI σ8 3 (Int32.toNatClampNeg (Int64.toInt32 v3)))) fun σ9 => some (x6, σ9)) else none)) else none)
 else some (x6, σ7)))) else none)
set_option maxHeartbeats 4000000 in
set_option maxRecDepth 100000 in
theorem vB_FR_hold_50 {X : Xt} {E : En} (g : GG X E 2 b_FR_hold R_FR 7) (v1 : Int32) (v2 : Int32) (v3 : Int64) (σ : Sto) : VV X E b_FR_hold 7 eI 50 [(0, .ref (E.2.1 0)), (1, .int v1), (2, .int v2), (3, .long v3)] [] σ (B_FR_hold_50 v1 v2 v3 σ) := by
  unfold B_FR_hold_50
  refine v_aload_n 0 g d_FR_hold_50 rfl ?_
  refine v_getR 35 g ff_FR_73 rfl rfl rfl d_FR_hold_51 ?_
  refine v_iload_n 1 g d_FR_hold_54 rfl ?_
  refine v_aaldH g d_FR_hold_55 (fun h5 => ?_)
  refine v_astore [(5, .ref (E.2.1 (44 + Int32.toNatClampNeg v1))), (0, .ref (E.2.1 0)), (1, .int v1), (2, .int v2), (3, .long v3)] g d_FR_hold_56 (by decide) rfl ?_
  refine v_aload 0 g d_FR_hold_58 rfl ?_
  refine v_getI g ff_FR_361 (cls_ha h5) rfl d_FR_hold_60 ?_
  refine v_nlet (fun x6 ex6 => ?_)
  rw [← ex6]
  refine v_istore [(6, .int x6), (5, .ref (E.2.1 (44 + Int32.toNatClampNeg v1))), (0, .ref (E.2.1 0)), (1, .int v1), (2, .int v2), (3, .long v3)] g d_FR_hold_63 (by decide) rfl ?_
  refine v_aload 1 g d_FR_hold_65 rfl ?_
  refine v_iload_n 4 g d_FR_hold_67 rfl ?_
  refine v_putI g fp_FR_361 (cls_ha h5) rfl d_FR_hold_68 ?_
  refine v_aload 1 g d_FR_hold_71 rfl ?_
  refine v_lload_n 5 g d_FR_hold_73 rfl ?_
  refine v_putL g fp_FR_364 (cls_ha h5) rfl d_FR_hold_74 ?_
  refine v_nlet (fun σ7 eσ7 => ?_)
  rw [← eσ7]
  refine v_iload_n 4 g d_FR_hold_77 rfl ?_
  refine v_iconst (v := (1 : Int32)) g d_FR_hold_78 (by decide +kernel) ?_
  refine v_icmp_ne 112 g d_FR_hold_79 (by decide) (fun _ => ?_) (fun _ => ?_)
  · refine v_iload 0 g d_FR_hold_112 rfl ?_
    exact v_ret d_FR_hold_114 rfl
  · refine v_aload 1 g d_FR_hold_82 rfl ?_
    refine v_aload_n 2 g d_FR_hold_84 rfl ?_
    refine v_getR 1 g ff_FR_10 rfl rfl rfl d_FR_hold_85 ?_
    refine v_getR 2 g ff_FR_94 rfl rfl rfl d_FR_hold_88 ?_
    refine v_lload_n 5 g d_FR_hold_91 rfl ?_
    refine v_l2i g d_FR_hold_92 ?_
    refine v_iald g rfl rfl d_FR_hold_93 (fun _ => ?_)
    refine v_putI g fp_FR_368 (cls_ha h5) rfl d_FR_hold_94 ?_
    refine v_nlet (fun σ8 eσ8 => ?_)
    rw [← eσ8]
    refine v_aload 1 g d_FR_hold_97 rfl ?_
    refine v_aload_n 2 g d_FR_hold_99 rfl ?_
    refine v_getR 1 g ff_FR_10 rfl rfl rfl d_FR_hold_100 ?_
    refine v_getR 3 g ff_FR_98 rfl rfl rfl d_FR_hold_103 ?_
    refine v_lload_n 5 g d_FR_hold_106 rfl ?_
    refine v_l2i g d_FR_hold_107 ?_
    refine v_iald g rfl rfl d_FR_hold_108 (fun _ => ?_)
    refine v_putI g fp_FR_371 (cls_ha h5) rfl d_FR_hold_109 ?_
    refine v_nlet (fun σ9 eσ9 => ?_)
    rw [← eσ9]
    refine v_iload 0 g d_FR_hold_112 rfl ?_
    exact v_ret d_FR_hold_114 rfl
def B_FR_hold_0 (a1 : Int32) (a2 : Int32) (a3 : Int64) (σ : Sto) : Option (Int32 × Sto) :=
  ((f_FR_isHand a1 σ).bind fun q1 => (if (b2i q1.1) = 0 then some ((-2 : Int32), q1.2)
 else (if a2 < 0 then some ((-2 : Int32), q1.2)
  else (if a2 ≤ (3 : Int32) then (if a2 = (1 : Int32) then ((f_Net_has 1 a3 q1.2).bind fun q3 => (if (b2i q3.1) = 0 then some ((-2 : Int32), q3.2)
     else (if a2 = (2 : Int32) then ((f_FR_isRule a3 q3.2).bind fun q4 => (if (b2i q4.1) = 0 then some ((-2 : Int32), q4.2)
       else B_FR_hold_50 a1 a2 a3 q4.2))
      else B_FR_hold_50 a1 a2 a3 q3.2)))
    else (if a2 = (2 : Int32) then ((f_FR_isRule a3 q1.2).bind fun q2 => (if (b2i q2.1) = 0 then some ((-2 : Int32), q2.2)
      else B_FR_hold_50 a1 a2 a3 q2.2))
     else B_FR_hold_50 a1 a2 a3 q1.2))
   else some ((-2 : Int32), q1.2)))))
set_option maxHeartbeats 4000000 in
set_option maxRecDepth 100000 in
theorem vB_FR_hold_0 {X : Xt} {E : En} (g : GG X E 2 b_FR_hold R_FR 7) (a1 : Int32) (a2 : Int32) (a3 : Int64) (σ : Sto) : VV X E b_FR_hold 7 eI 0 [(0, .ref (E.2.1 0)), (1, .int a1), (2, .int a2), (3, .long a3)] [] σ (B_FR_hold_0 a1 a2 a3 σ) := by
  unfold B_FR_hold_0
  refine v_iload_n 1 g d_FR_hold_0 rfl ?_
  refine v_callB (r_S (rest := []) [.int a1] g (m1 980 (by decide +kernel) (by decide +kernel)) ys_FR_isHand (fun r σ1 h => sp_FR_isHand g.2.2.1  h) rfl rfl (by decide) (Nat.le_of_ble_eq_true rfl) d_FR_hold_1) (fun q1 => ?_)
  refine v_if_eq 16 g d_FR_hold_4 (by decide) (fun _ => ?_) (fun _ => ?_)
  · refine v_bipush (v := (-2 : Int32)) g d_FR_hold_16 (by decide +kernel) ?_
    exact v_ret d_FR_hold_18 rfl
  · refine v_iload_n 2 g d_FR_hold_7 rfl ?_
    refine v_if_lt 16 g d_FR_hold_8 (by decide) (fun _ => ?_) (fun _ => ?_)
    · refine v_bipush (v := (-2 : Int32)) g d_FR_hold_16 (by decide +kernel) ?_
      exact v_ret d_FR_hold_18 rfl
    · refine v_iload_n 2 g d_FR_hold_11 rfl ?_
      refine v_iconst (v := (3 : Int32)) g d_FR_hold_12 (by decide +kernel) ?_
      refine v_icmp_le 19 g d_FR_hold_13 (by decide) (fun _ => ?_) (fun _ => ?_)
      · refine v_iload_n 2 g d_FR_hold_19 rfl ?_
        refine v_iconst (v := (1 : Int32)) g d_FR_hold_20 (by decide +kernel) ?_
        refine v_icmp_ne 35 g d_FR_hold_21 (by decide) (fun _ => ?_) (fun _ => ?_)
        · refine v_iload_n 2 g d_FR_hold_35 rfl ?_
          refine v_iconst (v := (2 : Int32)) g d_FR_hold_36 (by decide +kernel) ?_
          refine v_icmp_ne 50 g d_FR_hold_37 (by decide) (fun _ => ?_) (fun _ => ?_)
          · exact v_sub [0,1,2,3] rfl (vB_FR_hold_50 g a1 a2 a3 q1.2)
          · refine v_lload_n 3 g d_FR_hold_40 rfl ?_
            refine v_callB (r_S (rest := []) [.long a3] g (m1 545 (by decide +kernel) (by decide +kernel)) ys_FR_isRule (fun r σ1 h => sp_FR_isRule g.2.2.1  h) rfl rfl (by decide) (Nat.le_of_ble_eq_true rfl) d_FR_hold_41) (fun q2 => ?_)
            refine v_if_ne 50 g d_FR_hold_44 (by decide) (fun _ => ?_) (fun _ => ?_)
            · exact v_sub [0,1,2,3] rfl (vB_FR_hold_50 g a1 a2 a3 q2.2)
            · refine v_bipush (v := (-2 : Int32)) g d_FR_hold_47 (by decide +kernel) ?_
              exact v_ret d_FR_hold_49 rfl
        · refine v_aload_n 0 g d_FR_hold_24 rfl ?_
          refine v_getR 1 g ff_FR_10 rfl rfl rfl d_FR_hold_25 ?_
          refine v_lload_n 3 g d_FR_hold_28 rfl ?_
          refine v_callB (r_V (rest := []) [.long a3] g (m1 399 (by decide +kernel) (by decide +kernel)) yv_Net_has rfl (fun r σ1 h => sp_Net_has g.2.2.1 rfl h) rfl rfl (by decide) (Nat.le_of_ble_eq_true rfl) d_FR_hold_29) (fun q3 => ?_)
          refine v_if_eq 47 g d_FR_hold_32 (by decide) (fun _ => ?_) (fun _ => ?_)
          · refine v_bipush (v := (-2 : Int32)) g d_FR_hold_47 (by decide +kernel) ?_
            exact v_ret d_FR_hold_49 rfl
          · refine v_iload_n 2 g d_FR_hold_35 rfl ?_
            refine v_iconst (v := (2 : Int32)) g d_FR_hold_36 (by decide +kernel) ?_
            refine v_icmp_ne 50 g d_FR_hold_37 (by decide) (fun _ => ?_) (fun _ => ?_)
            · exact v_sub [0,1,2,3] rfl (vB_FR_hold_50 g a1 a2 a3 q3.2)
            · refine v_lload_n 3 g d_FR_hold_40 rfl ?_
              refine v_callB (r_S (rest := []) [.long a3] g (m1 545 (by decide +kernel) (by decide +kernel)) ys_FR_isRule (fun r σ1 h => sp_FR_isRule g.2.2.1  h) rfl rfl (by decide) (Nat.le_of_ble_eq_true rfl) d_FR_hold_41) (fun q4 => ?_)
              refine v_if_ne 50 g d_FR_hold_44 (by decide) (fun _ => ?_) (fun _ => ?_)
              · exact v_sub [0,1,2,3] rfl (vB_FR_hold_50 g a1 a2 a3 q4.2)
              · refine v_bipush (v := (-2 : Int32)) g d_FR_hold_47 (by decide +kernel) ?_
                exact v_ret d_FR_hold_49 rfl
      · refine v_bipush (v := (-2 : Int32)) g d_FR_hold_16 (by decide +kernel) ?_
        exact v_ret d_FR_hold_18 rfl
def f_FR_hold (a1 : Int32) (a2 : Int32) (a3 : Int64) (σ : Sto) : Option (Int32 × Sto) := B_FR_hold_0 a1 a2 a3 σ
theorem sp_FR_hold {l : Launch} {E : En} (hE : Dj E) {a1 : Int32} {a2 : Int32} {a3 : Int64} {σ : Sto} {r : Int32} {σ' : Sto} (h : f_FR_hold a1 a2 a3 σ = some (r, σ')) : Ct l E y_FR_hold (wsM y_FR_hold b_FR_hold 7 (some .int)) 2 [.ref (E.2.1 0), .int a1, .int a2, .long a3] σ (eI r) σ' :=
  ct_of hE (by decide +kernel) (Nat.le_of_ble_eq_true rfl) (fun x => Or.inl ⟨rfl, x, rfl⟩) (fun X _ g => vB_FR_hold_0 g a1 a2 a3 σ) r σ' h
/-! method FittingRings.handAs(II)I -/
theorem yv_FR_handAs : YV y_FR_handAs b_FR_handAs 5 (some .int) 2 9 := ⟨m1 984 (by decide +kernel) (by decide +kernel), m1 985 (by decide +kernel) (by decide +kernel), ini_FR, m1 986 (by decide +kernel) (by decide +kernel), ⟨by decide +kernel, by decide +kernel, by decide +kernel⟩, by decide, by decide, T_FR, 11, rfl⟩
theorem d_FR_handAs_0 : decode b_FR_handAs 0 = .ok (.iload_n 1, 1) := by decide +kernel
theorem d_FR_handAs_1 : decode b_FR_handAs 1 = .ok (.invokestatic 358, 3) := by decide +kernel
theorem d_FR_handAs_4 : decode b_FR_handAs 4 = .ok (.ifCond .eq 10, 3) := by decide +kernel
theorem d_FR_handAs_7 : decode b_FR_handAs 7 = .ok (.iload_n 2, 1) := by decide +kernel
theorem d_FR_handAs_8 : decode b_FR_handAs 8 = .ok (.invokestatic 79, 3) := by decide +kernel
theorem d_FR_handAs_11 : decode b_FR_handAs 11 = .ok (.ifCond .ne 6, 3) := by decide +kernel
theorem d_FR_handAs_14 : decode b_FR_handAs 14 = .ok (.bipush (-2), 2) := by decide +kernel
theorem d_FR_handAs_16 : decode b_FR_handAs 16 = .ok (.ireturn, 1) := by decide +kernel
theorem d_FR_handAs_17 : decode b_FR_handAs 17 = .ok (.aload_n 0, 1) := by decide +kernel
theorem d_FR_handAs_18 : decode b_FR_handAs 18 = .ok (.getfield 73, 3) := by decide +kernel
theorem d_FR_handAs_21 : decode b_FR_handAs 21 = .ok (.iload_n 1, 1) := by decide +kernel
theorem d_FR_handAs_22 : decode b_FR_handAs 22 = .ok (.aaload, 1) := by decide +kernel
theorem d_FR_handAs_23 : decode b_FR_handAs 23 = .ok (.astore_n 3, 1) := by decide +kernel
theorem d_FR_handAs_24 : decode b_FR_handAs 24 = .ok (.aload_n 3, 1) := by decide +kernel
theorem d_FR_handAs_25 : decode b_FR_handAs 25 = .ok (.iconst 1, 1) := by decide +kernel
theorem d_FR_handAs_26 : decode b_FR_handAs 26 = .ok (.invokevirtual 374, 3) := by decide +kernel
theorem d_FR_handAs_29 : decode b_FR_handAs 29 = .ok (.istore 4, 2) := by decide +kernel
theorem d_FR_handAs_31 : decode b_FR_handAs 31 = .ok (.iload 4, 2) := by decide +kernel
theorem d_FR_handAs_33 : decode b_FR_handAs 33 = .ok (.ifCond .eq 6, 3) := by decide +kernel
theorem d_FR_handAs_36 : decode b_FR_handAs 36 = .ok (.iload 4, 2) := by decide +kernel
theorem d_FR_handAs_38 : decode b_FR_handAs 38 = .ok (.ireturn, 1) := by decide +kernel
theorem d_FR_handAs_39 : decode b_FR_handAs 39 = .ok (.aload_n 3, 1) := by decide +kernel
theorem d_FR_handAs_40 : decode b_FR_handAs 40 = .ok (.getfield 368, 3) := by decide +kernel
theorem d_FR_handAs_43 : decode b_FR_handAs 43 = .ok (.iload_n 2, 1) := by decide +kernel
theorem d_FR_handAs_44 : decode b_FR_handAs 44 = .ok (.invokestatic 377, 3) := by decide +kernel
theorem d_FR_handAs_47 : decode b_FR_handAs 47 = .ok (.ifCond .eq 10, 3) := by decide +kernel
theorem d_FR_handAs_50 : decode b_FR_handAs 50 = .ok (.aload_n 3, 1) := by decide +kernel
theorem d_FR_handAs_51 : decode b_FR_handAs 51 = .ok (.getfield 371, 3) := by decide +kernel
theorem d_FR_handAs_54 : decode b_FR_handAs 54 = .ok (.goto 5, 3) := by decide +kernel
theorem d_FR_handAs_57 : decode b_FR_handAs 57 = .ok (.bipush (-13), 2) := by decide +kernel
theorem d_FR_handAs_59 : decode b_FR_handAs 59 = .ok (.ireturn, 1) := by decide +kernel
def B_FR_handAs_0 (a1 : Int32) (a2 : Int32) (σ : Sto) : Option (Int32 × Sto) :=
  ((f_FR_isHand a1 σ).bind fun q1 => (if (b2i q1.1) = 0 then some ((-2 : Int32), q1.2)
 else ((f_FR_isKind a2 q1.2).bind fun q2 => (if (b2i q2.1) = 0 then some ((-2 : Int32), q2.2)
  else (if inb a1 4 = true then ((f_Hand_refusalAs (44 + Int32.toNatClampNeg a1) (1 : Int32) q2.2).bind fun q4 => (if q4.1 = 0 then ((f_FR_isUnder (gI q4.2 (44 + Int32.toNatClampNeg a1) 2) a2 q4.2).bind fun q5 => (if (b2i q5.1) = 0 then some ((-13 : Int32), q5.2)
    else some ((gI q5.2 (44 + Int32.toNatClampNeg a1) 3), q5.2)))
   else some (q4.1, q4.2))) else none)))))
set_option maxHeartbeats 4000000 in
set_option maxRecDepth 100000 in
theorem vB_FR_handAs_0 {X : Xt} {E : En} (g : GG X E 3 b_FR_handAs R_FR 5) (a1 : Int32) (a2 : Int32) (σ : Sto) : VV X E b_FR_handAs 5 eI 0 [(0, .ref (E.2.1 0)), (1, .int a1), (2, .int a2)] [] σ (B_FR_handAs_0 a1 a2 σ) := by
  unfold B_FR_handAs_0
  refine v_iload_n 1 g d_FR_handAs_0 rfl ?_
  refine v_callB (r_S (rest := []) [.int a1] g (m1 980 (by decide +kernel) (by decide +kernel)) ys_FR_isHand (fun r σ1 h => sp_FR_isHand g.2.2.1  h) rfl rfl (by decide) (Nat.le_of_ble_eq_true rfl) d_FR_handAs_1) (fun q1 => ?_)
  refine v_if_eq 14 g d_FR_handAs_4 (by decide) (fun _ => ?_) (fun _ => ?_)
  · refine v_bipush (v := (-2 : Int32)) g d_FR_handAs_14 (by decide +kernel) ?_
    exact v_ret d_FR_handAs_16 rfl
  · refine v_iload_n 2 g d_FR_handAs_7 rfl ?_
    refine v_callB (r_S (rest := []) [.int a2] g (m1 368 (by decide +kernel) (by decide +kernel)) ys_FR_isKind (fun r σ1 h => sp_FR_isKind g.2.2.1  h) rfl rfl (by decide) (Nat.le_of_ble_eq_true rfl) d_FR_handAs_8) (fun q2 => ?_)
    refine v_if_ne 17 g d_FR_handAs_11 (by decide) (fun _ => ?_) (fun _ => ?_)
    · refine v_aload_n 0 g d_FR_handAs_17 rfl ?_
      refine v_getR 35 g ff_FR_73 rfl rfl rfl d_FR_handAs_18 ?_
      refine v_iload_n 1 g d_FR_handAs_21 rfl ?_
      refine v_aaldH g d_FR_handAs_22 (fun h3 => ?_)
      refine v_astore_n [(3, .ref (E.2.1 (44 + Int32.toNatClampNeg a1))), (0, .ref (E.2.1 0)), (1, .int a1), (2, .int a2)] g d_FR_handAs_23 (by decide) rfl ?_
      refine v_aload_n 0 g d_FR_handAs_24 rfl ?_
      refine v_iconst (v := (1 : Int32)) g d_FR_handAs_25 (by decide +kernel) ?_
      refine v_callI (r_V (rest := []) [.int (1 : Int32)] g (m1 987 (by decide +kernel) (by decide +kernel)) yv_Hand_refusalAs (cls_ha h3) (fun r σ1 h => sp_Hand_refusalAs g.2.2.1 (cls_ha h3) h) rfl rfl (by decide) (Nat.le_of_ble_eq_true rfl) d_FR_handAs_26) (fun q4 => ?_)
      refine v_istore [(4, .int q4.1), (3, .ref (E.2.1 (44 + Int32.toNatClampNeg a1))), (0, .ref (E.2.1 0)), (1, .int a1), (2, .int a2)] g d_FR_handAs_29 (by decide) rfl ?_
      refine v_iload 0 g d_FR_handAs_31 rfl ?_
      refine v_if_eq 39 g d_FR_handAs_33 (by decide) (fun _ => ?_) (fun _ => ?_)
      · refine v_aload_n 1 g d_FR_handAs_39 rfl ?_
        refine v_getI g ff_FR_368 (cls_ha h3) rfl d_FR_handAs_40 ?_
        refine v_iload_n 4 g d_FR_handAs_43 rfl ?_
        refine v_callB (r_S (rest := []) [.int (gI q4.2 (44 + Int32.toNatClampNeg a1) 2), .int a2] g (m1 991 (by decide +kernel) (by decide +kernel)) ys_FR_isUnder (fun r σ1 h => sp_FR_isUnder g.2.2.1  h) rfl rfl (by decide) (Nat.le_of_ble_eq_true rfl) d_FR_handAs_44) (fun q5 => ?_)
        refine v_if_eq 57 g d_FR_handAs_47 (by decide) (fun _ => ?_) (fun _ => ?_)
        · refine v_bipush (v := (-13 : Int32)) g d_FR_handAs_57 (by decide +kernel) ?_
          exact v_ret d_FR_handAs_59 rfl
        · refine v_aload_n 1 g d_FR_handAs_50 rfl ?_
          refine v_getI g ff_FR_371 (cls_ha h3) rfl d_FR_handAs_51 ?_
          refine v_goto 59 g d_FR_handAs_54 (by decide) ?_
          exact v_ret d_FR_handAs_59 rfl
      · refine v_iload 0 g d_FR_handAs_36 rfl ?_
        exact v_ret d_FR_handAs_38 rfl
    · refine v_bipush (v := (-2 : Int32)) g d_FR_handAs_14 (by decide +kernel) ?_
      exact v_ret d_FR_handAs_16 rfl
def f_FR_handAs (a1 : Int32) (a2 : Int32) (σ : Sto) : Option (Int32 × Sto) := B_FR_handAs_0 a1 a2 σ
theorem sp_FR_handAs {l : Launch} {E : En} (hE : Dj E) {a1 : Int32} {a2 : Int32} {σ : Sto} {r : Int32} {σ' : Sto} (h : f_FR_handAs a1 a2 σ = some (r, σ')) : Ct l E y_FR_handAs (wsM y_FR_handAs b_FR_handAs 5 (some .int)) 3 [.ref (E.2.1 0), .int a1, .int a2] σ (eI r) σ' :=
  ct_of hE (by decide +kernel) (Nat.le_of_ble_eq_true rfl) (fun x => Or.inl ⟨rfl, x, rfl⟩) (fun X _ g => vB_FR_handAs_0 g a1 a2 σ) r σ' h
/-! method FittingRings.handBound(IIIJ)I -/
theorem yv_FR_handBound : YV y_FR_handBound b_FR_handBound 7 (some .int) 4 9 := ⟨m1 997 (by decide +kernel) (by decide +kernel), m1 998 (by decide +kernel) (by decide +kernel), ini_FR, m1 999 (by decide +kernel) (by decide +kernel), ⟨by decide +kernel, by decide +kernel, by decide +kernel⟩, by decide, by decide, T_FR, 11, rfl⟩
theorem d_FR_handBound_0 : decode b_FR_handBound 0 = .ok (.iload_n 1, 1) := by decide +kernel
theorem d_FR_handBound_1 : decode b_FR_handBound 1 = .ok (.invokestatic 358, 3) := by decide +kernel
theorem d_FR_handBound_4 : decode b_FR_handBound 4 = .ok (.ifCond .eq 14, 3) := by decide +kernel
theorem d_FR_handBound_7 : decode b_FR_handBound 7 = .ok (.aload_n 0, 1) := by decide +kernel
theorem d_FR_handBound_8 : decode b_FR_handBound 8 = .ok (.iload_n 2, 1) := by decide +kernel
theorem d_FR_handBound_9 : decode b_FR_handBound 9 = .ok (.iload_n 3, 1) := by decide +kernel
theorem d_FR_handBound_10 : decode b_FR_handBound 10 = .ok (.lload 4, 2) := by decide +kernel
theorem d_FR_handBound_12 : decode b_FR_handBound 12 = .ok (.invokevirtual 194, 3) := by decide +kernel
theorem d_FR_handBound_15 : decode b_FR_handBound 15 = .ok (.ifCond .ne 6, 3) := by decide +kernel
theorem d_FR_handBound_18 : decode b_FR_handBound 18 = .ok (.bipush (-2), 2) := by decide +kernel
theorem d_FR_handBound_20 : decode b_FR_handBound 20 = .ok (.ireturn, 1) := by decide +kernel
theorem d_FR_handBound_21 : decode b_FR_handBound 21 = .ok (.aload_n 0, 1) := by decide +kernel
theorem d_FR_handBound_22 : decode b_FR_handBound 22 = .ok (.getfield 73, 3) := by decide +kernel
theorem d_FR_handBound_25 : decode b_FR_handBound 25 = .ok (.iload_n 1, 1) := by decide +kernel
theorem d_FR_handBound_26 : decode b_FR_handBound 26 = .ok (.aaload, 1) := by decide +kernel
theorem d_FR_handBound_27 : decode b_FR_handBound 27 = .ok (.iconst 2, 1) := by decide +kernel
theorem d_FR_handBound_28 : decode b_FR_handBound 28 = .ok (.invokevirtual 374, 3) := by decide +kernel
theorem d_FR_handBound_31 : decode b_FR_handBound 31 = .ok (.istore 6, 2) := by decide +kernel
theorem d_FR_handBound_33 : decode b_FR_handBound 33 = .ok (.iload 6, 2) := by decide +kernel
theorem d_FR_handBound_35 : decode b_FR_handBound 35 = .ok (.ifCond .eq 6, 3) := by decide +kernel
theorem d_FR_handBound_38 : decode b_FR_handBound 38 = .ok (.iload 6, 2) := by decide +kernel
theorem d_FR_handBound_40 : decode b_FR_handBound 40 = .ok (.ireturn, 1) := by decide +kernel
theorem d_FR_handBound_41 : decode b_FR_handBound 41 = .ok (.aload_n 0, 1) := by decide +kernel
theorem d_FR_handBound_42 : decode b_FR_handBound 42 = .ok (.getfield 31, 3) := by decide +kernel
theorem d_FR_handBound_45 : decode b_FR_handBound 45 = .ok (.aload_n 0, 1) := by decide +kernel
theorem d_FR_handBound_46 : decode b_FR_handBound 46 = .ok (.getfield 73, 3) := by decide +kernel
theorem d_FR_handBound_49 : decode b_FR_handBound 49 = .ok (.iload_n 1, 1) := by decide +kernel
theorem d_FR_handBound_50 : decode b_FR_handBound 50 = .ok (.aaload, 1) := by decide +kernel
theorem d_FR_handBound_51 : decode b_FR_handBound 51 = .ok (.getfield 364, 3) := by decide +kernel
theorem d_FR_handBound_54 : decode b_FR_handBound 54 = .ok (.l2i, 1) := by decide +kernel
theorem d_FR_handBound_55 : decode b_FR_handBound 55 = .ok (.iload_n 2, 1) := by decide +kernel
theorem d_FR_handBound_56 : decode b_FR_handBound 56 = .ok (.iload_n 3, 1) := by decide +kernel
theorem d_FR_handBound_57 : decode b_FR_handBound 57 = .ok (.lload 4, 2) := by decide +kernel
theorem d_FR_handBound_59 : decode b_FR_handBound 59 = .ok (.invokevirtual 205, 3) := by decide +kernel
theorem d_FR_handBound_62 : decode b_FR_handBound 62 = .ok (.ireturn, 1) := by decide +kernel
def B_FR_handBound_0 (a1 : Int32) (a2 : Int32) (a3 : Int32) (a4 : Int64) (σ : Sto) : Option (Int32 × Sto) :=
  ((f_FR_isHand a1 σ).bind fun q1 => (if (b2i q1.1) = 0 then some ((-2 : Int32), q1.2)
 else ((f_FR_isAsked a2 a3 a4 q1.2).bind fun q2 => (if (b2i q2.1) = 0 then some ((-2 : Int32), q2.2)
  else (if inb a1 4 = true then ((f_Hand_refusalAs (44 + Int32.toNatClampNeg a1) (2 : Int32) q2.2).bind fun q4 => (if q4.1 = 0 then (if inb a1 4 = true then ((f_Judge_most (Int64.toInt32 (gL q4.2 (44 + Int32.toNatClampNeg a1) 1)) a2 a3 a4 q4.2).bind fun q6 => some (q6.1, q6.2)) else none)
   else some (q4.1, q4.2))) else none)))))
set_option maxHeartbeats 4000000 in
set_option maxRecDepth 100000 in
theorem vB_FR_handBound_0 {X : Xt} {E : En} (g : GG X E 6 b_FR_handBound R_FR 7) (a1 : Int32) (a2 : Int32) (a3 : Int32) (a4 : Int64) (σ : Sto) : VV X E b_FR_handBound 7 eI 0 [(0, .ref (E.2.1 0)), (1, .int a1), (2, .int a2), (3, .int a3), (4, .long a4)] [] σ (B_FR_handBound_0 a1 a2 a3 a4 σ) := by
  unfold B_FR_handBound_0
  refine v_iload_n 1 g d_FR_handBound_0 rfl ?_
  refine v_callB (r_S (rest := []) [.int a1] g (m1 980 (by decide +kernel) (by decide +kernel)) ys_FR_isHand (fun r σ1 h => sp_FR_isHand g.2.2.1  h) rfl rfl (by decide) (Nat.le_of_ble_eq_true rfl) d_FR_handBound_1) (fun q1 => ?_)
  refine v_if_eq 18 g d_FR_handBound_4 (by decide) (fun _ => ?_) (fun _ => ?_)
  · refine v_bipush (v := (-2 : Int32)) g d_FR_handBound_18 (by decide +kernel) ?_
    exact v_ret d_FR_handBound_20 rfl
  · refine v_aload_n 0 g d_FR_handBound_7 rfl ?_
    refine v_iload_n 2 g d_FR_handBound_8 rfl ?_
    refine v_iload_n 3 g d_FR_handBound_9 rfl ?_
    refine v_lload 4 g d_FR_handBound_10 rfl ?_
    refine v_callB (r_V (rest := []) [.int a2, .int a3, .long a4] g (m1 529 (by decide +kernel) (by decide +kernel)) yv_FR_isAsked rfl (fun r σ1 h => sp_FR_isAsked g.2.2.1  h) rfl rfl (by decide) (Nat.le_of_ble_eq_true rfl) d_FR_handBound_12) (fun q2 => ?_)
    refine v_if_ne 21 g d_FR_handBound_15 (by decide) (fun _ => ?_) (fun _ => ?_)
    · refine v_aload_n 0 g d_FR_handBound_21 rfl ?_
      refine v_getR 35 g ff_FR_73 rfl rfl rfl d_FR_handBound_22 ?_
      refine v_iload_n 1 g d_FR_handBound_25 rfl ?_
      refine v_aaldH g d_FR_handBound_26 (fun h3 => ?_)
      refine v_iconst (v := (2 : Int32)) g d_FR_handBound_27 (by decide +kernel) ?_
      refine v_callI (r_V (rest := []) [.int (2 : Int32)] g (m1 987 (by decide +kernel) (by decide +kernel)) yv_Hand_refusalAs (cls_ha h3) (fun r σ1 h => sp_Hand_refusalAs g.2.2.1 (cls_ha h3) h) rfl rfl (by decide) (Nat.le_of_ble_eq_true rfl) d_FR_handBound_28) (fun q4 => ?_)
      refine v_istore [(6, .int q4.1), (0, .ref (E.2.1 0)), (1, .int a1), (2, .int a2), (3, .int a3), (4, .long a4)] g d_FR_handBound_31 (by decide) rfl ?_
      refine v_iload 0 g d_FR_handBound_33 rfl ?_
      refine v_if_eq 41 g d_FR_handBound_35 (by decide) (fun _ => ?_) (fun _ => ?_)
      · refine v_aload_n 1 g d_FR_handBound_41 rfl ?_
        refine v_getR 16 g ff_FR_31 rfl rfl rfl d_FR_handBound_42 ?_
        refine v_aload_n 1 g d_FR_handBound_45 rfl ?_
        refine v_getR 35 g ff_FR_73 rfl rfl rfl d_FR_handBound_46 ?_
        refine v_iload_n 2 g d_FR_handBound_49 rfl ?_
        refine v_aaldH g d_FR_handBound_50 (fun h5 => ?_)
        refine v_getL g ff_FR_364 (cls_ha h5) rfl d_FR_handBound_51 ?_
        refine v_l2i g d_FR_handBound_54 ?_
        refine v_iload_n 3 g d_FR_handBound_55 rfl ?_
        refine v_iload_n 4 g d_FR_handBound_56 rfl ?_
        refine v_lload 5 g d_FR_handBound_57 rfl ?_
        refine v_callI (r_V (rest := []) [.int (Int64.toInt32 (gL q4.2 (44 + Int32.toNatClampNeg a1) 1)), .int a2, .int a3, .long a4] g (m1 549 (by decide +kernel) (by decide +kernel)) yv_Judge_most rfl (fun r σ1 h => sp_Judge_most g.2.2.1  h) rfl rfl (by decide) (Nat.le_of_ble_eq_true rfl) d_FR_handBound_59) (fun q6 => ?_)
        exact v_ret d_FR_handBound_62 rfl
      · refine v_iload 0 g d_FR_handBound_38 rfl ?_
        exact v_ret d_FR_handBound_40 rfl
    · refine v_bipush (v := (-2 : Int32)) g d_FR_handBound_18 (by decide +kernel) ?_
      exact v_ret d_FR_handBound_20 rfl
def f_FR_handBound (a1 : Int32) (a2 : Int32) (a3 : Int32) (a4 : Int64) (σ : Sto) : Option (Int32 × Sto) := B_FR_handBound_0 a1 a2 a3 a4 σ
theorem sp_FR_handBound {l : Launch} {E : En} (hE : Dj E) {a1 : Int32} {a2 : Int32} {a3 : Int32} {a4 : Int64} {σ : Sto} {r : Int32} {σ' : Sto} (h : f_FR_handBound a1 a2 a3 a4 σ = some (r, σ')) : Ct l E y_FR_handBound (wsM y_FR_handBound b_FR_handBound 7 (some .int)) 6 [.ref (E.2.1 0), .int a1, .int a2, .int a3, .long a4] σ (eI r) σ' :=
  ct_of hE (by decide +kernel) (Nat.le_of_ble_eq_true rfl) (fun x => Or.inl ⟨rfl, x, rfl⟩) (fun X _ g => vB_FR_handBound_0 g a1 a2 a3 a4 σ) r σ' h
/-! method FittingRings.handLess(IJ)J -/
theorem yv_FR_handLess : YV y_FR_handLess b_FR_handLess 5 (some .long) 2 9 := ⟨m1 1001 (by decide +kernel) (by decide +kernel), m1 1002 (by decide +kernel) (by decide +kernel), ini_FR, m1 1003 (by decide +kernel) (by decide +kernel), ⟨by decide +kernel, by decide +kernel, by decide +kernel⟩, by decide, by decide, T_FR, 11, rfl⟩
theorem d_FR_handLess_0 : decode b_FR_handLess 0 = .ok (.iload_n 1, 1) := by decide +kernel
theorem d_FR_handLess_1 : decode b_FR_handLess 1 = .ok (.invokestatic 358, 3) := by decide +kernel
theorem d_FR_handLess_4 : decode b_FR_handLess 4 = .ok (.ifCond .ne 7, 3) := by decide +kernel
theorem d_FR_handLess_7 : decode b_FR_handLess 7 = .ok (.ldc2_w 146, 3) := by decide +kernel
theorem d_FR_handLess_10 : decode b_FR_handLess 10 = .ok (.lreturn, 1) := by decide +kernel
theorem d_FR_handLess_11 : decode b_FR_handLess 11 = .ok (.aload_n 0, 1) := by decide +kernel
theorem d_FR_handLess_12 : decode b_FR_handLess 12 = .ok (.getfield 73, 3) := by decide +kernel
theorem d_FR_handLess_15 : decode b_FR_handLess 15 = .ok (.iload_n 1, 1) := by decide +kernel
theorem d_FR_handLess_16 : decode b_FR_handLess 16 = .ok (.aaload, 1) := by decide +kernel
theorem d_FR_handLess_17 : decode b_FR_handLess 17 = .ok (.iconst 3, 1) := by decide +kernel
theorem d_FR_handLess_18 : decode b_FR_handLess 18 = .ok (.invokevirtual 374, 3) := by decide +kernel
theorem d_FR_handLess_21 : decode b_FR_handLess 21 = .ok (.istore 4, 2) := by decide +kernel
theorem d_FR_handLess_23 : decode b_FR_handLess 23 = .ok (.iload 4, 2) := by decide +kernel
theorem d_FR_handLess_25 : decode b_FR_handLess 25 = .ok (.ifCond .eq 9, 3) := by decide +kernel
theorem d_FR_handLess_28 : decode b_FR_handLess 28 = .ok (.iload 4, 2) := by decide +kernel
theorem d_FR_handLess_30 : decode b_FR_handLess 30 = .ok (.i2l, 1) := by decide +kernel
theorem d_FR_handLess_31 : decode b_FR_handLess 31 = .ok (.goto 18, 3) := by decide +kernel
theorem d_FR_handLess_34 : decode b_FR_handLess 34 = .ok (.aload_n 0, 1) := by decide +kernel
theorem d_FR_handLess_35 : decode b_FR_handLess 35 = .ok (.getfield 73, 3) := by decide +kernel
theorem d_FR_handLess_38 : decode b_FR_handLess 38 = .ok (.iload_n 1, 1) := by decide +kernel
theorem d_FR_handLess_39 : decode b_FR_handLess 39 = .ok (.aaload, 1) := by decide +kernel
theorem d_FR_handLess_40 : decode b_FR_handLess 40 = .ok (.getfield 364, 3) := by decide +kernel
theorem d_FR_handLess_43 : decode b_FR_handLess 43 = .ok (.lload_n 2, 1) := by decide +kernel
theorem d_FR_handLess_44 : decode b_FR_handLess 44 = .ok (.ldc2_w 263, 3) := by decide +kernel
theorem d_FR_handLess_47 : decode b_FR_handLess 47 = .ok (.lxor, 1) := by decide +kernel
theorem d_FR_handLess_48 : decode b_FR_handLess 48 = .ok (.land, 1) := by decide +kernel
theorem d_FR_handLess_49 : decode b_FR_handLess 49 = .ok (.lreturn, 1) := by decide +kernel
def B_FR_handLess_0 (a1 : Int32) (a2 : Int64) (σ : Sto) : Option (Int64 × Sto) :=
  ((f_FR_isHand a1 σ).bind fun q1 => (if (b2i q1.1) = 0 then some ((-2 : Int64), q1.2)
 else (if inb a1 4 = true then ((f_Hand_refusalAs (44 + Int32.toNatClampNeg a1) (3 : Int32) q1.2).bind fun q3 => (if q3.1 = 0 then (if inb a1 4 = true then some (((gL q3.2 (44 + Int32.toNatClampNeg a1) 1) &&& (a2 ^^^ (-1 : Int64))), q3.2) else none)
  else some ((Int32.toInt64 q3.1), q3.2))) else none)))
set_option maxHeartbeats 4000000 in
set_option maxRecDepth 100000 in
theorem vB_FR_handLess_0 {X : Xt} {E : En} (g : GG X E 2 b_FR_handLess R_FR 5) (a1 : Int32) (a2 : Int64) (σ : Sto) : VV X E b_FR_handLess 5 eL 0 [(0, .ref (E.2.1 0)), (1, .int a1), (2, .long a2)] [] σ (B_FR_handLess_0 a1 a2 σ) := by
  unfold B_FR_handLess_0
  refine v_iload_n 1 g d_FR_handLess_0 rfl ?_
  refine v_callB (r_S (rest := []) [.int a1] g (m1 980 (by decide +kernel) (by decide +kernel)) ys_FR_isHand (fun r σ1 h => sp_FR_isHand g.2.2.1  h) rfl rfl (by decide) (Nat.le_of_ble_eq_true rfl) d_FR_handLess_1) (fun q1 => ?_)
  refine v_if_ne 11 g d_FR_handLess_4 (by decide) (fun _ => ?_) (fun _ => ?_)
  · refine v_aload_n 0 g d_FR_handLess_11 rfl ?_
    refine v_getR 35 g ff_FR_73 rfl rfl rfl d_FR_handLess_12 ?_
    refine v_iload_n 1 g d_FR_handLess_15 rfl ?_
    refine v_aaldH g d_FR_handLess_16 (fun h2 => ?_)
    refine v_iconst (v := (3 : Int32)) g d_FR_handLess_17 (by decide +kernel) ?_
    refine v_callI (r_V (rest := []) [.int (3 : Int32)] g (m1 987 (by decide +kernel) (by decide +kernel)) yv_Hand_refusalAs (cls_ha h2) (fun r σ1 h => sp_Hand_refusalAs g.2.2.1 (cls_ha h2) h) rfl rfl (by decide) (Nat.le_of_ble_eq_true rfl) d_FR_handLess_18) (fun q3 => ?_)
    refine v_istore [(4, .int q3.1), (0, .ref (E.2.1 0)), (1, .int a1), (2, .long a2)] g d_FR_handLess_21 (by decide) rfl ?_
    refine v_iload 0 g d_FR_handLess_23 rfl ?_
    refine v_if_eq 34 g d_FR_handLess_25 (by decide) (fun _ => ?_) (fun _ => ?_)
    · refine v_aload_n 1 g d_FR_handLess_34 rfl ?_
      refine v_getR 35 g ff_FR_73 rfl rfl rfl d_FR_handLess_35 ?_
      refine v_iload_n 2 g d_FR_handLess_38 rfl ?_
      refine v_aaldH g d_FR_handLess_39 (fun h4 => ?_)
      refine v_getL g ff_FR_364 (cls_ha h4) rfl d_FR_handLess_40 ?_
      refine v_lload_n 3 g d_FR_handLess_43 rfl ?_
      refine v_ldc2 (v := (-1 : Int64)) g (m1 686 (by decide +kernel) (by decide +kernel)) d_FR_handLess_44 ?_
      refine v_lxor g d_FR_handLess_47 ?_
      refine v_land g d_FR_handLess_48 ?_
      exact v_ret d_FR_handLess_49 rfl
    · refine v_iload 0 g d_FR_handLess_28 rfl ?_
      refine v_i2l g d_FR_handLess_30 ?_
      refine v_goto 49 g d_FR_handLess_31 (by decide) ?_
      exact v_ret d_FR_handLess_49 rfl
  · refine v_ldc2 (v := (-2 : Int64)) g (m1 456 (by decide +kernel) (by decide +kernel)) d_FR_handLess_7 ?_
    exact v_ret d_FR_handLess_10 rfl
def f_FR_handLess (a1 : Int32) (a2 : Int64) (σ : Sto) : Option (Int64 × Sto) := B_FR_handLess_0 a1 a2 σ
theorem sp_FR_handLess {l : Launch} {E : En} (hE : Dj E) {a1 : Int32} {a2 : Int64} {σ : Sto} {r : Int64} {σ' : Sto} (h : f_FR_handLess a1 a2 σ = some (r, σ')) : Ct l E y_FR_handLess (wsM y_FR_handLess b_FR_handLess 5 (some .long)) 2 [.ref (E.2.1 0), .int a1, .long a2] σ (eL r) σ' :=
  ct_of hE (by decide +kernel) (Nat.le_of_ble_eq_true rfl) (fun x => Or.inr (Or.inr (Or.inl ⟨rfl, x, rfl⟩))) (fun X _ g => vB_FR_handLess_0 g a1 a2 σ) r σ' h
/-! method FittingRings.sheet(III)I -/
theorem yv_FR_sheet : YV y_FR_sheet b_FR_sheet 4 (some .int) 3 9 := ⟨m1 1005 (by decide +kernel) (by decide +kernel), m1 1006 (by decide +kernel) (by decide +kernel), ini_FR, m1 1007 (by decide +kernel) (by decide +kernel), ⟨by decide +kernel, by decide +kernel, by decide +kernel⟩, by decide, by decide, T_FR, 11, rfl⟩
theorem d_FR_sheet_0 : decode b_FR_sheet 0 = .ok (.iload_n 1, 1) := by decide +kernel
theorem d_FR_sheet_1 : decode b_FR_sheet 1 = .ok (.invokestatic 286, 3) := by decide +kernel
theorem d_FR_sheet_4 : decode b_FR_sheet 4 = .ok (.ifCond .eq 13, 3) := by decide +kernel
theorem d_FR_sheet_7 : decode b_FR_sheet 7 = .ok (.iload_n 2, 1) := by decide +kernel
theorem d_FR_sheet_8 : decode b_FR_sheet 8 = .ok (.iconst (-1), 1) := by decide +kernel
theorem d_FR_sheet_9 : decode b_FR_sheet 9 = .ok (.if_icmp .lt 8, 3) := by decide +kernel
theorem d_FR_sheet_12 : decode b_FR_sheet 12 = .ok (.iload_n 2, 1) := by decide +kernel
theorem d_FR_sheet_13 : decode b_FR_sheet 13 = .ok (.iconst 2, 1) := by decide +kernel
theorem d_FR_sheet_14 : decode b_FR_sheet 14 = .ok (.if_icmp .le 6, 3) := by decide +kernel
theorem d_FR_sheet_17 : decode b_FR_sheet 17 = .ok (.bipush (-2), 2) := by decide +kernel
theorem d_FR_sheet_19 : decode b_FR_sheet 19 = .ok (.ireturn, 1) := by decide +kernel
theorem d_FR_sheet_20 : decode b_FR_sheet 20 = .ok (.iload_n 2, 1) := by decide +kernel
theorem d_FR_sheet_21 : decode b_FR_sheet 21 = .ok (.iconst (-1), 1) := by decide +kernel
theorem d_FR_sheet_22 : decode b_FR_sheet 22 = .ok (.if_icmp .ne 16, 3) := by decide +kernel
theorem d_FR_sheet_25 : decode b_FR_sheet 25 = .ok (.aload_n 0, 1) := by decide +kernel
theorem d_FR_sheet_26 : decode b_FR_sheet 26 = .ok (.getfield 67, 3) := by decide +kernel
theorem d_FR_sheet_29 : decode b_FR_sheet 29 = .ok (.iload_n 1, 1) := by decide +kernel
theorem d_FR_sheet_30 : decode b_FR_sheet 30 = .ok (.aaload, 1) := by decide +kernel
theorem d_FR_sheet_31 : decode b_FR_sheet 31 = .ok (.iconst (-1), 1) := by decide +kernel
theorem d_FR_sheet_32 : decode b_FR_sheet 32 = .ok (.iconst 0, 1) := by decide +kernel
theorem d_FR_sheet_33 : decode b_FR_sheet 33 = .ok (.invokevirtual 297, 3) := by decide +kernel
theorem d_FR_sheet_36 : decode b_FR_sheet 36 = .ok (.iconst 1, 1) := by decide +kernel
theorem d_FR_sheet_37 : decode b_FR_sheet 37 = .ok (.ireturn, 1) := by decide +kernel
theorem d_FR_sheet_38 : decode b_FR_sheet 38 = .ok (.iload_n 3, 1) := by decide +kernel
theorem d_FR_sheet_39 : decode b_FR_sheet 39 = .ok (.bipush 60, 2) := by decide +kernel
theorem d_FR_sheet_41 : decode b_FR_sheet 41 = .ok (.if_icmp .le 6, 3) := by decide +kernel
theorem d_FR_sheet_44 : decode b_FR_sheet 44 = .ok (.bipush (-2), 2) := by decide +kernel
theorem d_FR_sheet_46 : decode b_FR_sheet 46 = .ok (.ireturn, 1) := by decide +kernel
theorem d_FR_sheet_47 : decode b_FR_sheet 47 = .ok (.iload_n 3, 1) := by decide +kernel
theorem d_FR_sheet_48 : decode b_FR_sheet 48 = .ok (.ifCond .ge 6, 3) := by decide +kernel
theorem d_FR_sheet_51 : decode b_FR_sheet 51 = .ok (.bipush (-14), 2) := by decide +kernel
theorem d_FR_sheet_53 : decode b_FR_sheet 53 = .ok (.ireturn, 1) := by decide +kernel
theorem d_FR_sheet_54 : decode b_FR_sheet 54 = .ok (.aload_n 0, 1) := by decide +kernel
theorem d_FR_sheet_55 : decode b_FR_sheet 55 = .ok (.getfield 67, 3) := by decide +kernel
theorem d_FR_sheet_58 : decode b_FR_sheet 58 = .ok (.iload_n 1, 1) := by decide +kernel
theorem d_FR_sheet_59 : decode b_FR_sheet 59 = .ok (.aaload, 1) := by decide +kernel
theorem d_FR_sheet_60 : decode b_FR_sheet 60 = .ok (.iload_n 2, 1) := by decide +kernel
theorem d_FR_sheet_61 : decode b_FR_sheet 61 = .ok (.iload_n 3, 1) := by decide +kernel
theorem d_FR_sheet_62 : decode b_FR_sheet 62 = .ok (.invokevirtual 297, 3) := by decide +kernel
theorem d_FR_sheet_65 : decode b_FR_sheet 65 = .ok (.iconst 1, 1) := by decide +kernel
theorem d_FR_sheet_66 : decode b_FR_sheet 66 = .ok (.ireturn, 1) := by decide +kernel
def B_FR_sheet_0 (a1 : Int32) (a2 : Int32) (a3 : Int32) (σ : Sto) : Option (Int32 × Sto) :=
  ((f_FR_isSheet a1 σ).bind fun q1 => (if (b2i q1.1) = 0 then some ((-2 : Int32), q1.2)
 else (if a2 < (-1 : Int32) then some ((-2 : Int32), q1.2)
  else (if a2 ≤ (2 : Int32) then (if a2 = (-1 : Int32) then (if inb a1 4 = true then ((f_Sheet_remake (36 + 2 * Int32.toNatClampNeg a1) (-1 : Int32) (0 : Int32) q1.2).bind fun q5 => some ((1 : Int32), q5.2)) else none)
    else (if a3 ≤ (60 : Int32) then (if 0 ≤ a3 then (if inb a1 4 = true then ((f_Sheet_remake (36 + 2 * Int32.toNatClampNeg a1) a2 a3 q1.2).bind fun q3 => some ((1 : Int32), q3.2)) else none)
      else some ((-14 : Int32), q1.2))
     else some ((-2 : Int32), q1.2)))
   else some ((-2 : Int32), q1.2)))))
set_option maxHeartbeats 4000000 in
set_option maxRecDepth 100000 in
theorem vB_FR_sheet_0 {X : Xt} {E : En} (g : GG X E 3 b_FR_sheet R_FR 4) (a1 : Int32) (a2 : Int32) (a3 : Int32) (σ : Sto) : VV X E b_FR_sheet 4 eI 0 [(0, .ref (E.2.1 0)), (1, .int a1), (2, .int a2), (3, .int a3)] [] σ (B_FR_sheet_0 a1 a2 a3 σ) := by
  unfold B_FR_sheet_0
  refine v_iload_n 1 g d_FR_sheet_0 rfl ?_
  refine v_callB (r_S (rest := []) [.int a1] g (m1 745 (by decide +kernel) (by decide +kernel)) ys_FR_isSheet (fun r σ1 h => sp_FR_isSheet g.2.2.1  h) rfl rfl (by decide) (Nat.le_of_ble_eq_true rfl) d_FR_sheet_1) (fun q1 => ?_)
  refine v_if_eq 17 g d_FR_sheet_4 (by decide) (fun _ => ?_) (fun _ => ?_)
  · refine v_bipush (v := (-2 : Int32)) g d_FR_sheet_17 (by decide +kernel) ?_
    exact v_ret d_FR_sheet_19 rfl
  · refine v_iload_n 2 g d_FR_sheet_7 rfl ?_
    refine v_iconst (v := (-1 : Int32)) g d_FR_sheet_8 (by decide +kernel) ?_
    refine v_icmp_lt 17 g d_FR_sheet_9 (by decide) (fun _ => ?_) (fun _ => ?_)
    · refine v_bipush (v := (-2 : Int32)) g d_FR_sheet_17 (by decide +kernel) ?_
      exact v_ret d_FR_sheet_19 rfl
    · refine v_iload_n 2 g d_FR_sheet_12 rfl ?_
      refine v_iconst (v := (2 : Int32)) g d_FR_sheet_13 (by decide +kernel) ?_
      refine v_icmp_le 20 g d_FR_sheet_14 (by decide) (fun _ => ?_) (fun _ => ?_)
      · refine v_iload_n 2 g d_FR_sheet_20 rfl ?_
        refine v_iconst (v := (-1 : Int32)) g d_FR_sheet_21 (by decide +kernel) ?_
        refine v_icmp_ne 38 g d_FR_sheet_22 (by decide) (fun _ => ?_) (fun _ => ?_)
        · refine v_iload_n 3 g d_FR_sheet_38 rfl ?_
          refine v_bipush (v := (60 : Int32)) g d_FR_sheet_39 (by decide +kernel) ?_
          refine v_icmp_le 47 g d_FR_sheet_41 (by decide) (fun _ => ?_) (fun _ => ?_)
          · refine v_iload_n 3 g d_FR_sheet_47 rfl ?_
            refine v_if_ge 54 g d_FR_sheet_48 (by decide) (fun _ => ?_) (fun _ => ?_)
            · refine v_aload_n 0 g d_FR_sheet_54 rfl ?_
              refine v_getR 34 g ff_FR_67 rfl rfl rfl d_FR_sheet_55 ?_
              refine v_iload_n 1 g d_FR_sheet_58 rfl ?_
              refine v_aaldS g d_FR_sheet_59 (fun h2 => ?_)
              refine v_iload_n 2 g d_FR_sheet_60 rfl ?_
              refine v_iload_n 3 g d_FR_sheet_61 rfl ?_
              refine v_callU (r_V (rest := []) [.int a2, .int a3] g (m1 770 (by decide +kernel) (by decide +kernel)) yv_Sheet_remake (cls_sh h2) (fun r σ1 h => sp_Sheet_remake g.2.2.1 (cls_sh h2) h) rfl rfl (by decide) (Nat.le_of_ble_eq_true rfl) d_FR_sheet_62) (fun q3 => ?_)
              refine v_iconst (v := (1 : Int32)) g d_FR_sheet_65 (by decide +kernel) ?_
              exact v_ret d_FR_sheet_66 rfl
            · refine v_bipush (v := (-14 : Int32)) g d_FR_sheet_51 (by decide +kernel) ?_
              exact v_ret d_FR_sheet_53 rfl
          · refine v_bipush (v := (-2 : Int32)) g d_FR_sheet_44 (by decide +kernel) ?_
            exact v_ret d_FR_sheet_46 rfl
        · refine v_aload_n 0 g d_FR_sheet_25 rfl ?_
          refine v_getR 34 g ff_FR_67 rfl rfl rfl d_FR_sheet_26 ?_
          refine v_iload_n 1 g d_FR_sheet_29 rfl ?_
          refine v_aaldS g d_FR_sheet_30 (fun h4 => ?_)
          refine v_iconst (v := (-1 : Int32)) g d_FR_sheet_31 (by decide +kernel) ?_
          refine v_iconst (v := (0 : Int32)) g d_FR_sheet_32 (by decide +kernel) ?_
          refine v_callU (r_V (rest := []) [.int (-1 : Int32), .int (0 : Int32)] g (m1 770 (by decide +kernel) (by decide +kernel)) yv_Sheet_remake (cls_sh h4) (fun r σ1 h => sp_Sheet_remake g.2.2.1 (cls_sh h4) h) rfl rfl (by decide) (Nat.le_of_ble_eq_true rfl) d_FR_sheet_33) (fun q5 => ?_)
          refine v_iconst (v := (1 : Int32)) g d_FR_sheet_36 (by decide +kernel) ?_
          exact v_ret d_FR_sheet_37 rfl
      · refine v_bipush (v := (-2 : Int32)) g d_FR_sheet_17 (by decide +kernel) ?_
        exact v_ret d_FR_sheet_19 rfl
def f_FR_sheet (a1 : Int32) (a2 : Int32) (a3 : Int32) (σ : Sto) : Option (Int32 × Sto) := B_FR_sheet_0 a1 a2 a3 σ
theorem sp_FR_sheet {l : Launch} {E : En} (hE : Dj E) {a1 : Int32} {a2 : Int32} {a3 : Int32} {σ : Sto} {r : Int32} {σ' : Sto} (h : f_FR_sheet a1 a2 a3 σ = some (r, σ')) : Ct l E y_FR_sheet (wsM y_FR_sheet b_FR_sheet 4 (some .int)) 3 [.ref (E.2.1 0), .int a1, .int a2, .int a3] σ (eI r) σ' :=
  ct_of hE (by decide +kernel) (Nat.le_of_ble_eq_true rfl) (fun x => Or.inl ⟨rfl, x, rfl⟩) (fun X _ g => vB_FR_sheet_0 g a1 a2 a3 σ) r σ' h
/-! method FittingRings.refusalAt(II)I -/
theorem yv_FR_refusalAt : YV y_FR_refusalAt b_FR_refusalAt 3 (some .int) 2 9 := ⟨m1 1014 (by decide +kernel) (by decide +kernel), m1 24 (by decide +kernel) (by decide +kernel), ini_FR, m1 1015 (by decide +kernel) (by decide +kernel), ⟨by decide +kernel, by decide +kernel, by decide +kernel⟩, by decide, by decide, T_FR, 11, rfl⟩
theorem d_FR_refusalAt_0 : decode b_FR_refusalAt 0 = .ok (.iload_n 1, 1) := by decide +kernel
theorem d_FR_refusalAt_1 : decode b_FR_refusalAt 1 = .ok (.invokestatic 286, 3) := by decide +kernel
theorem d_FR_refusalAt_4 : decode b_FR_refusalAt 4 = .ok (.ifCond .ne 6, 3) := by decide +kernel
theorem d_FR_refusalAt_7 : decode b_FR_refusalAt 7 = .ok (.bipush (-2), 2) := by decide +kernel
theorem d_FR_refusalAt_9 : decode b_FR_refusalAt 9 = .ok (.ireturn, 1) := by decide +kernel
theorem d_FR_refusalAt_10 : decode b_FR_refusalAt 10 = .ok (.aload_n 0, 1) := by decide +kernel
theorem d_FR_refusalAt_11 : decode b_FR_refusalAt 11 = .ok (.getfield 67, 3) := by decide +kernel
theorem d_FR_refusalAt_14 : decode b_FR_refusalAt 14 = .ok (.iload_n 1, 1) := by decide +kernel
theorem d_FR_refusalAt_15 : decode b_FR_refusalAt 15 = .ok (.aaload, 1) := by decide +kernel
theorem d_FR_refusalAt_16 : decode b_FR_refusalAt 16 = .ok (.invokevirtual 289, 3) := by decide +kernel
theorem d_FR_refusalAt_19 : decode b_FR_refusalAt 19 = .ok (.ifCond .eq 6, 3) := by decide +kernel
theorem d_FR_refusalAt_22 : decode b_FR_refusalAt 22 = .ok (.bipush (-11), 2) := by decide +kernel
theorem d_FR_refusalAt_24 : decode b_FR_refusalAt 24 = .ok (.ireturn, 1) := by decide +kernel
theorem d_FR_refusalAt_25 : decode b_FR_refusalAt 25 = .ok (.aload_n 0, 1) := by decide +kernel
theorem d_FR_refusalAt_26 : decode b_FR_refusalAt 26 = .ok (.getfield 67, 3) := by decide +kernel
theorem d_FR_refusalAt_29 : decode b_FR_refusalAt 29 = .ok (.iload_n 1, 1) := by decide +kernel
theorem d_FR_refusalAt_30 : decode b_FR_refusalAt 30 = .ok (.aaload, 1) := by decide +kernel
theorem d_FR_refusalAt_31 : decode b_FR_refusalAt 31 = .ok (.iload_n 2, 1) := by decide +kernel
theorem d_FR_refusalAt_32 : decode b_FR_refusalAt 32 = .ok (.iconst 1, 1) := by decide +kernel
theorem d_FR_refusalAt_33 : decode b_FR_refusalAt 33 = .ok (.invokevirtual 383, 3) := by decide +kernel
theorem d_FR_refusalAt_36 : decode b_FR_refusalAt 36 = .ok (.ifCond .eq 7, 3) := by decide +kernel
theorem d_FR_refusalAt_39 : decode b_FR_refusalAt 39 = .ok (.iconst 0, 1) := by decide +kernel
theorem d_FR_refusalAt_40 : decode b_FR_refusalAt 40 = .ok (.goto 5, 3) := by decide +kernel
theorem d_FR_refusalAt_43 : decode b_FR_refusalAt 43 = .ok (.bipush (-12), 2) := by decide +kernel
theorem d_FR_refusalAt_45 : decode b_FR_refusalAt 45 = .ok (.ireturn, 1) := by decide +kernel
def B_FR_refusalAt_0 (a1 : Int32) (a2 : Int32) (σ : Sto) : Option (Int32 × Sto) :=
  ((f_FR_isSheet a1 σ).bind fun q1 => (if (b2i q1.1) = 0 then some ((-2 : Int32), q1.2)
 else (if inb a1 4 = true then ((f_Sheet_isMissing (36 + 2 * Int32.toNatClampNeg a1) q1.2).bind fun q3 => (if (b2i q3.1) = 0 then (if inb a1 4 = true then ((f_Sheet_hasRoom (36 + 2 * Int32.toNatClampNeg a1) a2 (1 : Int32) q3.2).bind fun q5 => (if (b2i q5.1) = 0 then some ((-12 : Int32), q5.2)
   else some ((0 : Int32), q5.2))) else none)
  else some ((-11 : Int32), q3.2))) else none)))
set_option maxHeartbeats 4000000 in
set_option maxRecDepth 100000 in
theorem vB_FR_refusalAt_0 {X : Xt} {E : En} (g : GG X E 2 b_FR_refusalAt R_FR 3) (a1 : Int32) (a2 : Int32) (σ : Sto) : VV X E b_FR_refusalAt 3 eI 0 [(0, .ref (E.2.1 0)), (1, .int a1), (2, .int a2)] [] σ (B_FR_refusalAt_0 a1 a2 σ) := by
  unfold B_FR_refusalAt_0
  refine v_iload_n 1 g d_FR_refusalAt_0 rfl ?_
  refine v_callB (r_S (rest := []) [.int a1] g (m1 745 (by decide +kernel) (by decide +kernel)) ys_FR_isSheet (fun r σ1 h => sp_FR_isSheet g.2.2.1  h) rfl rfl (by decide) (Nat.le_of_ble_eq_true rfl) d_FR_refusalAt_1) (fun q1 => ?_)
  refine v_if_ne 10 g d_FR_refusalAt_4 (by decide) (fun _ => ?_) (fun _ => ?_)
  · refine v_aload_n 0 g d_FR_refusalAt_10 rfl ?_
    refine v_getR 34 g ff_FR_67 rfl rfl rfl d_FR_refusalAt_11 ?_
    refine v_iload_n 1 g d_FR_refusalAt_14 rfl ?_
    refine v_aaldS g d_FR_refusalAt_15 (fun h2 => ?_)
    refine v_callB (r_V (rest := []) [] g (m1 748 (by decide +kernel) (by decide +kernel)) yv_Sheet_isMissing (cls_sh h2) (fun r σ1 h => sp_Sheet_isMissing g.2.2.1 (cls_sh h2) h) rfl rfl (by decide) (Nat.le_of_ble_eq_true rfl) d_FR_refusalAt_16) (fun q3 => ?_)
    refine v_if_eq 25 g d_FR_refusalAt_19 (by decide) (fun _ => ?_) (fun _ => ?_)
    · refine v_aload_n 0 g d_FR_refusalAt_25 rfl ?_
      refine v_getR 34 g ff_FR_67 rfl rfl rfl d_FR_refusalAt_26 ?_
      refine v_iload_n 1 g d_FR_refusalAt_29 rfl ?_
      refine v_aaldS g d_FR_refusalAt_30 (fun h4 => ?_)
      refine v_iload_n 2 g d_FR_refusalAt_31 rfl ?_
      refine v_iconst (v := (1 : Int32)) g d_FR_refusalAt_32 (by decide +kernel) ?_
      refine v_callB (r_V (rest := []) [.int a2, .int (1 : Int32)] g (m1 1016 (by decide +kernel) (by decide +kernel)) yv_Sheet_hasRoom (cls_sh h4) (fun r σ1 h => sp_Sheet_hasRoom g.2.2.1 (cls_sh h4) h) rfl rfl (by decide) (Nat.le_of_ble_eq_true rfl) d_FR_refusalAt_33) (fun q5 => ?_)
      refine v_if_eq 43 g d_FR_refusalAt_36 (by decide) (fun _ => ?_) (fun _ => ?_)
      · refine v_bipush (v := (-12 : Int32)) g d_FR_refusalAt_43 (by decide +kernel) ?_
        exact v_ret d_FR_refusalAt_45 rfl
      · refine v_iconst (v := (0 : Int32)) g d_FR_refusalAt_39 (by decide +kernel) ?_
        refine v_goto 45 g d_FR_refusalAt_40 (by decide) ?_
        exact v_ret d_FR_refusalAt_45 rfl
    · refine v_bipush (v := (-11 : Int32)) g d_FR_refusalAt_22 (by decide +kernel) ?_
      exact v_ret d_FR_refusalAt_24 rfl
  · refine v_bipush (v := (-2 : Int32)) g d_FR_refusalAt_7 (by decide +kernel) ?_
    exact v_ret d_FR_refusalAt_9 rfl
def f_FR_refusalAt (a1 : Int32) (a2 : Int32) (σ : Sto) : Option (Int32 × Sto) := B_FR_refusalAt_0 a1 a2 σ
theorem sp_FR_refusalAt {l : Launch} {E : En} (hE : Dj E) {a1 : Int32} {a2 : Int32} {σ : Sto} {r : Int32} {σ' : Sto} (h : f_FR_refusalAt a1 a2 σ = some (r, σ')) : Ct l E y_FR_refusalAt (wsM y_FR_refusalAt b_FR_refusalAt 3 (some .int)) 2 [.ref (E.2.1 0), .int a1, .int a2] σ (eI r) σ' :=
  ct_of hE (by decide +kernel) (Nat.le_of_ble_eq_true rfl) (fun x => Or.inl ⟨rfl, x, rfl⟩) (fun X _ g => vB_FR_refusalAt_0 g a1 a2 σ) r σ' h
/-! method FittingRings.cell(III)I -/
theorem yv_FR_cell : YV y_FR_cell b_FR_cell 5 (some .int) 3 9 := ⟨m1 1009 (by decide +kernel) (by decide +kernel), m1 1010 (by decide +kernel) (by decide +kernel), ini_FR, m1 1011 (by decide +kernel) (by decide +kernel), ⟨by decide +kernel, by decide +kernel, by decide +kernel⟩, by decide, by decide, T_FR, 11, rfl⟩
theorem d_FR_cell_0 : decode b_FR_cell 0 = .ok (.aload_n 0, 1) := by decide +kernel
theorem d_FR_cell_1 : decode b_FR_cell 1 = .ok (.iload_n 1, 1) := by decide +kernel
theorem d_FR_cell_2 : decode b_FR_cell 2 = .ok (.iload_n 2, 1) := by decide +kernel
theorem d_FR_cell_3 : decode b_FR_cell 3 = .ok (.invokevirtual 380, 3) := by decide +kernel
theorem d_FR_cell_6 : decode b_FR_cell 6 = .ok (.istore 4, 2) := by decide +kernel
theorem d_FR_cell_8 : decode b_FR_cell 8 = .ok (.iload 4, 2) := by decide +kernel
theorem d_FR_cell_10 : decode b_FR_cell 10 = .ok (.ifCond .eq 8, 3) := by decide +kernel
theorem d_FR_cell_13 : decode b_FR_cell 13 = .ok (.iload 4, 2) := by decide +kernel
theorem d_FR_cell_15 : decode b_FR_cell 15 = .ok (.goto 14, 3) := by decide +kernel
theorem d_FR_cell_18 : decode b_FR_cell 18 = .ok (.aload_n 0, 1) := by decide +kernel
theorem d_FR_cell_19 : decode b_FR_cell 19 = .ok (.getfield 67, 3) := by decide +kernel
theorem d_FR_cell_22 : decode b_FR_cell 22 = .ok (.iload_n 1, 1) := by decide +kernel
theorem d_FR_cell_23 : decode b_FR_cell 23 = .ok (.aaload, 1) := by decide +kernel
theorem d_FR_cell_24 : decode b_FR_cell 24 = .ok (.iload_n 2, 1) := by decide +kernel
theorem d_FR_cell_25 : decode b_FR_cell 25 = .ok (.iload_n 3, 1) := by decide +kernel
theorem d_FR_cell_26 : decode b_FR_cell 26 = .ok (.invokevirtual 300, 3) := by decide +kernel
theorem d_FR_cell_29 : decode b_FR_cell 29 = .ok (.ireturn, 1) := by decide +kernel
def B_FR_cell_0 (a1 : Int32) (a2 : Int32) (a3 : Int32) (σ : Sto) : Option (Int32 × Sto) :=
  ((f_FR_refusalAt a1 a2 σ).bind fun q1 => (if q1.1 = 0 then (if inb a1 4 = true then ((f_Sheet_put (36 + 2 * Int32.toNatClampNeg a1) a2 a3 q1.2).bind fun q3 => some (q3.1, q3.2)) else none)
 else some (q1.1, q1.2)))
set_option maxHeartbeats 4000000 in
set_option maxRecDepth 100000 in
theorem vB_FR_cell_0 {X : Xt} {E : En} (g : GG X E 3 b_FR_cell R_FR 5) (a1 : Int32) (a2 : Int32) (a3 : Int32) (σ : Sto) : VV X E b_FR_cell 5 eI 0 [(0, .ref (E.2.1 0)), (1, .int a1), (2, .int a2), (3, .int a3)] [] σ (B_FR_cell_0 a1 a2 a3 σ) := by
  unfold B_FR_cell_0
  refine v_aload_n 0 g d_FR_cell_0 rfl ?_
  refine v_iload_n 1 g d_FR_cell_1 rfl ?_
  refine v_iload_n 2 g d_FR_cell_2 rfl ?_
  refine v_callI (r_V (rest := []) [.int a1, .int a2] g (m1 1012 (by decide +kernel) (by decide +kernel)) yv_FR_refusalAt rfl (fun r σ1 h => sp_FR_refusalAt g.2.2.1  h) rfl rfl (by decide) (Nat.le_of_ble_eq_true rfl) d_FR_cell_3) (fun q1 => ?_)
  refine v_istore [(4, .int q1.1), (0, .ref (E.2.1 0)), (1, .int a1), (2, .int a2), (3, .int a3)] g d_FR_cell_6 (by decide) rfl ?_
  refine v_iload 0 g d_FR_cell_8 rfl ?_
  refine v_if_eq 18 g d_FR_cell_10 (by decide) (fun _ => ?_) (fun _ => ?_)
  · refine v_aload_n 1 g d_FR_cell_18 rfl ?_
    refine v_getR 34 g ff_FR_67 rfl rfl rfl d_FR_cell_19 ?_
    refine v_iload_n 2 g d_FR_cell_22 rfl ?_
    refine v_aaldS g d_FR_cell_23 (fun h2 => ?_)
    refine v_iload_n 3 g d_FR_cell_24 rfl ?_
    refine v_iload_n 4 g d_FR_cell_25 rfl ?_
    refine v_callI (r_V (rest := []) [.int a2, .int a3] g (m1 779 (by decide +kernel) (by decide +kernel)) yv_Sheet_put (cls_sh h2) (fun r σ1 h => sp_Sheet_put g.2.2.1 (cls_sh h2) h) rfl rfl (by decide) (Nat.le_of_ble_eq_true rfl) d_FR_cell_26) (fun q3 => ?_)
    exact v_ret d_FR_cell_29 rfl
  · refine v_iload 0 g d_FR_cell_13 rfl ?_
    refine v_goto 29 g d_FR_cell_15 (by decide) ?_
    exact v_ret d_FR_cell_29 rfl
def f_FR_cell (a1 : Int32) (a2 : Int32) (a3 : Int32) (σ : Sto) : Option (Int32 × Sto) := B_FR_cell_0 a1 a2 a3 σ
theorem sp_FR_cell {l : Launch} {E : En} (hE : Dj E) {a1 : Int32} {a2 : Int32} {a3 : Int32} {σ : Sto} {r : Int32} {σ' : Sto} (h : f_FR_cell a1 a2 a3 σ = some (r, σ')) : Ct l E y_FR_cell (wsM y_FR_cell b_FR_cell 5 (some .int)) 3 [.ref (E.2.1 0), .int a1, .int a2, .int a3] σ (eI r) σ' :=
  ct_of hE (by decide +kernel) (Nat.le_of_ble_eq_true rfl) (fun x => Or.inl ⟨rfl, x, rfl⟩) (fun X _ g => vB_FR_cell_0 g a1 a2 a3 σ) r σ' h
/-! method FittingRings.read(II)I -/
theorem yv_FR_read : YV y_FR_read b_FR_read 4 (some .int) 2 9 := ⟨m1 1018 (by decide +kernel) (by decide +kernel), m1 1019 (by decide +kernel) (by decide +kernel), ini_FR, m1 1020 (by decide +kernel) (by decide +kernel), ⟨by decide +kernel, by decide +kernel, by decide +kernel⟩, by decide, by decide, T_FR, 11, rfl⟩
theorem d_FR_read_0 : decode b_FR_read 0 = .ok (.aload_n 0, 1) := by decide +kernel
theorem d_FR_read_1 : decode b_FR_read 1 = .ok (.iload_n 1, 1) := by decide +kernel
theorem d_FR_read_2 : decode b_FR_read 2 = .ok (.iload_n 2, 1) := by decide +kernel
theorem d_FR_read_3 : decode b_FR_read 3 = .ok (.invokevirtual 380, 3) := by decide +kernel
theorem d_FR_read_6 : decode b_FR_read 6 = .ok (.istore_n 3, 1) := by decide +kernel
theorem d_FR_read_7 : decode b_FR_read 7 = .ok (.iload_n 3, 1) := by decide +kernel
theorem d_FR_read_8 : decode b_FR_read 8 = .ok (.ifCond .eq 7, 3) := by decide +kernel
theorem d_FR_read_11 : decode b_FR_read 11 = .ok (.iload_n 3, 1) := by decide +kernel
theorem d_FR_read_12 : decode b_FR_read 12 = .ok (.goto 13, 3) := by decide +kernel
theorem d_FR_read_15 : decode b_FR_read 15 = .ok (.aload_n 0, 1) := by decide +kernel
theorem d_FR_read_16 : decode b_FR_read 16 = .ok (.getfield 67, 3) := by decide +kernel
theorem d_FR_read_19 : decode b_FR_read 19 = .ok (.iload_n 1, 1) := by decide +kernel
theorem d_FR_read_20 : decode b_FR_read 20 = .ok (.aaload, 1) := by decide +kernel
theorem d_FR_read_21 : decode b_FR_read 21 = .ok (.iload_n 2, 1) := by decide +kernel
theorem d_FR_read_22 : decode b_FR_read 22 = .ok (.invokevirtual 307, 3) := by decide +kernel
theorem d_FR_read_25 : decode b_FR_read 25 = .ok (.ireturn, 1) := by decide +kernel
def B_FR_read_0 (a1 : Int32) (a2 : Int32) (σ : Sto) : Option (Int32 × Sto) :=
  ((f_FR_refusalAt a1 a2 σ).bind fun q1 => (if q1.1 = 0 then (if inb a1 4 = true then ((f_Sheet_at (36 + 2 * Int32.toNatClampNeg a1) a2 q1.2).bind fun q3 => some (q3.1, q3.2)) else none)
 else some (q1.1, q1.2)))
set_option maxHeartbeats 4000000 in
set_option maxRecDepth 100000 in
theorem vB_FR_read_0 {X : Xt} {E : En} (g : GG X E 3 b_FR_read R_FR 4) (a1 : Int32) (a2 : Int32) (σ : Sto) : VV X E b_FR_read 4 eI 0 [(0, .ref (E.2.1 0)), (1, .int a1), (2, .int a2)] [] σ (B_FR_read_0 a1 a2 σ) := by
  unfold B_FR_read_0
  refine v_aload_n 0 g d_FR_read_0 rfl ?_
  refine v_iload_n 1 g d_FR_read_1 rfl ?_
  refine v_iload_n 2 g d_FR_read_2 rfl ?_
  refine v_callI (r_V (rest := []) [.int a1, .int a2] g (m1 1012 (by decide +kernel) (by decide +kernel)) yv_FR_refusalAt rfl (fun r σ1 h => sp_FR_refusalAt g.2.2.1  h) rfl rfl (by decide) (Nat.le_of_ble_eq_true rfl) d_FR_read_3) (fun q1 => ?_)
  refine v_istore_n [(3, .int q1.1), (0, .ref (E.2.1 0)), (1, .int a1), (2, .int a2)] g d_FR_read_6 (by decide) rfl ?_
  refine v_iload_n 0 g d_FR_read_7 rfl ?_
  refine v_if_eq 15 g d_FR_read_8 (by decide) (fun _ => ?_) (fun _ => ?_)
  · refine v_aload_n 1 g d_FR_read_15 rfl ?_
    refine v_getR 34 g ff_FR_67 rfl rfl rfl d_FR_read_16 ?_
    refine v_iload_n 2 g d_FR_read_19 rfl ?_
    refine v_aaldS g d_FR_read_20 (fun h2 => ?_)
    refine v_iload_n 3 g d_FR_read_21 rfl ?_
    refine v_callI (r_V (rest := []) [.int a2] g (m1 793 (by decide +kernel) (by decide +kernel)) yv_Sheet_at (cls_sh h2) (fun r σ1 h => sp_Sheet_at g.2.2.1 (cls_sh h2) h) rfl rfl (by decide) (Nat.le_of_ble_eq_true rfl) d_FR_read_22) (fun q3 => ?_)
    exact v_ret d_FR_read_25 rfl
  · refine v_iload_n 0 g d_FR_read_11 rfl ?_
    refine v_goto 25 g d_FR_read_12 (by decide) ?_
    exact v_ret d_FR_read_25 rfl
def f_FR_read (a1 : Int32) (a2 : Int32) (σ : Sto) : Option (Int32 × Sto) := B_FR_read_0 a1 a2 σ
theorem sp_FR_read {l : Launch} {E : En} (hE : Dj E) {a1 : Int32} {a2 : Int32} {σ : Sto} {r : Int32} {σ' : Sto} (h : f_FR_read a1 a2 σ = some (r, σ')) : Ct l E y_FR_read (wsM y_FR_read b_FR_read 4 (some .int)) 3 [.ref (E.2.1 0), .int a1, .int a2] σ (eI r) σ' :=
  ct_of hE (by decide +kernel) (Nat.le_of_ble_eq_true rfl) (fun x => Or.inl ⟨rfl, x, rfl⟩) (fun X _ g => vB_FR_read_0 g a1 a2 σ) r σ' h
/-! method FittingRings.copy(IIIII)I -/
theorem yv_FR_copy : YV y_FR_copy b_FR_copy 8 (some .int) 5 9 := ⟨m1 1022 (by decide +kernel) (by decide +kernel), m1 1023 (by decide +kernel) (by decide +kernel), ini_FR, m1 1024 (by decide +kernel) (by decide +kernel), ⟨by decide +kernel, by decide +kernel, by decide +kernel⟩, by decide, by decide, T_FR, 11, rfl⟩
theorem d_FR_copy_0 : decode b_FR_copy 0 = .ok (.iload_n 1, 1) := by decide +kernel
theorem d_FR_copy_1 : decode b_FR_copy 1 = .ok (.invokestatic 286, 3) := by decide +kernel
theorem d_FR_copy_4 : decode b_FR_copy 4 = .ok (.ifCond .eq 10, 3) := by decide +kernel
theorem d_FR_copy_7 : decode b_FR_copy 7 = .ok (.iload_n 3, 1) := by decide +kernel
theorem d_FR_copy_8 : decode b_FR_copy 8 = .ok (.invokestatic 286, 3) := by decide +kernel
theorem d_FR_copy_11 : decode b_FR_copy 11 = .ok (.ifCond .ne 6, 3) := by decide +kernel
theorem d_FR_copy_14 : decode b_FR_copy 14 = .ok (.bipush (-2), 2) := by decide +kernel
theorem d_FR_copy_16 : decode b_FR_copy 16 = .ok (.ireturn, 1) := by decide +kernel
theorem d_FR_copy_17 : decode b_FR_copy 17 = .ok (.aload_n 0, 1) := by decide +kernel
theorem d_FR_copy_18 : decode b_FR_copy 18 = .ok (.getfield 67, 3) := by decide +kernel
theorem d_FR_copy_21 : decode b_FR_copy 21 = .ok (.iload_n 1, 1) := by decide +kernel
theorem d_FR_copy_22 : decode b_FR_copy 22 = .ok (.aaload, 1) := by decide +kernel
theorem d_FR_copy_23 : decode b_FR_copy 23 = .ok (.astore 6, 2) := by decide +kernel
theorem d_FR_copy_25 : decode b_FR_copy 25 = .ok (.aload_n 0, 1) := by decide +kernel
theorem d_FR_copy_26 : decode b_FR_copy 26 = .ok (.getfield 67, 3) := by decide +kernel
theorem d_FR_copy_29 : decode b_FR_copy 29 = .ok (.iload_n 3, 1) := by decide +kernel
theorem d_FR_copy_30 : decode b_FR_copy 30 = .ok (.aaload, 1) := by decide +kernel
theorem d_FR_copy_31 : decode b_FR_copy 31 = .ok (.astore 7, 2) := by decide +kernel
theorem d_FR_copy_33 : decode b_FR_copy 33 = .ok (.aload 6, 2) := by decide +kernel
theorem d_FR_copy_35 : decode b_FR_copy 35 = .ok (.invokevirtual 289, 3) := by decide +kernel
theorem d_FR_copy_38 : decode b_FR_copy 38 = .ok (.ifCond .ne 11, 3) := by decide +kernel
theorem d_FR_copy_41 : decode b_FR_copy 41 = .ok (.aload 7, 2) := by decide +kernel
theorem d_FR_copy_43 : decode b_FR_copy 43 = .ok (.invokevirtual 289, 3) := by decide +kernel
theorem d_FR_copy_46 : decode b_FR_copy 46 = .ok (.ifCond .eq 6, 3) := by decide +kernel
theorem d_FR_copy_49 : decode b_FR_copy 49 = .ok (.bipush (-11), 2) := by decide +kernel
theorem d_FR_copy_51 : decode b_FR_copy 51 = .ok (.ireturn, 1) := by decide +kernel
theorem d_FR_copy_52 : decode b_FR_copy 52 = .ok (.aload 6, 2) := by decide +kernel
theorem d_FR_copy_54 : decode b_FR_copy 54 = .ok (.getfield 386, 3) := by decide +kernel
theorem d_FR_copy_57 : decode b_FR_copy 57 = .ok (.aload 7, 2) := by decide +kernel
theorem d_FR_copy_59 : decode b_FR_copy 59 = .ok (.getfield 386, 3) := by decide +kernel
theorem d_FR_copy_62 : decode b_FR_copy 62 = .ok (.if_icmp .eq 6, 3) := by decide +kernel
theorem d_FR_copy_65 : decode b_FR_copy 65 = .ok (.bipush (-13), 2) := by decide +kernel
theorem d_FR_copy_67 : decode b_FR_copy 67 = .ok (.ireturn, 1) := by decide +kernel
theorem d_FR_copy_68 : decode b_FR_copy 68 = .ok (.aload 6, 2) := by decide +kernel
theorem d_FR_copy_70 : decode b_FR_copy 70 = .ok (.iload_n 2, 1) := by decide +kernel
theorem d_FR_copy_71 : decode b_FR_copy 71 = .ok (.iload 5, 2) := by decide +kernel
theorem d_FR_copy_73 : decode b_FR_copy 73 = .ok (.invokevirtual 383, 3) := by decide +kernel
theorem d_FR_copy_76 : decode b_FR_copy 76 = .ok (.ifCond .eq 15, 3) := by decide +kernel
theorem d_FR_copy_79 : decode b_FR_copy 79 = .ok (.aload 7, 2) := by decide +kernel
theorem d_FR_copy_81 : decode b_FR_copy 81 = .ok (.iload 4, 2) := by decide +kernel
theorem d_FR_copy_83 : decode b_FR_copy 83 = .ok (.iload 5, 2) := by decide +kernel
theorem d_FR_copy_85 : decode b_FR_copy 85 = .ok (.invokevirtual 383, 3) := by decide +kernel
theorem d_FR_copy_88 : decode b_FR_copy 88 = .ok (.ifCond .ne 6, 3) := by decide +kernel
theorem d_FR_copy_91 : decode b_FR_copy 91 = .ok (.bipush (-12), 2) := by decide +kernel
theorem d_FR_copy_93 : decode b_FR_copy 93 = .ok (.ireturn, 1) := by decide +kernel
theorem d_FR_copy_94 : decode b_FR_copy 94 = .ok (.aload 6, 2) := by decide +kernel
theorem d_FR_copy_96 : decode b_FR_copy 96 = .ok (.getfield 387, 3) := by decide +kernel
theorem d_FR_copy_99 : decode b_FR_copy 99 = .ok (.iload_n 2, 1) := by decide +kernel
theorem d_FR_copy_100 : decode b_FR_copy 100 = .ok (.aload 7, 2) := by decide +kernel
theorem d_FR_copy_102 : decode b_FR_copy 102 = .ok (.getfield 387, 3) := by decide +kernel
theorem d_FR_copy_105 : decode b_FR_copy 105 = .ok (.iload 4, 2) := by decide +kernel
theorem d_FR_copy_107 : decode b_FR_copy 107 = .ok (.iload 5, 2) := by decide +kernel
theorem d_FR_copy_109 : decode b_FR_copy 109 = .ok (.invokestatic 388, 3) := by decide +kernel
theorem d_FR_copy_112 : decode b_FR_copy 112 = .ok (.iload 5, 2) := by decide +kernel
theorem d_FR_copy_114 : decode b_FR_copy 114 = .ok (.ireturn, 1) := by decide +kernel
def B_FR_copy_0 (a1 : Int32) (a2 : Int32) (a3 : Int32) (a4 : Int32) (a5 : Int32) (σ : Sto) : Option (Int32 × Sto) :=
  ((f_FR_isSheet a1 σ).bind fun q1 => (if (b2i q1.1) = 0 then some ((-2 : Int32), q1.2)
 else ((f_FR_isSheet a3 q1.2).bind fun q2 => (if (b2i q2.1) = 0 then some ((-2 : Int32), q2.2)
  else (if inb a1 4 = true then (if inb a3 4 = true then ((f_Sheet_isMissing (36 + 2 * Int32.toNatClampNeg a1) q2.2).bind fun q5 => (if (b2i q5.1) = 0 then ((f_Sheet_isMissing (36 + 2 * Int32.toNatClampNeg a3) q5.2).bind fun q6 => (if (b2i q6.1) = 0 then (if (gI q6.2 (36 + 2 * Int32.toNatClampNeg a1) 0) = (gI q6.2 (36 + 2 * Int32.toNatClampNeg a3) 0) then ((f_Sheet_hasRoom (36 + 2 * Int32.toNatClampNeg a1) a2 a5 q6.2).bind fun q7 => (if (b2i q7.1) = 0 then some ((-12 : Int32), q7.2)
      else ((f_Sheet_hasRoom (36 + 2 * Int32.toNatClampNeg a3) a4 a5 q7.2).bind fun q8 => (if (b2i q8.1) = 0 then some ((-12 : Int32), q8.2)
       else (if cpk a2 60 a4 60 a5 = true then (lt1 (cpI q8.2 ((36 + 2 * Int32.toNatClampNeg a1) + 1) (Int32.toNatClampNeg a2) ((36 + 2 * Int32.toNatClampNeg a3) + 1) (Int32.toNatClampNeg a4) (Int32.toNatClampNeg a5)) fun σ9 => some (a5, σ9)) else none)))))
     else some ((-13 : Int32), q6.2))
    else some ((-11 : Int32), q6.2)))
   else some ((-11 : Int32), q5.2))) else none) else none)))))
set_option maxHeartbeats 4000000 in
set_option maxRecDepth 100000 in
theorem vB_FR_copy_0 {X : Xt} {E : En} (g : GG X E 2 b_FR_copy R_FR 8) (a1 : Int32) (a2 : Int32) (a3 : Int32) (a4 : Int32) (a5 : Int32) (σ : Sto) : VV X E b_FR_copy 8 eI 0 [(0, .ref (E.2.1 0)), (1, .int a1), (2, .int a2), (3, .int a3), (4, .int a4), (5, .int a5)] [] σ (B_FR_copy_0 a1 a2 a3 a4 a5 σ) := by
  unfold B_FR_copy_0
  refine v_iload_n 1 g d_FR_copy_0 rfl ?_
  refine v_callB (r_S (rest := []) [.int a1] g (m1 745 (by decide +kernel) (by decide +kernel)) ys_FR_isSheet (fun r σ1 h => sp_FR_isSheet g.2.2.1  h) rfl rfl (by decide) (Nat.le_of_ble_eq_true rfl) d_FR_copy_1) (fun q1 => ?_)
  refine v_if_eq 14 g d_FR_copy_4 (by decide) (fun _ => ?_) (fun _ => ?_)
  · refine v_bipush (v := (-2 : Int32)) g d_FR_copy_14 (by decide +kernel) ?_
    exact v_ret d_FR_copy_16 rfl
  · refine v_iload_n 3 g d_FR_copy_7 rfl ?_
    refine v_callB (r_S (rest := []) [.int a3] g (m1 745 (by decide +kernel) (by decide +kernel)) ys_FR_isSheet (fun r σ1 h => sp_FR_isSheet g.2.2.1  h) rfl rfl (by decide) (Nat.le_of_ble_eq_true rfl) d_FR_copy_8) (fun q2 => ?_)
    refine v_if_ne 17 g d_FR_copy_11 (by decide) (fun _ => ?_) (fun _ => ?_)
    · refine v_aload_n 0 g d_FR_copy_17 rfl ?_
      refine v_getR 34 g ff_FR_67 rfl rfl rfl d_FR_copy_18 ?_
      refine v_iload_n 1 g d_FR_copy_21 rfl ?_
      refine v_aaldS g d_FR_copy_22 (fun h3 => ?_)
      refine v_astore [(6, .ref (E.2.1 (36 + 2 * Int32.toNatClampNeg a1))), (0, .ref (E.2.1 0)), (1, .int a1), (2, .int a2), (3, .int a3), (4, .int a4), (5, .int a5)] g d_FR_copy_23 (by decide) rfl ?_
      refine v_aload_n 1 g d_FR_copy_25 rfl ?_
      refine v_getR 34 g ff_FR_67 rfl rfl rfl d_FR_copy_26 ?_
      refine v_iload_n 4 g d_FR_copy_29 rfl ?_
      refine v_aaldS g d_FR_copy_30 (fun h4 => ?_)
      refine v_astore [(7, .ref (E.2.1 (36 + 2 * Int32.toNatClampNeg a3))), (6, .ref (E.2.1 (36 + 2 * Int32.toNatClampNeg a1))), (0, .ref (E.2.1 0)), (1, .int a1), (2, .int a2), (3, .int a3), (4, .int a4), (5, .int a5)] g d_FR_copy_31 (by decide) rfl ?_
      refine v_aload 1 g d_FR_copy_33 rfl ?_
      refine v_callB (r_V (rest := []) [] g (m1 748 (by decide +kernel) (by decide +kernel)) yv_Sheet_isMissing (cls_sh h3) (fun r σ1 h => sp_Sheet_isMissing g.2.2.1 (cls_sh h3) h) rfl rfl (by decide) (Nat.le_of_ble_eq_true rfl) d_FR_copy_35) (fun q5 => ?_)
      refine v_if_ne 49 g d_FR_copy_38 (by decide) (fun _ => ?_) (fun _ => ?_)
      · refine v_bipush (v := (-11 : Int32)) g d_FR_copy_49 (by decide +kernel) ?_
        exact v_ret d_FR_copy_51 rfl
      · refine v_aload 0 g d_FR_copy_41 rfl ?_
        refine v_callB (r_V (rest := []) [] g (m1 748 (by decide +kernel) (by decide +kernel)) yv_Sheet_isMissing (cls_sh h4) (fun r σ1 h => sp_Sheet_isMissing g.2.2.1 (cls_sh h4) h) rfl rfl (by decide) (Nat.le_of_ble_eq_true rfl) d_FR_copy_43) (fun q6 => ?_)
        refine v_if_eq 52 g d_FR_copy_46 (by decide) (fun _ => ?_) (fun _ => ?_)
        · refine v_aload 1 g d_FR_copy_52 rfl ?_
          refine v_getI g ff_FR_386 (cls_sh h3) rfl d_FR_copy_54 ?_
          refine v_aload 0 g d_FR_copy_57 rfl ?_
          refine v_getI g ff_FR_386 (cls_sh h4) rfl d_FR_copy_59 ?_
          refine v_icmp_eq 68 g d_FR_copy_62 (by decide) (fun _ => ?_) (fun _ => ?_)
          · refine v_aload 1 g d_FR_copy_68 rfl ?_
            refine v_iload_n 4 g d_FR_copy_70 rfl ?_
            refine v_iload 7 g d_FR_copy_71 rfl ?_
            refine v_callB (r_V (rest := []) [.int a2, .int a5] g (m1 1016 (by decide +kernel) (by decide +kernel)) yv_Sheet_hasRoom (cls_sh h3) (fun r σ1 h => sp_Sheet_hasRoom g.2.2.1 (cls_sh h3) h) rfl rfl (by decide) (Nat.le_of_ble_eq_true rfl) d_FR_copy_73) (fun q7 => ?_)
            refine v_if_eq 91 g d_FR_copy_76 (by decide) (fun _ => ?_) (fun _ => ?_)
            · refine v_bipush (v := (-12 : Int32)) g d_FR_copy_91 (by decide +kernel) ?_
              exact v_ret d_FR_copy_93 rfl
            · refine v_aload 0 g d_FR_copy_79 rfl ?_
              refine v_iload 6 g d_FR_copy_81 rfl ?_
              refine v_iload 7 g d_FR_copy_83 rfl ?_
              refine v_callB (r_V (rest := []) [.int a4, .int a5] g (m1 1016 (by decide +kernel) (by decide +kernel)) yv_Sheet_hasRoom (cls_sh h4) (fun r σ1 h => sp_Sheet_hasRoom g.2.2.1 (cls_sh h4) h) rfl rfl (by decide) (Nat.le_of_ble_eq_true rfl) d_FR_copy_85) (fun q8 => ?_)
              refine v_if_ne 94 g d_FR_copy_88 (by decide) (fun _ => ?_) (fun _ => ?_)
              · refine v_aload 1 g d_FR_copy_94 rfl ?_
                refine v_getR ((36 + 2 * Int32.toNatClampNeg a1) + 1) g ff_FR_387 (cls_sh h3) rfl (rf_Sheet_2 (cls_sh h3)) d_FR_copy_96 ?_
                refine v_iload_n 4 g d_FR_copy_99 rfl ?_
                refine v_aload 0 g d_FR_copy_100 rfl ?_
                refine v_getR ((36 + 2 * Int32.toNatClampNeg a3) + 1) g ff_FR_387 (cls_sh h4) rfl (rf_Sheet_2 (cls_sh h4)) d_FR_copy_102 ?_
                refine v_iload 6 g d_FR_copy_105 rfl ?_
                refine v_iload 7 g d_FR_copy_107 rfl ?_
                refine v_copyI g (m1 1025 (by decide +kernel) (by decide +kernel)) (ar_Sheet_2 (cls_sh h3)).1 (ar_Sheet_2 (cls_sh h3)).2 (ar_Sheet_2 (cls_sh h4)).1 (ar_Sheet_2 (cls_sh h4)).2 (by decide) d_FR_copy_109 (fun _ => ?_)
                refine v_nlet (fun σ9 eσ9 => ?_)
                rw [← eσ9]
                refine v_iload 7 g d_FR_copy_112 rfl ?_
                exact v_ret d_FR_copy_114 rfl
              · refine v_bipush (v := (-12 : Int32)) g d_FR_copy_91 (by decide +kernel) ?_
                exact v_ret d_FR_copy_93 rfl
          · refine v_bipush (v := (-13 : Int32)) g d_FR_copy_65 (by decide +kernel) ?_
            exact v_ret d_FR_copy_67 rfl
        · refine v_bipush (v := (-11 : Int32)) g d_FR_copy_49 (by decide +kernel) ?_
          exact v_ret d_FR_copy_51 rfl
    · refine v_bipush (v := (-2 : Int32)) g d_FR_copy_14 (by decide +kernel) ?_
      exact v_ret d_FR_copy_16 rfl
def f_FR_copy (a1 : Int32) (a2 : Int32) (a3 : Int32) (a4 : Int32) (a5 : Int32) (σ : Sto) : Option (Int32 × Sto) := B_FR_copy_0 a1 a2 a3 a4 a5 σ
theorem sp_FR_copy {l : Launch} {E : En} (hE : Dj E) {a1 : Int32} {a2 : Int32} {a3 : Int32} {a4 : Int32} {a5 : Int32} {σ : Sto} {r : Int32} {σ' : Sto} (h : f_FR_copy a1 a2 a3 a4 a5 σ = some (r, σ')) : Ct l E y_FR_copy (wsM y_FR_copy b_FR_copy 8 (some .int)) 2 [.ref (E.2.1 0), .int a1, .int a2, .int a3, .int a4, .int a5] σ (eI r) σ' :=
  ct_of hE (by decide +kernel) (Nat.le_of_ble_eq_true rfl) (fun x => Or.inl ⟨rfl, x, rfl⟩) (fun X _ g => vB_FR_copy_0 g a1 a2 a3 a4 a5 σ) r σ' h
/-! method FittingRings.image()I -/
theorem yv_FR_image : YV y_FR_image b_FR_image 1 (some .int) 0 9 := ⟨m1 1027 (by decide +kernel) (by decide +kernel), m1 1028 (by decide +kernel) (by decide +kernel), ini_FR, m1 1029 (by decide +kernel) (by decide +kernel), ⟨by decide +kernel, by decide +kernel, by decide +kernel⟩, by decide, by decide, T_FR, 11, rfl⟩
theorem d_FR_image_0 : decode b_FR_image 0 = .ok (.aload_n 0, 1) := by decide +kernel
theorem d_FR_image_1 : decode b_FR_image 1 = .ok (.getfield 16, 3) := by decide +kernel
theorem d_FR_image_4 : decode b_FR_image 4 = .ok (.aload_n 0, 1) := by decide +kernel
theorem d_FR_image_5 : decode b_FR_image 5 = .ok (.getfield 10, 3) := by decide +kernel
theorem d_FR_image_8 : decode b_FR_image 8 = .ok (.invokevirtual 330, 3) := by decide +kernel
theorem d_FR_image_11 : decode b_FR_image 11 = .ok (.aload_n 0, 1) := by decide +kernel
theorem d_FR_image_12 : decode b_FR_image 12 = .ok (.iconst 1, 1) := by decide +kernel
theorem d_FR_image_13 : decode b_FR_image 13 = .ok (.putfield 22, 3) := by decide +kernel
theorem d_FR_image_16 : decode b_FR_image 16 = .ok (.aload_n 0, 1) := by decide +kernel
theorem d_FR_image_17 : decode b_FR_image 17 = .ok (.getfield 10, 3) := by decide +kernel
theorem d_FR_image_20 : decode b_FR_image 20 = .ok (.getfield 241, 3) := by decide +kernel
theorem d_FR_image_23 : decode b_FR_image 23 = .ok (.ireturn, 1) := by decide +kernel
def B_FR_image_0 (σ : Sto) : Option (Int32 × Sto) :=
  ((f_Net_become 6 1 σ).bind fun q1 => some ((gI (sI q1.2 0 3 (1 : Int32)) 1 0), (sI q1.2 0 3 (1 : Int32))))
set_option maxHeartbeats 4000000 in
set_option maxRecDepth 100000 in
theorem vB_FR_image_0 {X : Xt} {E : En} (g : GG X E 2 b_FR_image R_FR 1) (σ : Sto) : VV X E b_FR_image 1 eI 0 [(0, .ref (E.2.1 0))] [] σ (B_FR_image_0 σ) := by
  unfold B_FR_image_0
  refine v_aload_n 0 g d_FR_image_0 rfl ?_
  refine v_getR 6 g ff_FR_16 rfl rfl rfl d_FR_image_1 ?_
  refine v_aload_n 0 g d_FR_image_4 rfl ?_
  refine v_getR 1 g ff_FR_10 rfl rfl rfl d_FR_image_5 ?_
  refine v_callU (r_V (rest := []) [.ref (E.2.1 1)] g (m1 830 (by decide +kernel) (by decide +kernel)) yv_Net_become rfl (fun r σ1 h => sp_Net_become g.2.2.1 rfl rfl h) rfl rfl (by decide) (Nat.le_of_ble_eq_true rfl) d_FR_image_8) (fun q1 => ?_)
  refine v_aload_n 0 g d_FR_image_11 rfl ?_
  refine v_iconst (v := (1 : Int32)) g d_FR_image_12 (by decide +kernel) ?_
  refine v_putZ g fp_FR_22 rfl rfl (by decide) d_FR_image_13 ?_
  refine v_aload_n 0 g d_FR_image_16 rfl ?_
  refine v_getR 1 g ff_FR_10 rfl rfl rfl d_FR_image_17 ?_
  refine v_getI g ff_FR_241 rfl rfl d_FR_image_20 ?_
  exact v_ret d_FR_image_23 rfl
def f_FR_image (σ : Sto) : Option (Int32 × Sto) := B_FR_image_0 σ
theorem sp_FR_image {l : Launch} {E : En} (hE : Dj E) {σ : Sto} {r : Int32} {σ' : Sto} (h : f_FR_image σ = some (r, σ')) : Ct l E y_FR_image (wsM y_FR_image b_FR_image 1 (some .int)) 2 [.ref (E.2.1 0)] σ (eI r) σ' :=
  ct_of hE (by decide +kernel) (Nat.le_of_ble_eq_true rfl) (fun x => Or.inl ⟨rfl, x, rfl⟩) (fun X _ g => vB_FR_image_0 g σ) r σ' h
/-! method FittingRings.back()I -/
theorem yv_FR_back : YV y_FR_back b_FR_back 1 (some .int) 0 9 := ⟨m1 1031 (by decide +kernel) (by decide +kernel), m1 1032 (by decide +kernel) (by decide +kernel), ini_FR, m1 1033 (by decide +kernel) (by decide +kernel), ⟨by decide +kernel, by decide +kernel, by decide +kernel⟩, by decide, by decide, T_FR, 11, rfl⟩
theorem d_FR_back_0 : decode b_FR_back 0 = .ok (.aload_n 0, 1) := by decide +kernel
theorem d_FR_back_1 : decode b_FR_back 1 = .ok (.getfield 22, 3) := by decide +kernel
theorem d_FR_back_4 : decode b_FR_back 4 = .ok (.ifCond .ne 6, 3) := by decide +kernel
theorem d_FR_back_7 : decode b_FR_back 7 = .ok (.bipush (-3), 2) := by decide +kernel
theorem d_FR_back_9 : decode b_FR_back 9 = .ok (.ireturn, 1) := by decide +kernel
theorem d_FR_back_10 : decode b_FR_back 10 = .ok (.aload_n 0, 1) := by decide +kernel
theorem d_FR_back_11 : decode b_FR_back 11 = .ok (.getfield 10, 3) := by decide +kernel
theorem d_FR_back_14 : decode b_FR_back 14 = .ok (.aload_n 0, 1) := by decide +kernel
theorem d_FR_back_15 : decode b_FR_back 15 = .ok (.getfield 16, 3) := by decide +kernel
theorem d_FR_back_18 : decode b_FR_back 18 = .ok (.invokevirtual 330, 3) := by decide +kernel
theorem d_FR_back_21 : decode b_FR_back 21 = .ok (.aload_n 0, 1) := by decide +kernel
theorem d_FR_back_22 : decode b_FR_back 22 = .ok (.getfield 10, 3) := by decide +kernel
theorem d_FR_back_25 : decode b_FR_back 25 = .ok (.getfield 241, 3) := by decide +kernel
theorem d_FR_back_28 : decode b_FR_back 28 = .ok (.ireturn, 1) := by decide +kernel
def B_FR_back_0 (σ : Sto) : Option (Int32 × Sto) :=
  (if (gI σ 0 3) = 0 then some ((-3 : Int32), σ)
 else ((f_Net_become 1 6 σ).bind fun q1 => some ((gI q1.2 1 0), q1.2)))
set_option maxHeartbeats 4000000 in
set_option maxRecDepth 100000 in
theorem vB_FR_back_0 {X : Xt} {E : En} (g : GG X E 2 b_FR_back R_FR 1) (σ : Sto) : VV X E b_FR_back 1 eI 0 [(0, .ref (E.2.1 0))] [] σ (B_FR_back_0 σ) := by
  unfold B_FR_back_0
  refine v_aload_n 0 g d_FR_back_0 rfl ?_
  refine v_getI g ff_FR_22 rfl rfl d_FR_back_1 ?_
  refine v_if_ne 10 g d_FR_back_4 (by decide) (fun _ => ?_) (fun _ => ?_)
  · refine v_aload_n 0 g d_FR_back_10 rfl ?_
    refine v_getR 1 g ff_FR_10 rfl rfl rfl d_FR_back_11 ?_
    refine v_aload_n 0 g d_FR_back_14 rfl ?_
    refine v_getR 6 g ff_FR_16 rfl rfl rfl d_FR_back_15 ?_
    refine v_callU (r_V (rest := []) [.ref (E.2.1 6)] g (m1 830 (by decide +kernel) (by decide +kernel)) yv_Net_become rfl (fun r σ1 h => sp_Net_become g.2.2.1 rfl rfl h) rfl rfl (by decide) (Nat.le_of_ble_eq_true rfl) d_FR_back_18) (fun q1 => ?_)
    refine v_aload_n 0 g d_FR_back_21 rfl ?_
    refine v_getR 1 g ff_FR_10 rfl rfl rfl d_FR_back_22 ?_
    refine v_getI g ff_FR_241 rfl rfl d_FR_back_25 ?_
    exact v_ret d_FR_back_28 rfl
  · refine v_bipush (v := (-3 : Int32)) g d_FR_back_7 (by decide +kernel) ?_
    exact v_ret d_FR_back_9 rfl
def f_FR_back (σ : Sto) : Option (Int32 × Sto) := B_FR_back_0 σ
theorem sp_FR_back {l : Launch} {E : En} (hE : Dj E) {σ : Sto} {r : Int32} {σ' : Sto} (h : f_FR_back σ = some (r, σ')) : Ct l E y_FR_back (wsM y_FR_back b_FR_back 1 (some .int)) 2 [.ref (E.2.1 0)] σ (eI r) σ' :=
  ct_of hE (by decide +kernel) (Nat.le_of_ble_eq_true rfl) (fun x => Or.inl ⟨rfl, x, rfl⟩) (fun X _ g => vB_FR_back_0 g σ) r σ' h
/-! method FittingRings.count(I)I -/
theorem yv_FR_count : YV y_FR_count b_FR_count 2 (some .int) 1 9 := ⟨m1 1035 (by decide +kernel) (by decide +kernel), m1 1036 (by decide +kernel) (by decide +kernel), ini_FR, m1 1037 (by decide +kernel) (by decide +kernel), ⟨by decide +kernel, by decide +kernel, by decide +kernel⟩, by decide, by decide, T_FR, 11, rfl⟩
theorem d_FR_count_0 : decode b_FR_count 0 = .ok (.iload_n 1, 1) := by decide +kernel
theorem d_FR_count_1 : decode b_FR_count 1 = .ok (.tableswitch 63 0 3 #[31, 39, 47, 55], 31) := by decide +kernel
theorem d_FR_count_32 : decode b_FR_count 32 = .ok (.aload_n 0, 1) := by decide +kernel
theorem d_FR_count_33 : decode b_FR_count 33 = .ok (.getfield 10, 3) := by decide +kernel
theorem d_FR_count_36 : decode b_FR_count 36 = .ok (.getfield 241, 3) := by decide +kernel
theorem d_FR_count_39 : decode b_FR_count 39 = .ok (.ireturn, 1) := by decide +kernel
theorem d_FR_count_40 : decode b_FR_count 40 = .ok (.aload_n 0, 1) := by decide +kernel
theorem d_FR_count_41 : decode b_FR_count 41 = .ok (.getfield 10, 3) := by decide +kernel
theorem d_FR_count_44 : decode b_FR_count 44 = .ok (.invokevirtual 132, 3) := by decide +kernel
theorem d_FR_count_47 : decode b_FR_count 47 = .ok (.ireturn, 1) := by decide +kernel
theorem d_FR_count_48 : decode b_FR_count 48 = .ok (.aload_n 0, 1) := by decide +kernel
theorem d_FR_count_49 : decode b_FR_count 49 = .ok (.getfield 54, 3) := by decide +kernel
theorem d_FR_count_52 : decode b_FR_count 52 = .ok (.getfield 337, 3) := by decide +kernel
theorem d_FR_count_55 : decode b_FR_count 55 = .ok (.ireturn, 1) := by decide +kernel
theorem d_FR_count_56 : decode b_FR_count 56 = .ok (.aload_n 0, 1) := by decide +kernel
theorem d_FR_count_57 : decode b_FR_count 57 = .ok (.getfield 40, 3) := by decide +kernel
theorem d_FR_count_60 : decode b_FR_count 60 = .ok (.getfield 282, 3) := by decide +kernel
theorem d_FR_count_63 : decode b_FR_count 63 = .ok (.ireturn, 1) := by decide +kernel
theorem d_FR_count_64 : decode b_FR_count 64 = .ok (.bipush (-2), 2) := by decide +kernel
theorem d_FR_count_66 : decode b_FR_count 66 = .ok (.ireturn, 1) := by decide +kernel
def B_FR_count_0 (a1 : Int32) (σ : Sto) : Option (Int32 × Sto) :=
  (if a1 = (0 : Int32) then some ((gI σ 1 0), σ)
 else (if a1 = (1 : Int32) then ((f_Net_ties 1 σ).bind fun q1 => some (q1.1, q1.2))
  else (if a1 = (2 : Int32) then some ((gI σ 31 0), σ)
   else (if a1 = (3 : Int32) then some ((gI σ 21 1), σ)
    else some ((-2 : Int32), σ)))))
set_option maxHeartbeats 4000000 in
set_option maxRecDepth 100000 in
theorem vB_FR_count_0 {X : Xt} {E : En} (g : GG X E 3 b_FR_count R_FR 2) (a1 : Int32) (σ : Sto) : VV X E b_FR_count 2 eI 0 [(0, .ref (E.2.1 0)), (1, .int a1)] [] σ (B_FR_count_0 a1 σ) := by
  unfold B_FR_count_0
  refine v_iload_n 1 g d_FR_count_0 rfl ?_
  refine v_ite _ (fun h_0 => ?_) (fun h_0 => ?_)
  · refine v_tableIn 32 g d_FR_count_1 (by rw [h_0]; decide +kernel) (by rw [h_0]; decide +kernel) (off := 31) (by rw [h_0]; decide +kernel) (by decide) ?_
    refine v_aload_n 0 g d_FR_count_32 rfl ?_
    refine v_getR 1 g ff_FR_10 rfl rfl rfl d_FR_count_33 ?_
    refine v_getI g ff_FR_241 rfl rfl d_FR_count_36 ?_
    exact v_ret d_FR_count_39 rfl
  · refine v_ite _ (fun h_1 => ?_) (fun h_1 => ?_)
    · refine v_tableIn 40 g d_FR_count_1 (by rw [h_1]; decide +kernel) (by rw [h_1]; decide +kernel) (off := 39) (by rw [h_1]; decide +kernel) (by decide) ?_
      refine v_aload_n 0 g d_FR_count_40 rfl ?_
      refine v_getR 1 g ff_FR_10 rfl rfl rfl d_FR_count_41 ?_
      refine v_callI (r_V (rest := []) [] g (m1 441 (by decide +kernel) (by decide +kernel)) yv_Net_ties rfl (fun r σ1 h => sp_Net_ties g.2.2.1 rfl h) rfl rfl (by decide) (Nat.le_of_ble_eq_true rfl) d_FR_count_44) (fun q1 => ?_)
      exact v_ret d_FR_count_47 rfl
    · refine v_ite _ (fun h_2 => ?_) (fun h_2 => ?_)
      · refine v_tableIn 48 g d_FR_count_1 (by rw [h_2]; decide +kernel) (by rw [h_2]; decide +kernel) (off := 47) (by rw [h_2]; decide +kernel) (by decide) ?_
        refine v_aload_n 0 g d_FR_count_48 rfl ?_
        refine v_getR 31 g ff_FR_54 rfl rfl rfl d_FR_count_49 ?_
        refine v_getI g ff_FR_337 rfl rfl d_FR_count_52 ?_
        exact v_ret d_FR_count_55 rfl
      · refine v_ite _ (fun h_3 => ?_) (fun h_3 => ?_)
        · refine v_tableIn 56 g d_FR_count_1 (by rw [h_3]; decide +kernel) (by rw [h_3]; decide +kernel) (off := 55) (by rw [h_3]; decide +kernel) (by decide) ?_
          refine v_aload_n 0 g d_FR_count_56 rfl ?_
          refine v_getR 21 g ff_FR_40 rfl rfl rfl d_FR_count_57 ?_
          refine v_getI g ff_FR_282 rfl rfl d_FR_count_60 ?_
          exact v_ret d_FR_count_63 rfl
        · refine v_tableOut 64 g d_FR_count_1 (by have n0 := sw_ne h_0 (show ((0 : Int32)).toInt = 0 by decide +kernel); have n1 := sw_ne h_1 (show ((1 : Int32)).toInt = 1 by decide +kernel); have n2 := sw_ne h_2 (show ((2 : Int32)).toInt = 2 by decide +kernel); have n3 := sw_ne h_3 (show ((3 : Int32)).toInt = 3 by decide +kernel); omega) (by decide) ?_
          refine v_bipush (v := (-2 : Int32)) g d_FR_count_64 (by decide +kernel) ?_
          exact v_ret d_FR_count_66 rfl
def f_FR_count (a1 : Int32) (σ : Sto) : Option (Int32 × Sto) := B_FR_count_0 a1 σ
theorem sp_FR_count {l : Launch} {E : En} (hE : Dj E) {a1 : Int32} {σ : Sto} {r : Int32} {σ' : Sto} (h : f_FR_count a1 σ = some (r, σ')) : Ct l E y_FR_count (wsM y_FR_count b_FR_count 2 (some .int)) 3 [.ref (E.2.1 0), .int a1] σ (eI r) σ' :=
  ct_of hE (by decide +kernel) (Nat.le_of_ble_eq_true rfl) (fun x => Or.inl ⟨rfl, x, rfl⟩) (fun X _ g => vB_FR_count_0 g a1 σ) r σ' h
