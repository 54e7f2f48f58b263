theorem ff_Tape_15 : FF R_Tape 15 8 1 := ⟨R_Tape, T_Tape, 5, rfl, in_Tape, by decide, rfl, by decide, m1 258 (by decide +kernel) (by decide +kernel)⟩
theorem ff_Tape_19 : FF R_Tape 19 8 2 := ⟨R_Tape, T_Tape, 5, rfl, in_Tape, by decide, rfl, by decide, m1 259 (by decide +kernel) (by decide +kernel)⟩
theorem ff_Tape_22 : FF R_Tape 22 8 3 := ⟨R_Tape, T_Tape, 5, rfl, in_Tape, by decide, rfl, by decide, m1 260 (by decide +kernel) (by decide +kernel)⟩
theorem ff_Tape_25 : FF R_Tape 25 8 4 := ⟨R_Tape, T_Tape, 5, rfl, in_Tape, by decide, rfl, by decide, m1 261 (by decide +kernel) (by decide +kernel)⟩
theorem ff_Tape_63 : FF R_Tape 63 4 0 := ⟨R_Net, T_Net, 5, rfl, in_Net, by decide, rfl, by decide, m1 107 (by decide +kernel) (by decide +kernel)⟩
theorem ff_Tape_9 : FF R_Tape 9 8 0 := ⟨R_Tape, T_Tape, 5, rfl, in_Tape, by decide, rfl, by decide, m1 256 (by decide +kernel) (by decide +kernel)⟩
theorem fp_Tape_19 : FP R_Tape 19 8 2 (.int) := ⟨R_Tape, T_Tape, 5, rfl, in_Tape, by decide, rfl, by decide, m1 259 (by decide +kernel) (by decide +kernel), ⟨ty_Tape, tyok_Tape⟩, nm_Tape, rfl, by decide +kernel⟩
theorem fp_Tape_22 : FP R_Tape 22 8 3 (.int) := ⟨R_Tape, T_Tape, 5, rfl, in_Tape, by decide, rfl, by decide, m1 260 (by decide +kernel) (by decide +kernel), ⟨ty_Tape, tyok_Tape⟩, nm_Tape, rfl, by decide +kernel⟩
theorem fp_Tape_25 : FP R_Tape 25 8 4 (.int) := ⟨R_Tape, T_Tape, 5, rfl, in_Tape, by decide, rfl, by decide, m1 261 (by decide +kernel) (by decide +kernel), ⟨ty_Tape, tyok_Tape⟩, nm_Tape, rfl, by decide +kernel⟩
theorem fp_Tape_9 : FP R_Tape 9 8 0 (.int) := ⟨R_Tape, T_Tape, 5, rfl, in_Tape, by decide, rfl, by decide, m1 256 (by decide +kernel) (by decide +kernel), ⟨ty_Tape, tyok_Tape⟩, nm_Tape, rfl, by decide +kernel⟩
/-! method FittingRings$Tape.append(IJ)I -/
theorem yv_Tape_append : YV y_Tape_append b_Tape_append 5 (some .int) 2 8 := ⟨m1 823 (by decide +kernel) (by decide +kernel), m1 824 (by decide +kernel) (by decide +kernel), ini_Tape, m1 825 (by decide +kernel) (by decide +kernel), ⟨by decide +kernel, by decide +kernel, by decide +kernel⟩, by decide, by decide, T_Tape, 5, rfl⟩
theorem d_Tape_append_0 : decode b_Tape_append 0 = .ok (.aload_n 0, 1) := by decide +kernel
theorem d_Tape_append_1 : decode b_Tape_append 1 = .ok (.getfield 9, 3) := by decide +kernel
theorem d_Tape_append_4 : decode b_Tape_append 4 = .ok (.iload_n 1, 1) := by decide +kernel
theorem d_Tape_append_5 : decode b_Tape_append 5 = .ok (.iadd, 1) := by decide +kernel
theorem d_Tape_append_6 : decode b_Tape_append 6 = .ok (.sipush 160, 3) := by decide +kernel
theorem d_Tape_append_9 : decode b_Tape_append 9 = .ok (.if_icmp .le 6, 3) := by decide +kernel
theorem d_Tape_append_12 : decode b_Tape_append 12 = .ok (.bipush (-4), 2) := by decide +kernel
theorem d_Tape_append_14 : decode b_Tape_append 14 = .ok (.ireturn, 1) := by decide +kernel
theorem d_Tape_append_15 : decode b_Tape_append 15 = .ok (.iconst 0, 1) := by decide +kernel
theorem d_Tape_append_16 : decode b_Tape_append 16 = .ok (.istore 4, 2) := by decide +kernel
theorem d_Tape_append_18 : decode b_Tape_append 18 = .ok (.iload 4, 2) := by decide +kernel
theorem d_Tape_append_20 : decode b_Tape_append 20 = .ok (.iload_n 1, 1) := by decide +kernel
theorem d_Tape_append_21 : decode b_Tape_append 21 = .ok (.if_icmp .ge 40, 3) := by decide +kernel
theorem d_Tape_append_24 : decode b_Tape_append 24 = .ok (.aload_n 0, 1) := by decide +kernel
theorem d_Tape_append_25 : decode b_Tape_append 25 = .ok (.getfield 15, 3) := by decide +kernel
theorem d_Tape_append_28 : decode b_Tape_append 28 = .ok (.aload_n 0, 1) := by decide +kernel
theorem d_Tape_append_29 : decode b_Tape_append 29 = .ok (.getfield 9, 3) := by decide +kernel
theorem d_Tape_append_32 : decode b_Tape_append 32 = .ok (.lload_n 2, 1) := by decide +kernel
theorem d_Tape_append_33 : decode b_Tape_append 33 = .ok (.bipush 56, 2) := by decide +kernel
theorem d_Tape_append_35 : decode b_Tape_append 35 = .ok (.bipush 8, 2) := by decide +kernel
theorem d_Tape_append_37 : decode b_Tape_append 37 = .ok (.iload 4, 2) := by decide +kernel
theorem d_Tape_append_39 : decode b_Tape_append 39 = .ok (.imul, 1) := by decide +kernel
theorem d_Tape_append_40 : decode b_Tape_append 40 = .ok (.isub, 1) := by decide +kernel
theorem d_Tape_append_41 : decode b_Tape_append 41 = .ok (.lushr, 1) := by decide +kernel
theorem d_Tape_append_42 : decode b_Tape_append 42 = .ok (.l2i, 1) := by decide +kernel
theorem d_Tape_append_43 : decode b_Tape_append 43 = .ok (.i2b, 1) := by decide +kernel
theorem d_Tape_append_44 : decode b_Tape_append 44 = .ok (.bastore, 1) := by decide +kernel
theorem d_Tape_append_45 : decode b_Tape_append 45 = .ok (.aload_n 0, 1) := by decide +kernel
theorem d_Tape_append_46 : decode b_Tape_append 46 = .ok (.dup, 1) := by decide +kernel
theorem d_Tape_append_47 : decode b_Tape_append 47 = .ok (.getfield 9, 3) := by decide +kernel
theorem d_Tape_append_50 : decode b_Tape_append 50 = .ok (.iconst 1, 1) := by decide +kernel
theorem d_Tape_append_51 : decode b_Tape_append 51 = .ok (.iadd, 1) := by decide +kernel
theorem d_Tape_append_52 : decode b_Tape_append 52 = .ok (.putfield 9, 3) := by decide +kernel
theorem d_Tape_append_55 : decode b_Tape_append 55 = .ok (.iinc 4 1, 3) := by decide +kernel
theorem d_Tape_append_58 : decode b_Tape_append 58 = .ok (.goto (-40), 3) := by decide +kernel
theorem d_Tape_append_61 : decode b_Tape_append 61 = .ok (.aload_n 0, 1) := by decide +kernel
theorem d_Tape_append_62 : decode b_Tape_append 62 = .ok (.getfield 9, 3) := by decide +kernel
theorem d_Tape_append_65 : decode b_Tape_append 65 = .ok (.ireturn, 1) := by decide +kernel
def B_Tape_append_18 (k18 : Int32 → Int64 → Int32 → Sto → Option (Int32 × Sto)) (v1 : Int32) (v2 : Int64) (v4 : Int32) (σ : Sto) : Option (Int32 × Sto) :=
  (if v1 ≤ v4 then some ((gI σ 31 0), σ)
 else (if inb (gI σ 31 0) 160 = true then (lt1 (sI σ 32 (Int32.toNatClampNeg (gI σ 31 0)) (vp_nar .byte (i2b (Int64.toInt32 (lur v2 ((56 : Int32) - ((8 : Int32) * v4))))))) fun σ1 => k18 v1 v2 (v4 + (1 : Int32)) (sI σ1 31 0 ((gI σ1 31 0) + (1 : Int32)))) else none))
set_option maxHeartbeats 4000000 in
set_option maxRecDepth 100000 in
theorem vB_Tape_append_18 {X : Xt} {E : En} (g : GG X E 1 b_Tape_append R_Tape 5) {k18 : Int32 → Int64 → Int32 → Sto → Option (Int32 × Sto)} (hk18 : ∀ (v1 : Int32) (v2 : Int64) (v4 : Int32) (σ : Sto), VV X E b_Tape_append 5 eI 18 [(0, .ref (E.2.1 31)), (1, .int v1), (2, .long v2), (4, .int v4)] [] σ (k18 v1 v2 v4 σ)) (v1 : Int32) (v2 : Int64) (v4 : Int32) (σ : Sto) : VV X E b_Tape_append 5 eI 18 [(0, .ref (E.2.1 31)), (1, .int v1), (2, .long v2), (4, .int v4)] [] σ (B_Tape_append_18 k18 v1 v2 v4 σ) := by
  unfold B_Tape_append_18
  refine v_iload 3 g d_Tape_append_18 rfl ?_
  refine v_iload_n 1 g d_Tape_append_20 rfl ?_
  refine v_icmp_ge 61 g d_Tape_append_21 (by decide) (fun _ => ?_) (fun _ => ?_)
  · refine v_aload_n 0 g d_Tape_append_61 rfl ?_
    refine v_getI g ff_Tape_9 rfl rfl d_Tape_append_62 ?_
    exact v_ret d_Tape_append_65 rfl
  · refine v_aload_n 0 g d_Tape_append_24 rfl ?_
    refine v_getR 32 g ff_Tape_15 rfl rfl rfl d_Tape_append_25 ?_
    refine v_aload_n 0 g d_Tape_append_28 rfl ?_
    refine v_getI g ff_Tape_9 rfl rfl d_Tape_append_29 ?_
    refine v_lload_n 2 g d_Tape_append_32 rfl ?_
    refine v_bipush (v := (56 : Int32)) g d_Tape_append_33 (by decide +kernel) ?_
    refine v_bipush (v := (8 : Int32)) g d_Tape_append_35 (by decide +kernel) ?_
    refine v_iload 3 g d_Tape_append_37 rfl ?_
    refine v_imul g d_Tape_append_39 ?_
    refine v_isub g d_Tape_append_40 ?_
    refine v_lushr g d_Tape_append_41 ?_
    refine v_l2i g d_Tape_append_42 ?_
    refine v_i2b g d_Tape_append_43 ?_
    refine v_bast g rfl rfl d_Tape_append_44 (fun _ => ?_)
    refine v_nlet (fun σ1 eσ1 => ?_)
    rw [← eσ1]
    refine v_aload_n 0 g d_Tape_append_45 rfl ?_
    refine v_dup g d_Tape_append_46 rfl ?_
    refine v_getI g ff_Tape_9 rfl rfl d_Tape_append_47 ?_
    refine v_iconst (v := (1 : Int32)) g d_Tape_append_50 (by decide +kernel) ?_
    refine v_iadd g d_Tape_append_51 ?_
    refine v_putI g fp_Tape_9 rfl rfl d_Tape_append_52 ?_
    refine v_iinc 3 [(4, .int (v4 + (1 : Int32))), (0, .ref (E.2.1 31)), (1, .int v1), (2, .long v2)] g d_Tape_append_55 rfl (v := (1 : Int32)) (by decide +kernel) (by decide) rfl ?_
    refine v_goto 18 g d_Tape_append_58 (by decide) ?_
    exact v_sub [1,2,3,0] rfl (hk18 v1 v2 (v4 + (1 : Int32)) (sI σ1 31 0 ((gI σ1 31 0) + (1 : Int32))))
def L_Tape_append_18 : Nat → Int32 → Int64 → Int32 → Sto → Option (Int32 × Sto)
  | 0, _, _, _, _ => none
  | fu + 1, v1, v2, v4, σ => B_Tape_append_18 (L_Tape_append_18 fu) v1 v2 v4 σ
theorem vL_Tape_append_18 {X : Xt} {E : En} (g : GG X E 1 b_Tape_append R_Tape 5) (fu : Nat) : ∀ (v1 : Int32) (v2 : Int64) (v4 : Int32) (σ : Sto), VV X E b_Tape_append 5 eI 18 [(0, .ref (E.2.1 31)), (1, .int v1), (2, .long v2), (4, .int v4)] [] σ (L_Tape_append_18 fu v1 v2 v4 σ) := by
  induction fu with
  | zero => intros; exact v_none
  | succ fu ih =>
    intro v1 v2 v4 σ
    exact vB_Tape_append_18 g ih v1 v2 v4 σ
def B_Tape_append_0 (a1 : Int32) (a2 : Int64) (σ : Sto) : Option (Int32 × Sto) :=
  (if ((gI σ 31 0) + a1) ≤ (160 : Int32) then L_Tape_append_18 LF a1 a2 (0 : Int32) σ
 else some ((-4 : Int32), σ))
set_option maxHeartbeats 4000000 in
set_option maxRecDepth 100000 in
theorem vB_Tape_append_0 {X : Xt} {E : En} (g : GG X E 1 b_Tape_append R_Tape 5) (a1 : Int32) (a2 : Int64) (σ : Sto) : VV X E b_Tape_append 5 eI 0 [(0, .ref (E.2.1 31)), (1, .int a1), (2, .long a2)] [] σ (B_Tape_append_0 a1 a2 σ) := by
  unfold B_Tape_append_0
  refine v_aload_n 0 g d_Tape_append_0 rfl ?_
  refine v_getI g ff_Tape_9 rfl rfl d_Tape_append_1 ?_
  refine v_iload_n 1 g d_Tape_append_4 rfl ?_
  refine v_iadd g d_Tape_append_5 ?_
  refine v_sipush (v := (160 : Int32)) g d_Tape_append_6 (by decide +kernel) ?_
  refine v_icmp_le 15 g d_Tape_append_9 (by decide) (fun _ => ?_) (fun _ => ?_)
  · refine v_iconst (v := (0 : Int32)) g d_Tape_append_15 (by decide +kernel) ?_
    refine v_istore [(4, .int (0 : Int32)), (0, .ref (E.2.1 31)), (1, .int a1), (2, .long a2)] g d_Tape_append_16 (by decide) rfl ?_
    exact v_sub [1,2,3,0] rfl (vL_Tape_append_18 g LF a1 a2 (0 : Int32) σ)
  · refine v_bipush (v := (-4 : Int32)) g d_Tape_append_12 (by decide +kernel) ?_
    exact v_ret d_Tape_append_14 rfl
def f_Tape_append (a1 : Int32) (a2 : Int64) (σ : Sto) : Option (Int32 × Sto) := B_Tape_append_0 a1 a2 σ
theorem sp_Tape_append {l : Launch} {E : En} (hE : Dj E) {a1 : Int32} {a2 : Int64} {σ : Sto} {r : Int32} {σ' : Sto} (h : f_Tape_append a1 a2 σ = some (r, σ')) : Ct l E y_Tape_append (wsM y_Tape_append b_Tape_append 5 (some .int)) 1 [.ref (E.2.1 31), .int a1, .long a2] σ (eI r) σ' :=
  ct_of hE (by decide +kernel) (Nat.le_of_ble_eq_true rfl) (fun x => Or.inl ⟨rfl, x, rfl⟩) (fun X _ g => vB_Tape_append_0 g a1 a2 σ) r σ' h
/-! method FittingRings$Tape.byteAt(I)I -/
theorem yv_Tape_byteAt : YV y_Tape_byteAt b_Tape_byteAt 2 (some .int) 1 8 := ⟨m1 845 (by decide +kernel) (by decide +kernel), m1 17 (by decide +kernel) (by decide +kernel), ini_Tape, m1 846 (by decide +kernel) (by decide +kernel), ⟨by decide +kernel, by decide +kernel, by decide +kernel⟩, by decide, by decide, T_Tape, 5, rfl⟩
theorem d_Tape_byteAt_0 : decode b_Tape_byteAt 0 = .ok (.iload_n 1, 1) := by decide +kernel
theorem d_Tape_byteAt_1 : decode b_Tape_byteAt 1 = .ok (.ifCond .lt 27, 3) := by decide +kernel
theorem d_Tape_byteAt_4 : decode b_Tape_byteAt 4 = .ok (.iload_n 1, 1) := by decide +kernel
theorem d_Tape_byteAt_5 : decode b_Tape_byteAt 5 = .ok (.aload_n 0, 1) := by decide +kernel
theorem d_Tape_byteAt_6 : decode b_Tape_byteAt 6 = .ok (.getfield 9, 3) := by decide +kernel
theorem d_Tape_byteAt_9 : decode b_Tape_byteAt 9 = .ok (.if_icmp .ge 19, 3) := by decide +kernel
theorem d_Tape_byteAt_12 : decode b_Tape_byteAt 12 = .ok (.iload_n 1, 1) := by decide +kernel
theorem d_Tape_byteAt_13 : decode b_Tape_byteAt 13 = .ok (.sipush 160, 3) := by decide +kernel
theorem d_Tape_byteAt_16 : decode b_Tape_byteAt 16 = .ok (.if_icmp .ge 12, 3) := by decide +kernel
theorem d_Tape_byteAt_19 : decode b_Tape_byteAt 19 = .ok (.aload_n 0, 1) := by decide +kernel
theorem d_Tape_byteAt_20 : decode b_Tape_byteAt 20 = .ok (.getfield 15, 3) := by decide +kernel
theorem d_Tape_byteAt_23 : decode b_Tape_byteAt 23 = .ok (.iload_n 1, 1) := by decide +kernel
theorem d_Tape_byteAt_24 : decode b_Tape_byteAt 24 = .ok (.baload, 1) := by decide +kernel
theorem d_Tape_byteAt_25 : decode b_Tape_byteAt 25 = .ok (.goto 4, 3) := by decide +kernel
theorem d_Tape_byteAt_28 : decode b_Tape_byteAt 28 = .ok (.iconst (-1), 1) := by decide +kernel
theorem d_Tape_byteAt_29 : decode b_Tape_byteAt 29 = .ok (.ireturn, 1) := by decide +kernel
def B_Tape_byteAt_0 (a1 : Int32) (σ : Sto) : Option (Int32 × Sto) :=
  (if a1 < 0 then some ((-1 : Int32), σ)
 else (if (gI σ 31 0) ≤ a1 then some ((-1 : Int32), σ)
  else (if (160 : Int32) ≤ a1 then some ((-1 : Int32), σ)
   else (if inb a1 160 = true then some ((gI σ 32 (Int32.toNatClampNeg a1)), σ) else none))))
set_option maxHeartbeats 4000000 in
set_option maxRecDepth 100000 in
theorem vB_Tape_byteAt_0 {X : Xt} {E : En} (g : GG X E 1 b_Tape_byteAt R_Tape 2) (a1 : Int32) (σ : Sto) : VV X E b_Tape_byteAt 2 eI 0 [(0, .ref (E.2.1 31)), (1, .int a1)] [] σ (B_Tape_byteAt_0 a1 σ) := by
  unfold B_Tape_byteAt_0
  refine v_iload_n 1 g d_Tape_byteAt_0 rfl ?_
  refine v_if_lt 28 g d_Tape_byteAt_1 (by decide) (fun _ => ?_) (fun _ => ?_)
  · refine v_iconst (v := (-1 : Int32)) g d_Tape_byteAt_28 (by decide +kernel) ?_
    exact v_ret d_Tape_byteAt_29 rfl
  · refine v_iload_n 1 g d_Tape_byteAt_4 rfl ?_
    refine v_aload_n 0 g d_Tape_byteAt_5 rfl ?_
    refine v_getI g ff_Tape_9 rfl rfl d_Tape_byteAt_6 ?_
    refine v_icmp_ge 28 g d_Tape_byteAt_9 (by decide) (fun _ => ?_) (fun _ => ?_)
    · refine v_iconst (v := (-1 : Int32)) g d_Tape_byteAt_28 (by decide +kernel) ?_
      exact v_ret d_Tape_byteAt_29 rfl
    · refine v_iload_n 1 g d_Tape_byteAt_12 rfl ?_
      refine v_sipush (v := (160 : Int32)) g d_Tape_byteAt_13 (by decide +kernel) ?_
      refine v_icmp_ge 28 g d_Tape_byteAt_16 (by decide) (fun _ => ?_) (fun _ => ?_)
      · refine v_iconst (v := (-1 : Int32)) g d_Tape_byteAt_28 (by decide +kernel) ?_
        exact v_ret d_Tape_byteAt_29 rfl
      · refine v_aload_n 0 g d_Tape_byteAt_19 rfl ?_
        refine v_getR 32 g ff_Tape_15 rfl rfl rfl d_Tape_byteAt_20 ?_
        refine v_iload_n 1 g d_Tape_byteAt_23 rfl ?_
        refine v_bald g rfl rfl d_Tape_byteAt_24 (fun _ => ?_)
        refine v_goto 29 g d_Tape_byteAt_25 (by decide) ?_
        exact v_ret d_Tape_byteAt_29 rfl
def f_Tape_byteAt (a1 : Int32) (σ : Sto) : Option (Int32 × Sto) := B_Tape_byteAt_0 a1 σ
theorem sp_Tape_byteAt {l : Launch} {E : En} (hE : Dj E) {a1 : Int32} {σ : Sto} {r : Int32} {σ' : Sto} (h : f_Tape_byteAt a1 σ = some (r, σ')) : Ct l E y_Tape_byteAt (wsM y_Tape_byteAt b_Tape_byteAt 2 (some .int)) 1 [.ref (E.2.1 31), .int a1] σ (eI r) σ' :=
  ct_of hE (by decide +kernel) (Nat.le_of_ble_eq_true rfl) (fun x => Or.inl ⟨rfl, x, rfl⟩) (fun X _ g => vB_Tape_byteAt_0 g a1 σ) r σ' h
/-! method FittingRings$Tape.isLetter(I)Z -/
theorem ys_Tape_isLetter : YS y_Tape_isLetter b_Tape_isLetter 1 (some .boolean) 1 := ⟨m1 848 (by decide +kernel) (by decide +kernel), ini_Tape, m1 849 (by decide +kernel) (by decide +kernel), ⟨by decide +kernel, by decide +kernel, by decide +kernel⟩, by decide⟩
theorem d_Tape_isLetter_0 : decode b_Tape_isLetter 0 = .ok (.iload_n 0, 1) := by decide +kernel
theorem d_Tape_isLetter_1 : decode b_Tape_isLetter 1 = .ok (.bipush 97, 2) := by decide +kernel
theorem d_Tape_isLetter_3 : decode b_Tape_isLetter 3 = .ok (.if_icmp .lt 13, 3) := by decide +kernel
theorem d_Tape_isLetter_6 : decode b_Tape_isLetter 6 = .ok (.iload_n 0, 1) := by decide +kernel
theorem d_Tape_isLetter_7 : decode b_Tape_isLetter 7 = .ok (.bipush 122, 2) := by decide +kernel
theorem d_Tape_isLetter_9 : decode b_Tape_isLetter 9 = .ok (.if_icmp .gt 7, 3) := by decide +kernel
theorem d_Tape_isLetter_12 : decode b_Tape_isLetter 12 = .ok (.iconst 1, 1) := by decide +kernel
theorem d_Tape_isLetter_13 : decode b_Tape_isLetter 13 = .ok (.goto 4, 3) := by decide +kernel
theorem d_Tape_isLetter_16 : decode b_Tape_isLetter 16 = .ok (.iconst 0, 1) := by decide +kernel
theorem d_Tape_isLetter_17 : decode b_Tape_isLetter 17 = .ok (.ireturn, 1) := by decide +kernel
def B_Tape_isLetter_0 (a0 : Int32) (σ : Sto) : Option (Bool × Sto) :=
  (if a0 < (97 : Int32) then some (false, σ)
 else (if (122 : Int32) < a0 then some (false, σ)
  else some (true, σ)))
set_option maxHeartbeats 4000000 in
set_option maxRecDepth 100000 in
theorem vB_Tape_isLetter_0 {X : Xt} {E : En} (g : GG X E 1 b_Tape_isLetter R_Tape 1) (a0 : Int32) (σ : Sto) : VV X E b_Tape_isLetter 1 eB 0 [(0, .int a0)] [] σ (B_Tape_isLetter_0 a0 σ) := by
  unfold B_Tape_isLetter_0
  refine v_iload_n 0 g d_Tape_isLetter_0 rfl ?_
  refine v_bipush (v := (97 : Int32)) g d_Tape_isLetter_1 (by decide +kernel) ?_
  refine v_icmp_lt 16 g d_Tape_isLetter_3 (by decide) (fun _ => ?_) (fun _ => ?_)
  · refine v_iconst (v := (0 : Int32)) g d_Tape_isLetter_16 (by decide +kernel) ?_
    exact v_ret d_Tape_isLetter_17 rfl
  · refine v_iload_n 0 g d_Tape_isLetter_6 rfl ?_
    refine v_bipush (v := (122 : Int32)) g d_Tape_isLetter_7 (by decide +kernel) ?_
    refine v_icmp_gt 16 g d_Tape_isLetter_9 (by decide) (fun _ => ?_) (fun _ => ?_)
    · refine v_iconst (v := (0 : Int32)) g d_Tape_isLetter_16 (by decide +kernel) ?_
      exact v_ret d_Tape_isLetter_17 rfl
    · refine v_iconst (v := (1 : Int32)) g d_Tape_isLetter_12 (by decide +kernel) ?_
      refine v_goto 17 g d_Tape_isLetter_13 (by decide) ?_
      exact v_ret d_Tape_isLetter_17 rfl
def f_Tape_isLetter (a0 : Int32) (σ : Sto) : Option (Bool × Sto) := B_Tape_isLetter_0 a0 σ
theorem sp_Tape_isLetter {l : Launch} {E : En} (hE : Dj E) {a0 : Int32} {σ : Sto} {r : Bool} {σ' : Sto} (h : f_Tape_isLetter a0 σ = some (r, σ')) : Ct l E y_Tape_isLetter (wsM y_Tape_isLetter b_Tape_isLetter 1 (some .boolean)) 1 [.int a0] σ (eB r) σ' :=
  ct_of hE (by decide +kernel) (Nat.le_of_ble_eq_true rfl) (fun b => Or.inr (Or.inl ⟨rfl, b, rfl⟩)) (fun X _ g => vB_Tape_isLetter_0 g a0 σ) r σ' h
/-! method FittingRings$Tape.isDigit(I)Z -/
theorem ys_Tape_isDigit : YS y_Tape_isDigit b_Tape_isDigit 1 (some .boolean) 1 := ⟨m1 851 (by decide +kernel) (by decide +kernel), ini_Tape, m1 852 (by decide +kernel) (by decide +kernel), ⟨by decide +kernel, by decide +kernel, by decide +kernel⟩, by decide⟩
theorem d_Tape_isDigit_0 : decode b_Tape_isDigit 0 = .ok (.iload_n 0, 1) := by decide +kernel
theorem d_Tape_isDigit_1 : decode b_Tape_isDigit 1 = .ok (.bipush 48, 2) := by decide +kernel
theorem d_Tape_isDigit_3 : decode b_Tape_isDigit 3 = .ok (.if_icmp .lt 13, 3) := by decide +kernel
theorem d_Tape_isDigit_6 : decode b_Tape_isDigit 6 = .ok (.iload_n 0, 1) := by decide +kernel
theorem d_Tape_isDigit_7 : decode b_Tape_isDigit 7 = .ok (.bipush 57, 2) := by decide +kernel
theorem d_Tape_isDigit_9 : decode b_Tape_isDigit 9 = .ok (.if_icmp .gt 7, 3) := by decide +kernel
theorem d_Tape_isDigit_12 : decode b_Tape_isDigit 12 = .ok (.iconst 1, 1) := by decide +kernel
theorem d_Tape_isDigit_13 : decode b_Tape_isDigit 13 = .ok (.goto 4, 3) := by decide +kernel
theorem d_Tape_isDigit_16 : decode b_Tape_isDigit 16 = .ok (.iconst 0, 1) := by decide +kernel
theorem d_Tape_isDigit_17 : decode b_Tape_isDigit 17 = .ok (.ireturn, 1) := by decide +kernel
def B_Tape_isDigit_0 (a0 : Int32) (σ : Sto) : Option (Bool × Sto) :=
  (if a0 < (48 : Int32) then some (false, σ)
 else (if (57 : Int32) < a0 then some (false, σ)
  else some (true, σ)))
set_option maxHeartbeats 4000000 in
set_option maxRecDepth 100000 in
theorem vB_Tape_isDigit_0 {X : Xt} {E : En} (g : GG X E 1 b_Tape_isDigit R_Tape 1) (a0 : Int32) (σ : Sto) : VV X E b_Tape_isDigit 1 eB 0 [(0, .int a0)] [] σ (B_Tape_isDigit_0 a0 σ) := by
  unfold B_Tape_isDigit_0
  refine v_iload_n 0 g d_Tape_isDigit_0 rfl ?_
  refine v_bipush (v := (48 : Int32)) g d_Tape_isDigit_1 (by decide +kernel) ?_
  refine v_icmp_lt 16 g d_Tape_isDigit_3 (by decide) (fun _ => ?_) (fun _ => ?_)
  · refine v_iconst (v := (0 : Int32)) g d_Tape_isDigit_16 (by decide +kernel) ?_
    exact v_ret d_Tape_isDigit_17 rfl
  · refine v_iload_n 0 g d_Tape_isDigit_6 rfl ?_
    refine v_bipush (v := (57 : Int32)) g d_Tape_isDigit_7 (by decide +kernel) ?_
    refine v_icmp_gt 16 g d_Tape_isDigit_9 (by decide) (fun _ => ?_) (fun _ => ?_)
    · refine v_iconst (v := (0 : Int32)) g d_Tape_isDigit_16 (by decide +kernel) ?_
      exact v_ret d_Tape_isDigit_17 rfl
    · refine v_iconst (v := (1 : Int32)) g d_Tape_isDigit_12 (by decide +kernel) ?_
      refine v_goto 17 g d_Tape_isDigit_13 (by decide) ?_
      exact v_ret d_Tape_isDigit_17 rfl
def f_Tape_isDigit (a0 : Int32) (σ : Sto) : Option (Bool × Sto) := B_Tape_isDigit_0 a0 σ
theorem sp_Tape_isDigit {l : Launch} {E : En} (hE : Dj E) {a0 : Int32} {σ : Sto} {r : Bool} {σ' : Sto} (h : f_Tape_isDigit a0 σ = some (r, σ')) : Ct l E y_Tape_isDigit (wsM y_Tape_isDigit b_Tape_isDigit 1 (some .boolean)) 1 [.int a0] σ (eB r) σ' :=
  ct_of hE (by decide +kernel) (Nat.le_of_ble_eq_true rfl) (fun b => Or.inr (Or.inl ⟨rfl, b, rfl⟩)) (fun X _ g => vB_Tape_isDigit_0 g a0 σ) r σ' h
/-! method FittingRings$Tape.advance()V -/
theorem yv_Tape_advance : YV y_Tape_advance b_Tape_advance 2 (none) 0 8 := ⟨m1 841 (by decide +kernel) (by decide +kernel), m1 16 (by decide +kernel) (by decide +kernel), ini_Tape, m1 842 (by decide +kernel) (by decide +kernel), ⟨by decide +kernel, by decide +kernel, by decide +kernel⟩, by decide, by decide, T_Tape, 5, rfl⟩
theorem d_Tape_advance_0 : decode b_Tape_advance 0 = .ok (.aload_n 0, 1) := by decide +kernel
theorem d_Tape_advance_1 : decode b_Tape_advance 1 = .ok (.aload_n 0, 1) := by decide +kernel
theorem d_Tape_advance_2 : decode b_Tape_advance 2 = .ok (.getfield 25, 3) := by decide +kernel
theorem d_Tape_advance_5 : decode b_Tape_advance 5 = .ok (.putfield 22, 3) := by decide +kernel
theorem d_Tape_advance_8 : decode b_Tape_advance 8 = .ok (.aload_n 0, 1) := by decide +kernel
theorem d_Tape_advance_9 : decode b_Tape_advance 9 = .ok (.getfield 22, 3) := by decide +kernel
theorem d_Tape_advance_12 : decode b_Tape_advance 12 = .ok (.aload_n 0, 1) := by decide +kernel
theorem d_Tape_advance_13 : decode b_Tape_advance 13 = .ok (.getfield 9, 3) := by decide +kernel
theorem d_Tape_advance_16 : decode b_Tape_advance 16 = .ok (.if_icmp .ge 29, 3) := by decide +kernel
theorem d_Tape_advance_19 : decode b_Tape_advance 19 = .ok (.aload_n 0, 1) := by decide +kernel
theorem d_Tape_advance_20 : decode b_Tape_advance 20 = .ok (.aload_n 0, 1) := by decide +kernel
theorem d_Tape_advance_21 : decode b_Tape_advance 21 = .ok (.getfield 22, 3) := by decide +kernel
theorem d_Tape_advance_24 : decode b_Tape_advance 24 = .ok (.invokevirtual 81, 3) := by decide +kernel
theorem d_Tape_advance_27 : decode b_Tape_advance 27 = .ok (.bipush 32, 2) := by decide +kernel
theorem d_Tape_advance_29 : decode b_Tape_advance 29 = .ok (.if_icmp .ne 16, 3) := by decide +kernel
theorem d_Tape_advance_32 : decode b_Tape_advance 32 = .ok (.aload_n 0, 1) := by decide +kernel
theorem d_Tape_advance_33 : decode b_Tape_advance 33 = .ok (.dup, 1) := by decide +kernel
theorem d_Tape_advance_34 : decode b_Tape_advance 34 = .ok (.getfield 22, 3) := by decide +kernel
theorem d_Tape_advance_37 : decode b_Tape_advance 37 = .ok (.iconst 1, 1) := by decide +kernel
theorem d_Tape_advance_38 : decode b_Tape_advance 38 = .ok (.iadd, 1) := by decide +kernel
theorem d_Tape_advance_39 : decode b_Tape_advance 39 = .ok (.putfield 22, 3) := by decide +kernel
theorem d_Tape_advance_42 : decode b_Tape_advance 42 = .ok (.goto (-34), 3) := by decide +kernel
theorem d_Tape_advance_45 : decode b_Tape_advance 45 = .ok (.aload_n 0, 1) := by decide +kernel
theorem d_Tape_advance_46 : decode b_Tape_advance 46 = .ok (.aload_n 0, 1) := by decide +kernel
theorem d_Tape_advance_47 : decode b_Tape_advance 47 = .ok (.getfield 22, 3) := by decide +kernel
theorem d_Tape_advance_50 : decode b_Tape_advance 50 = .ok (.iconst 1, 1) := by decide +kernel
theorem d_Tape_advance_51 : decode b_Tape_advance 51 = .ok (.iadd, 1) := by decide +kernel
theorem d_Tape_advance_52 : decode b_Tape_advance 52 = .ok (.putfield 25, 3) := by decide +kernel
theorem d_Tape_advance_55 : decode b_Tape_advance 55 = .ok (.aload_n 0, 1) := by decide +kernel
theorem d_Tape_advance_56 : decode b_Tape_advance 56 = .ok (.aload_n 0, 1) := by decide +kernel
theorem d_Tape_advance_57 : decode b_Tape_advance 57 = .ok (.getfield 22, 3) := by decide +kernel
theorem d_Tape_advance_60 : decode b_Tape_advance 60 = .ok (.invokevirtual 81, 3) := by decide +kernel
theorem d_Tape_advance_63 : decode b_Tape_advance 63 = .ok (.istore_n 1, 1) := by decide +kernel
theorem d_Tape_advance_64 : decode b_Tape_advance 64 = .ok (.aload_n 0, 1) := by decide +kernel
theorem d_Tape_advance_65 : decode b_Tape_advance 65 = .ok (.getfield 22, 3) := by decide +kernel
theorem d_Tape_advance_68 : decode b_Tape_advance 68 = .ok (.aload_n 0, 1) := by decide +kernel
theorem d_Tape_advance_69 : decode b_Tape_advance 69 = .ok (.getfield 9, 3) := by decide +kernel
theorem d_Tape_advance_72 : decode b_Tape_advance 72 = .ok (.if_icmp .lt 19, 3) := by decide +kernel
theorem d_Tape_advance_75 : decode b_Tape_advance 75 = .ok (.aload_n 0, 1) := by decide +kernel
theorem d_Tape_advance_76 : decode b_Tape_advance 76 = .ok (.iconst 0, 1) := by decide +kernel
theorem d_Tape_advance_77 : decode b_Tape_advance 77 = .ok (.putfield 19, 3) := by decide +kernel
theorem d_Tape_advance_80 : decode b_Tape_advance 80 = .ok (.aload_n 0, 1) := by decide +kernel
theorem d_Tape_advance_81 : decode b_Tape_advance 81 = .ok (.aload_n 0, 1) := by decide +kernel
theorem d_Tape_advance_82 : decode b_Tape_advance 82 = .ok (.getfield 22, 3) := by decide +kernel
theorem d_Tape_advance_85 : decode b_Tape_advance 85 = .ok (.putfield 25, 3) := by decide +kernel
theorem d_Tape_advance_88 : decode b_Tape_advance 88 = .ok (.goto 118, 3) := by decide +kernel
theorem d_Tape_advance_91 : decode b_Tape_advance 91 = .ok (.iload_n 1, 1) := by decide +kernel
theorem d_Tape_advance_92 : decode b_Tape_advance 92 = .ok (.invokestatic 85, 3) := by decide +kernel
theorem d_Tape_advance_95 : decode b_Tape_advance 95 = .ok (.ifCond .eq 46, 3) := by decide +kernel
theorem d_Tape_advance_98 : decode b_Tape_advance 98 = .ok (.aload_n 0, 1) := by decide +kernel
theorem d_Tape_advance_99 : decode b_Tape_advance 99 = .ok (.iconst 1, 1) := by decide +kernel
theorem d_Tape_advance_100 : decode b_Tape_advance 100 = .ok (.putfield 19, 3) := by decide +kernel
theorem d_Tape_advance_103 : decode b_Tape_advance 103 = .ok (.aload_n 0, 1) := by decide +kernel
theorem d_Tape_advance_104 : decode b_Tape_advance 104 = .ok (.getfield 25, 3) := by decide +kernel
theorem d_Tape_advance_107 : decode b_Tape_advance 107 = .ok (.aload_n 0, 1) := by decide +kernel
theorem d_Tape_advance_108 : decode b_Tape_advance 108 = .ok (.getfield 9, 3) := by decide +kernel
theorem d_Tape_advance_111 : decode b_Tape_advance 111 = .ok (.if_icmp .ge 95, 3) := by decide +kernel
theorem d_Tape_advance_114 : decode b_Tape_advance 114 = .ok (.aload_n 0, 1) := by decide +kernel
theorem d_Tape_advance_115 : decode b_Tape_advance 115 = .ok (.aload_n 0, 1) := by decide +kernel
theorem d_Tape_advance_116 : decode b_Tape_advance 116 = .ok (.getfield 25, 3) := by decide +kernel
theorem d_Tape_advance_119 : decode b_Tape_advance 119 = .ok (.invokevirtual 81, 3) := by decide +kernel
theorem d_Tape_advance_122 : decode b_Tape_advance 122 = .ok (.invokestatic 85, 3) := by decide +kernel
theorem d_Tape_advance_125 : decode b_Tape_advance 125 = .ok (.ifCond .eq 81, 3) := by decide +kernel
theorem d_Tape_advance_128 : decode b_Tape_advance 128 = .ok (.aload_n 0, 1) := by decide +kernel
theorem d_Tape_advance_129 : decode b_Tape_advance 129 = .ok (.dup, 1) := by decide +kernel
theorem d_Tape_advance_130 : decode b_Tape_advance 130 = .ok (.getfield 25, 3) := by decide +kernel
theorem d_Tape_advance_133 : decode b_Tape_advance 133 = .ok (.iconst 1, 1) := by decide +kernel
theorem d_Tape_advance_134 : decode b_Tape_advance 134 = .ok (.iadd, 1) := by decide +kernel
theorem d_Tape_advance_135 : decode b_Tape_advance 135 = .ok (.putfield 25, 3) := by decide +kernel
theorem d_Tape_advance_138 : decode b_Tape_advance 138 = .ok (.goto (-35), 3) := by decide +kernel
theorem d_Tape_advance_141 : decode b_Tape_advance 141 = .ok (.iload_n 1, 1) := by decide +kernel
theorem d_Tape_advance_142 : decode b_Tape_advance 142 = .ok (.invokestatic 89, 3) := by decide +kernel
theorem d_Tape_advance_145 : decode b_Tape_advance 145 = .ok (.ifCond .eq 46, 3) := by decide +kernel
theorem d_Tape_advance_148 : decode b_Tape_advance 148 = .ok (.aload_n 0, 1) := by decide +kernel
theorem d_Tape_advance_149 : decode b_Tape_advance 149 = .ok (.iconst 2, 1) := by decide +kernel
theorem d_Tape_advance_150 : decode b_Tape_advance 150 = .ok (.putfield 19, 3) := by decide +kernel
theorem d_Tape_advance_153 : decode b_Tape_advance 153 = .ok (.aload_n 0, 1) := by decide +kernel
theorem d_Tape_advance_154 : decode b_Tape_advance 154 = .ok (.getfield 25, 3) := by decide +kernel
theorem d_Tape_advance_157 : decode b_Tape_advance 157 = .ok (.aload_n 0, 1) := by decide +kernel
theorem d_Tape_advance_158 : decode b_Tape_advance 158 = .ok (.getfield 9, 3) := by decide +kernel
theorem d_Tape_advance_161 : decode b_Tape_advance 161 = .ok (.if_icmp .ge 45, 3) := by decide +kernel
theorem d_Tape_advance_164 : decode b_Tape_advance 164 = .ok (.aload_n 0, 1) := by decide +kernel
theorem d_Tape_advance_165 : decode b_Tape_advance 165 = .ok (.aload_n 0, 1) := by decide +kernel
theorem d_Tape_advance_166 : decode b_Tape_advance 166 = .ok (.getfield 25, 3) := by decide +kernel
theorem d_Tape_advance_169 : decode b_Tape_advance 169 = .ok (.invokevirtual 81, 3) := by decide +kernel
theorem d_Tape_advance_172 : decode b_Tape_advance 172 = .ok (.invokestatic 89, 3) := by decide +kernel
theorem d_Tape_advance_175 : decode b_Tape_advance 175 = .ok (.ifCond .eq 31, 3) := by decide +kernel
theorem d_Tape_advance_178 : decode b_Tape_advance 178 = .ok (.aload_n 0, 1) := by decide +kernel
theorem d_Tape_advance_179 : decode b_Tape_advance 179 = .ok (.dup, 1) := by decide +kernel
theorem d_Tape_advance_180 : decode b_Tape_advance 180 = .ok (.getfield 25, 3) := by decide +kernel
theorem d_Tape_advance_183 : decode b_Tape_advance 183 = .ok (.iconst 1, 1) := by decide +kernel
theorem d_Tape_advance_184 : decode b_Tape_advance 184 = .ok (.iadd, 1) := by decide +kernel
theorem d_Tape_advance_185 : decode b_Tape_advance 185 = .ok (.putfield 25, 3) := by decide +kernel
theorem d_Tape_advance_188 : decode b_Tape_advance 188 = .ok (.goto (-35), 3) := by decide +kernel
theorem d_Tape_advance_191 : decode b_Tape_advance 191 = .ok (.aload_n 0, 1) := by decide +kernel
theorem d_Tape_advance_192 : decode b_Tape_advance 192 = .ok (.iload_n 1, 1) := by decide +kernel
theorem d_Tape_advance_193 : decode b_Tape_advance 193 = .ok (.bipush 59, 2) := by decide +kernel
theorem d_Tape_advance_195 : decode b_Tape_advance 195 = .ok (.if_icmp .ne 7, 3) := by decide +kernel
theorem d_Tape_advance_198 : decode b_Tape_advance 198 = .ok (.iconst 3, 1) := by decide +kernel
theorem d_Tape_advance_199 : decode b_Tape_advance 199 = .ok (.goto 4, 3) := by decide +kernel
theorem d_Tape_advance_202 : decode b_Tape_advance 202 = .ok (.iconst 4, 1) := by decide +kernel
theorem d_Tape_advance_203 : decode b_Tape_advance 203 = .ok (.putfield 19, 3) := by decide +kernel
theorem d_Tape_advance_206 : decode b_Tape_advance 206 = .ok (.return_, 1) := by decide +kernel
def B_Tape_advance_103 (k103 : Sto → Option (Unit × Sto)) (σ : Sto) : Option (Unit × Sto) :=
  (if (gI σ 31 0) ≤ (gI σ 31 4) then some ((), σ)
 else ((f_Tape_byteAt (gI σ 31 4) σ).bind fun q8 => ((f_Tape_isLetter q8.1 q8.2).bind fun q9 => (if (b2i q9.1) = 0 then some ((), q9.2)
  else k103 (sI q9.2 31 4 ((gI q9.2 31 4) + (1 : Int32)))))))
set_option maxHeartbeats 4000000 in
set_option maxRecDepth 100000 in
theorem vB_Tape_advance_103 {X : Xt} {E : En} (g : GG X E 2 b_Tape_advance R_Tape 2) {k103 : Sto → Option (Unit × Sto)} (hk103 : ∀ (σ : Sto), VV X E b_Tape_advance 2 eU 103 [(0, .ref (E.2.1 31))] [] σ (k103  σ)) (σ : Sto) : VV X E b_Tape_advance 2 eU 103 [(0, .ref (E.2.1 31))] [] σ (B_Tape_advance_103 k103 σ) := by
  unfold B_Tape_advance_103
  refine v_aload_n 0 g d_Tape_advance_103 rfl ?_
  refine v_getI g ff_Tape_25 rfl rfl d_Tape_advance_104 ?_
  refine v_aload_n 0 g d_Tape_advance_107 rfl ?_
  refine v_getI g ff_Tape_9 rfl rfl d_Tape_advance_108 ?_
  refine v_icmp_ge 206 g d_Tape_advance_111 (by decide) (fun _ => ?_) (fun _ => ?_)
  · exact v_ret d_Tape_advance_206 rfl
  · refine v_aload_n 0 g d_Tape_advance_114 rfl ?_
    refine v_aload_n 0 g d_Tape_advance_115 rfl ?_
    refine v_getI g ff_Tape_25 rfl rfl d_Tape_advance_116 ?_
    refine v_callI (r_V (rest := []) [.int (gI σ 31 4)] g (m1 843 (by decide +kernel) (by decide +kernel)) yv_Tape_byteAt rfl (fun r σ1 h => sp_Tape_byteAt g.2.2.1  h) rfl rfl (by decide) (Nat.le_of_ble_eq_true rfl) d_Tape_advance_119) (fun q8 => ?_)
    refine v_callB (r_S (rest := []) [.int q8.1] g (m1 847 (by decide +kernel) (by decide +kernel)) ys_Tape_isLetter (fun r σ1 h => sp_Tape_isLetter g.2.2.1  h) rfl rfl (by decide) (Nat.le_of_ble_eq_true rfl) d_Tape_advance_122) (fun q9 => ?_)
    refine v_if_eq 206 g d_Tape_advance_125 (by decide) (fun _ => ?_) (fun _ => ?_)
    · exact v_ret d_Tape_advance_206 rfl
    · refine v_aload_n 0 g d_Tape_advance_128 rfl ?_
      refine v_dup g d_Tape_advance_129 rfl ?_
      refine v_getI g ff_Tape_25 rfl rfl d_Tape_advance_130 ?_
      refine v_iconst (v := (1 : Int32)) g d_Tape_advance_133 (by decide +kernel) ?_
      refine v_iadd g d_Tape_advance_134 ?_
      refine v_putI g fp_Tape_25 rfl rfl d_Tape_advance_135 ?_
      refine v_goto 103 g d_Tape_advance_138 (by decide) ?_
      exact v_sub [0] rfl (hk103 (sI q9.2 31 4 ((gI q9.2 31 4) + (1 : Int32))))
def L_Tape_advance_103 : Nat → Sto → Option (Unit × Sto)
  | 0, _ => none
  | fu + 1, σ => B_Tape_advance_103 (L_Tape_advance_103 fu) σ
theorem vL_Tape_advance_103 {X : Xt} {E : En} (g : GG X E 2 b_Tape_advance R_Tape 2) (fu : Nat) : ∀ (σ : Sto), VV X E b_Tape_advance 2 eU 103 [(0, .ref (E.2.1 31))] [] σ (L_Tape_advance_103 fu σ) := by
  induction fu with
  | zero => intros; exact v_none
  | succ fu ih =>
    intro σ
    exact vB_Tape_advance_103 g ih σ
def B_Tape_advance_153 (k153 : Sto → Option (Unit × Sto)) (σ : Sto) : Option (Unit × Sto) :=
  (if (gI σ 31 0) ≤ (gI σ 31 4) then some ((), σ)
 else ((f_Tape_byteAt (gI σ 31 4) σ).bind fun q6 => ((f_Tape_isDigit q6.1 q6.2).bind fun q7 => (if (b2i q7.1) = 0 then some ((), q7.2)
  else k153 (sI q7.2 31 4 ((gI q7.2 31 4) + (1 : Int32)))))))
set_option maxHeartbeats 4000000 in
set_option maxRecDepth 100000 in
theorem vB_Tape_advance_153 {X : Xt} {E : En} (g : GG X E 2 b_Tape_advance R_Tape 2) {k153 : Sto → Option (Unit × Sto)} (hk153 : ∀ (σ : Sto), VV X E b_Tape_advance 2 eU 153 [(0, .ref (E.2.1 31))] [] σ (k153  σ)) (σ : Sto) : VV X E b_Tape_advance 2 eU 153 [(0, .ref (E.2.1 31))] [] σ (B_Tape_advance_153 k153 σ) := by
  unfold B_Tape_advance_153
  refine v_aload_n 0 g d_Tape_advance_153 rfl ?_
  refine v_getI g ff_Tape_25 rfl rfl d_Tape_advance_154 ?_
  refine v_aload_n 0 g d_Tape_advance_157 rfl ?_
  refine v_getI g ff_Tape_9 rfl rfl d_Tape_advance_158 ?_
  refine v_icmp_ge 206 g d_Tape_advance_161 (by decide) (fun _ => ?_) (fun _ => ?_)
  · exact v_ret d_Tape_advance_206 rfl
  · refine v_aload_n 0 g d_Tape_advance_164 rfl ?_
    refine v_aload_n 0 g d_Tape_advance_165 rfl ?_
    refine v_getI g ff_Tape_25 rfl rfl d_Tape_advance_166 ?_
    refine v_callI (r_V (rest := []) [.int (gI σ 31 4)] g (m1 843 (by decide +kernel) (by decide +kernel)) yv_Tape_byteAt rfl (fun r σ1 h => sp_Tape_byteAt g.2.2.1  h) rfl rfl (by decide) (Nat.le_of_ble_eq_true rfl) d_Tape_advance_169) (fun q6 => ?_)
    refine v_callB (r_S (rest := []) [.int q6.1] g (m1 850 (by decide +kernel) (by decide +kernel)) ys_Tape_isDigit (fun r σ1 h => sp_Tape_isDigit g.2.2.1  h) rfl rfl (by decide) (Nat.le_of_ble_eq_true rfl) d_Tape_advance_172) (fun q7 => ?_)
    refine v_if_eq 206 g d_Tape_advance_175 (by decide) (fun _ => ?_) (fun _ => ?_)
    · exact v_ret d_Tape_advance_206 rfl
    · refine v_aload_n 0 g d_Tape_advance_178 rfl ?_
      refine v_dup g d_Tape_advance_179 rfl ?_
      refine v_getI g ff_Tape_25 rfl rfl d_Tape_advance_180 ?_
      refine v_iconst (v := (1 : Int32)) g d_Tape_advance_183 (by decide +kernel) ?_
      refine v_iadd g d_Tape_advance_184 ?_
      refine v_putI g fp_Tape_25 rfl rfl d_Tape_advance_185 ?_
      refine v_goto 153 g d_Tape_advance_188 (by decide) ?_
      exact v_sub [0] rfl (hk153 (sI q7.2 31 4 ((gI q7.2 31 4) + (1 : Int32))))
def L_Tape_advance_153 : Nat → Sto → Option (Unit × Sto)
  | 0, _ => none
  | fu + 1, σ => B_Tape_advance_153 (L_Tape_advance_153 fu) σ
theorem vL_Tape_advance_153 {X : Xt} {E : En} (g : GG X E 2 b_Tape_advance R_Tape 2) (fu : Nat) : ∀ (σ : Sto), VV X E b_Tape_advance 2 eU 153 [(0, .ref (E.2.1 31))] [] σ (L_Tape_advance_153 fu σ) := by
  induction fu with
  | zero => intros; exact v_none
  | succ fu ih =>
    intro σ
    exact vB_Tape_advance_153 g ih σ
def B_Tape_advance_45 (σ : Sto) : Option (Unit × Sto) :=
  ((f_Tape_byteAt (gI (sI σ 31 4 ((gI σ 31 3) + (1 : Int32))) 31 3) (sI σ 31 4 ((gI σ 31 3) + (1 : Int32)))).bind fun q2 => (if (gI q2.2 31 3) < (gI q2.2 31 0) then ((f_Tape_isLetter q2.1 q2.2).bind fun q3 => (if (b2i q3.1) = 0 then ((f_Tape_isDigit q2.1 q3.2).bind fun q4 => (if (b2i q4.1) = 0 then (if q2.1 = (59 : Int32) then some ((), (sI q4.2 31 2 (3 : Int32)))
    else some ((), (sI q4.2 31 2 (4 : Int32))))
   else L_Tape_advance_153 LF (sI q4.2 31 2 (2 : Int32))))
  else L_Tape_advance_103 LF (sI q3.2 31 2 (1 : Int32))))
 else (lt1 (sI (sI q2.2 31 2 (0 : Int32)) 31 4 (gI (sI q2.2 31 2 (0 : Int32)) 31 3)) fun σ5 => some ((), σ5))))
set_option maxHeartbeats 4000000 in
set_option maxRecDepth 100000 in
theorem vB_Tape_advance_45 {X : Xt} {E : En} (g : GG X E 2 b_Tape_advance R_Tape 2) (σ : Sto) : VV X E b_Tape_advance 2 eU 45 [(0, .ref (E.2.1 31))] [] σ (B_Tape_advance_45 σ) := by
  unfold B_Tape_advance_45
  refine v_aload_n 0 g d_Tape_advance_45 rfl ?_
  refine v_aload_n 0 g d_Tape_advance_46 rfl ?_
  refine v_getI g ff_Tape_22 rfl rfl d_Tape_advance_47 ?_
  refine v_iconst (v := (1 : Int32)) g d_Tape_advance_50 (by decide +kernel) ?_
  refine v_iadd g d_Tape_advance_51 ?_
  refine v_putI g fp_Tape_25 rfl rfl d_Tape_advance_52 ?_
  refine v_aload_n 0 g d_Tape_advance_55 rfl ?_
  refine v_aload_n 0 g d_Tape_advance_56 rfl ?_
  refine v_getI g ff_Tape_22 rfl rfl d_Tape_advance_57 ?_
  refine v_callI (r_V (rest := []) [.int (gI (sI σ 31 4 ((gI σ 31 3) + (1 : Int32))) 31 3)] g (m1 843 (by decide +kernel) (by decide +kernel)) yv_Tape_byteAt rfl (fun r σ1 h => sp_Tape_byteAt g.2.2.1  h) rfl rfl (by decide) (Nat.le_of_ble_eq_true rfl) d_Tape_advance_60) (fun q2 => ?_)
  refine v_istore_n [(1, .int q2.1), (0, .ref (E.2.1 31))] g d_Tape_advance_63 (by decide) rfl ?_
  refine v_aload_n 1 g d_Tape_advance_64 rfl ?_
  refine v_getI g ff_Tape_22 rfl rfl d_Tape_advance_65 ?_
  refine v_aload_n 1 g d_Tape_advance_68 rfl ?_
  refine v_getI g ff_Tape_9 rfl rfl d_Tape_advance_69 ?_
  refine v_icmp_lt 91 g d_Tape_advance_72 (by decide) (fun _ => ?_) (fun _ => ?_)
  · refine v_iload_n 0 g d_Tape_advance_91 rfl ?_
    refine v_callB (r_S (rest := []) [.int q2.1] g (m1 847 (by decide +kernel) (by decide +kernel)) ys_Tape_isLetter (fun r σ1 h => sp_Tape_isLetter g.2.2.1  h) rfl rfl (by decide) (Nat.le_of_ble_eq_true rfl) d_Tape_advance_92) (fun q3 => ?_)
    refine v_if_eq 141 g d_Tape_advance_95 (by decide) (fun _ => ?_) (fun _ => ?_)
    · refine v_iload_n 0 g d_Tape_advance_141 rfl ?_
      refine v_callB (r_S (rest := []) [.int q2.1] g (m1 850 (by decide +kernel) (by decide +kernel)) ys_Tape_isDigit (fun r σ1 h => sp_Tape_isDigit g.2.2.1  h) rfl rfl (by decide) (Nat.le_of_ble_eq_true rfl) d_Tape_advance_142) (fun q4 => ?_)
      refine v_if_eq 191 g d_Tape_advance_145 (by decide) (fun _ => ?_) (fun _ => ?_)
      · refine v_aload_n 1 g d_Tape_advance_191 rfl ?_
        refine v_iload_n 0 g d_Tape_advance_192 rfl ?_
        refine v_bipush (v := (59 : Int32)) g d_Tape_advance_193 (by decide +kernel) ?_
        refine v_icmp_ne 202 g d_Tape_advance_195 (by decide) (fun _ => ?_) (fun _ => ?_)
        · refine v_iconst (v := (4 : Int32)) g d_Tape_advance_202 (by decide +kernel) ?_
          refine v_putI g fp_Tape_19 rfl rfl d_Tape_advance_203 ?_
          exact v_ret d_Tape_advance_206 rfl
        · refine v_iconst (v := (3 : Int32)) g d_Tape_advance_198 (by decide +kernel) ?_
          refine v_goto 203 g d_Tape_advance_199 (by decide) ?_
          refine v_putI g fp_Tape_19 rfl rfl d_Tape_advance_203 ?_
          exact v_ret d_Tape_advance_206 rfl
      · refine v_aload_n 1 g d_Tape_advance_148 rfl ?_
        refine v_iconst (v := (2 : Int32)) g d_Tape_advance_149 (by decide +kernel) ?_
        refine v_putI g fp_Tape_19 rfl rfl d_Tape_advance_150 ?_
        exact v_sub [1] rfl (vL_Tape_advance_153 g LF (sI q4.2 31 2 (2 : Int32)))
    · refine v_aload_n 1 g d_Tape_advance_98 rfl ?_
      refine v_iconst (v := (1 : Int32)) g d_Tape_advance_99 (by decide +kernel) ?_
      refine v_putI g fp_Tape_19 rfl rfl d_Tape_advance_100 ?_
      exact v_sub [1] rfl (vL_Tape_advance_103 g LF (sI q3.2 31 2 (1 : Int32)))
  · refine v_aload_n 1 g d_Tape_advance_75 rfl ?_
    refine v_iconst (v := (0 : Int32)) g d_Tape_advance_76 (by decide +kernel) ?_
    refine v_putI g fp_Tape_19 rfl rfl d_Tape_advance_77 ?_
    refine v_aload_n 1 g d_Tape_advance_80 rfl ?_
    refine v_aload_n 1 g d_Tape_advance_81 rfl ?_
    refine v_getI g ff_Tape_22 rfl rfl d_Tape_advance_82 ?_
    refine v_putI g fp_Tape_25 rfl rfl d_Tape_advance_85 ?_
    refine v_nlet (fun σ5 eσ5 => ?_)
    rw [← eσ5]
    refine v_goto 206 g d_Tape_advance_88 (by decide) ?_
    exact v_ret d_Tape_advance_206 rfl
def B_Tape_advance_8 (k8 : Sto → Option (Unit × Sto)) (σ : Sto) : Option (Unit × Sto) :=
  (if (gI σ 31 0) ≤ (gI σ 31 3) then B_Tape_advance_45 σ
 else ((f_Tape_byteAt (gI σ 31 3) σ).bind fun q1 => (if q1.1 = (32 : Int32) then k8 (sI q1.2 31 3 ((gI q1.2 31 3) + (1 : Int32)))
  else B_Tape_advance_45 q1.2)))
set_option maxHeartbeats 4000000 in
set_option maxRecDepth 100000 in
theorem vB_Tape_advance_8 {X : Xt} {E : En} (g : GG X E 2 b_Tape_advance R_Tape 2) {k8 : Sto → Option (Unit × Sto)} (hk8 : ∀ (σ : Sto), VV X E b_Tape_advance 2 eU 8 [(0, .ref (E.2.1 31))] [] σ (k8  σ)) (σ : Sto) : VV X E b_Tape_advance 2 eU 8 [(0, .ref (E.2.1 31))] [] σ (B_Tape_advance_8 k8 σ) := by
  unfold B_Tape_advance_8
  refine v_aload_n 0 g d_Tape_advance_8 rfl ?_
  refine v_getI g ff_Tape_22 rfl rfl d_Tape_advance_9 ?_
  refine v_aload_n 0 g d_Tape_advance_12 rfl ?_
  refine v_getI g ff_Tape_9 rfl rfl d_Tape_advance_13 ?_
  refine v_icmp_ge 45 g d_Tape_advance_16 (by decide) (fun _ => ?_) (fun _ => ?_)
  · exact v_sub [0] rfl (vB_Tape_advance_45 g σ)
  · refine v_aload_n 0 g d_Tape_advance_19 rfl ?_
    refine v_aload_n 0 g d_Tape_advance_20 rfl ?_
    refine v_getI g ff_Tape_22 rfl rfl d_Tape_advance_21 ?_
    refine v_callI (r_V (rest := []) [.int (gI σ 31 3)] g (m1 843 (by decide +kernel) (by decide +kernel)) yv_Tape_byteAt rfl (fun r σ1 h => sp_Tape_byteAt g.2.2.1  h) rfl rfl (by decide) (Nat.le_of_ble_eq_true rfl) d_Tape_advance_24) (fun q1 => ?_)
    refine v_bipush (v := (32 : Int32)) g d_Tape_advance_27 (by decide +kernel) ?_
    refine v_icmp_ne 45 g d_Tape_advance_29 (by decide) (fun _ => ?_) (fun _ => ?_)
    · exact v_sub [0] rfl (vB_Tape_advance_45 g q1.2)
    · refine v_aload_n 0 g d_Tape_advance_32 rfl ?_
      refine v_dup g d_Tape_advance_33 rfl ?_
      refine v_getI g ff_Tape_22 rfl rfl d_Tape_advance_34 ?_
      refine v_iconst (v := (1 : Int32)) g d_Tape_advance_37 (by decide +kernel) ?_
      refine v_iadd g d_Tape_advance_38 ?_
      refine v_putI g fp_Tape_22 rfl rfl d_Tape_advance_39 ?_
      refine v_goto 8 g d_Tape_advance_42 (by decide) ?_
      exact v_sub [0] rfl (hk8 (sI q1.2 31 3 ((gI q1.2 31 3) + (1 : Int32))))
def L_Tape_advance_8 : Nat → Sto → Option (Unit × Sto)
  | 0, _ => none
  | fu + 1, σ => B_Tape_advance_8 (L_Tape_advance_8 fu) σ
theorem vL_Tape_advance_8 {X : Xt} {E : En} (g : GG X E 2 b_Tape_advance R_Tape 2) (fu : Nat) : ∀ (σ : Sto), VV X E b_Tape_advance 2 eU 8 [(0, .ref (E.2.1 31))] [] σ (L_Tape_advance_8 fu σ) := by
  induction fu with
  | zero => intros; exact v_none
  | succ fu ih =>
    intro σ
    exact vB_Tape_advance_8 g ih σ
def B_Tape_advance_0 (σ : Sto) : Option (Unit × Sto) :=
  L_Tape_advance_8 LF (sI σ 31 3 (gI σ 31 4))
set_option maxHeartbeats 4000000 in
set_option maxRecDepth 100000 in
theorem vB_Tape_advance_0 {X : Xt} {E : En} (g : GG X E 2 b_Tape_advance R_Tape 2) (σ : Sto) : VV X E b_Tape_advance 2 eU 0 [(0, .ref (E.2.1 31))] [] σ (B_Tape_advance_0 σ) := by
  unfold B_Tape_advance_0
  refine v_aload_n 0 g d_Tape_advance_0 rfl ?_
  refine v_aload_n 0 g d_Tape_advance_1 rfl ?_
  refine v_getI g ff_Tape_25 rfl rfl d_Tape_advance_2 ?_
  refine v_putI g fp_Tape_22 rfl rfl d_Tape_advance_5 ?_
  exact v_sub [0] rfl (vL_Tape_advance_8 g LF (sI σ 31 3 (gI σ 31 4)))
def f_Tape_advance (σ : Sto) : Option (Unit × Sto) := B_Tape_advance_0 σ
theorem sp_Tape_advance {l : Launch} {E : En} (hE : Dj E) {σ : Sto} {r : Unit} {σ' : Sto} (h : f_Tape_advance σ = some (r, σ')) : Ct l E y_Tape_advance (wsM y_Tape_advance b_Tape_advance 2 (none)) 2 [.ref (E.2.1 31)] σ (eU r) σ' :=
  ct_of hE (by decide +kernel) (Nat.le_of_ble_eq_true rfl) (fun _ => Or.inr (Or.inr (Or.inr (Or.inl ⟨rfl, rfl⟩)))) (fun X _ g => vB_Tape_advance_0 g σ) r σ' h
/-! method FittingRings$Tape.pointName(I)Ljava/lang/String; -/
theorem ys_Tape_pointName : YS y_Tape_pointName b_Tape_pointName 1 (some (.object "java/lang/String")) 1 := ⟨m1 858 (by decide +kernel) (by decide +kernel), ini_Tape, m1 859 (by decide +kernel) (by decide +kernel), ⟨by decide +kernel, by decide +kernel, by decide +kernel⟩, by decide⟩
theorem d_Tape_pointName_0 : decode b_Tape_pointName 0 = .ok (.iload_n 0, 1) := by decide +kernel
theorem d_Tape_pointName_1 : decode b_Tape_pointName 1 = .ok (.tableswitch 50 1 5 #[35, 38, 41, 44, 47], 35) := by decide +kernel
theorem d_Tape_pointName_36 : decode b_Tape_pointName 36 = .ok (.ldc 103, 2) := by decide +kernel
theorem d_Tape_pointName_38 : decode b_Tape_pointName 38 = .ok (.areturn, 1) := by decide +kernel
theorem d_Tape_pointName_39 : decode b_Tape_pointName 39 = .ok (.ldc 105, 2) := by decide +kernel
theorem d_Tape_pointName_41 : decode b_Tape_pointName 41 = .ok (.areturn, 1) := by decide +kernel
theorem d_Tape_pointName_42 : decode b_Tape_pointName 42 = .ok (.ldc 107, 2) := by decide +kernel
theorem d_Tape_pointName_44 : decode b_Tape_pointName 44 = .ok (.areturn, 1) := by decide +kernel
theorem d_Tape_pointName_45 : decode b_Tape_pointName 45 = .ok (.ldc 109, 2) := by decide +kernel
theorem d_Tape_pointName_47 : decode b_Tape_pointName 47 = .ok (.areturn, 1) := by decide +kernel
theorem d_Tape_pointName_48 : decode b_Tape_pointName 48 = .ok (.ldc 111, 2) := by decide +kernel
theorem d_Tape_pointName_50 : decode b_Tape_pointName 50 = .ok (.areturn, 1) := by decide +kernel
theorem d_Tape_pointName_51 : decode b_Tape_pointName 51 = .ok (.ldc 113, 2) := by decide +kernel
theorem d_Tape_pointName_53 : decode b_Tape_pointName 53 = .ok (.areturn, 1) := by decide +kernel
def B_Tape_pointName_0 (a0 : Int32) (σ : Sto) : Option (Nat × Sto) :=
  (if a0 = (1 : Int32) then some (1001, σ)
 else (if a0 = (2 : Int32) then some (1002, σ)
  else (if a0 = (3 : Int32) then some (1003, σ)
   else (if a0 = (4 : Int32) then some (1004, σ)
    else (if a0 = (5 : Int32) then some (1005, σ)
     else some (1000, σ))))))
set_option maxHeartbeats 4000000 in
set_option maxRecDepth 100000 in
theorem vB_Tape_pointName_0 {X : Xt} {E : En} (g : GG X E 1 b_Tape_pointName R_Tape 1) (a0 : Int32) (σ : Sto) : VV X E b_Tape_pointName 1 (eR E) 0 [(0, .int a0)] [] σ (B_Tape_pointName_0 a0 σ) := by
  unfold B_Tape_pointName_0
  refine v_iload_n 0 g d_Tape_pointName_0 rfl ?_
  refine v_ite _ (fun h_0 => ?_) (fun h_0 => ?_)
  · refine v_tableIn 36 g d_Tape_pointName_1 (by rw [h_0]; decide +kernel) (by rw [h_0]; decide +kernel) (off := 35) (by rw [h_0]; decide +kernel) (by decide) ?_
    refine v_ldcS 1 g (by decide) d_Tape_pointName_36 ?_
    exact v_ret d_Tape_pointName_38 rfl
  · refine v_ite _ (fun h_1 => ?_) (fun h_1 => ?_)
    · refine v_tableIn 39 g d_Tape_pointName_1 (by rw [h_1]; decide +kernel) (by rw [h_1]; decide +kernel) (off := 38) (by rw [h_1]; decide +kernel) (by decide) ?_
      refine v_ldcS 2 g (by decide) d_Tape_pointName_39 ?_
      exact v_ret d_Tape_pointName_41 rfl
    · refine v_ite _ (fun h_2 => ?_) (fun h_2 => ?_)
      · refine v_tableIn 42 g d_Tape_pointName_1 (by rw [h_2]; decide +kernel) (by rw [h_2]; decide +kernel) (off := 41) (by rw [h_2]; decide +kernel) (by decide) ?_
        refine v_ldcS 3 g (by decide) d_Tape_pointName_42 ?_
        exact v_ret d_Tape_pointName_44 rfl
      · refine v_ite _ (fun h_3 => ?_) (fun h_3 => ?_)
        · refine v_tableIn 45 g d_Tape_pointName_1 (by rw [h_3]; decide +kernel) (by rw [h_3]; decide +kernel) (off := 44) (by rw [h_3]; decide +kernel) (by decide) ?_
          refine v_ldcS 4 g (by decide) d_Tape_pointName_45 ?_
          exact v_ret d_Tape_pointName_47 rfl
        · refine v_ite _ (fun h_4 => ?_) (fun h_4 => ?_)
          · refine v_tableIn 48 g d_Tape_pointName_1 (by rw [h_4]; decide +kernel) (by rw [h_4]; decide +kernel) (off := 47) (by rw [h_4]; decide +kernel) (by decide) ?_
            refine v_ldcS 5 g (by decide) d_Tape_pointName_48 ?_
            exact v_ret d_Tape_pointName_50 rfl
          · refine v_tableOut 51 g d_Tape_pointName_1 (by have n0 := sw_ne h_0 (show ((1 : Int32)).toInt = 1 by decide +kernel); have n1 := sw_ne h_1 (show ((2 : Int32)).toInt = 2 by decide +kernel); have n2 := sw_ne h_2 (show ((3 : Int32)).toInt = 3 by decide +kernel); have n3 := sw_ne h_3 (show ((4 : Int32)).toInt = 4 by decide +kernel); have n4 := sw_ne h_4 (show ((5 : Int32)).toInt = 5 by decide +kernel); omega) (by decide) ?_
            refine v_ldcS 0 g (by decide) d_Tape_pointName_51 ?_
            exact v_ret d_Tape_pointName_53 rfl
def f_Tape_pointName (a0 : Int32) (σ : Sto) : Option (Nat × Sto) := B_Tape_pointName_0 a0 σ
theorem sp_Tape_pointName {l : Launch} {E : En} (hE : Dj E) {a0 : Int32} {σ : Sto} {r : Nat} {σ' : Sto} (h : f_Tape_pointName a0 σ = some (r, σ')) : Ct l E y_Tape_pointName (wsM y_Tape_pointName b_Tape_pointName 1 (some (.object "java/lang/String"))) 1 [.int a0] σ ((eR E) r) σ' :=
  ct_of hE (by decide +kernel) (Nat.le_of_ble_eq_true rfl) (fun x => Or.inr (Or.inr (Or.inr (Or.inr ⟨⟨_, rfl⟩, _, rfl⟩)))) (fun X _ g => vB_Tape_pointName_0 g a0 σ) r σ' h
/-! method FittingRings$Tape.isWord(Ljava/lang/String;)Z -/
theorem yv_Tape_isWord : YV y_Tape_isWord b_Tape_isWord 3 (some .boolean) 1 8 := ⟨m1 868 (by decide +kernel) (by decide +kernel), m1 19 (by decide +kernel) (by decide +kernel), ini_Tape, m1 869 (by decide +kernel) (by decide +kernel), ⟨by decide +kernel, by decide +kernel, by decide +kernel⟩, by decide, by decide, T_Tape, 5, rfl⟩
theorem d_Tape_isWord_0 : decode b_Tape_isWord 0 = .ok (.aload_n 0, 1) := by decide +kernel
theorem d_Tape_isWord_1 : decode b_Tape_isWord 1 = .ok (.getfield 19, 3) := by decide +kernel
theorem d_Tape_isWord_4 : decode b_Tape_isWord 4 = .ok (.iconst 1, 1) := by decide +kernel
theorem d_Tape_isWord_5 : decode b_Tape_isWord 5 = .ok (.if_icmp .ne 19, 3) := by decide +kernel
theorem d_Tape_isWord_8 : decode b_Tape_isWord 8 = .ok (.aload_n 0, 1) := by decide +kernel
theorem d_Tape_isWord_9 : decode b_Tape_isWord 9 = .ok (.getfield 25, 3) := by decide +kernel
theorem d_Tape_isWord_12 : decode b_Tape_isWord 12 = .ok (.aload_n 0, 1) := by decide +kernel
theorem d_Tape_isWord_13 : decode b_Tape_isWord 13 = .ok (.getfield 22, 3) := by decide +kernel
theorem d_Tape_isWord_16 : decode b_Tape_isWord 16 = .ok (.isub, 1) := by decide +kernel
theorem d_Tape_isWord_17 : decode b_Tape_isWord 17 = .ok (.aload_n 1, 1) := by decide +kernel
theorem d_Tape_isWord_18 : decode b_Tape_isWord 18 = .ok (.invokevirtual 92, 3) := by decide +kernel
theorem d_Tape_isWord_21 : decode b_Tape_isWord 21 = .ok (.if_icmp .eq 5, 3) := by decide +kernel
theorem d_Tape_isWord_24 : decode b_Tape_isWord 24 = .ok (.iconst 0, 1) := by decide +kernel
theorem d_Tape_isWord_25 : decode b_Tape_isWord 25 = .ok (.ireturn, 1) := by decide +kernel
theorem d_Tape_isWord_26 : decode b_Tape_isWord 26 = .ok (.iconst 0, 1) := by decide +kernel
theorem d_Tape_isWord_27 : decode b_Tape_isWord 27 = .ok (.istore_n 2, 1) := by decide +kernel
theorem d_Tape_isWord_28 : decode b_Tape_isWord 28 = .ok (.iload_n 2, 1) := by decide +kernel
theorem d_Tape_isWord_29 : decode b_Tape_isWord 29 = .ok (.aload_n 1, 1) := by decide +kernel
theorem d_Tape_isWord_30 : decode b_Tape_isWord 30 = .ok (.invokevirtual 92, 3) := by decide +kernel
theorem d_Tape_isWord_33 : decode b_Tape_isWord 33 = .ok (.if_icmp .ge 29, 3) := by decide +kernel
theorem d_Tape_isWord_36 : decode b_Tape_isWord 36 = .ok (.aload_n 0, 1) := by decide +kernel
theorem d_Tape_isWord_37 : decode b_Tape_isWord 37 = .ok (.aload_n 0, 1) := by decide +kernel
theorem d_Tape_isWord_38 : decode b_Tape_isWord 38 = .ok (.getfield 22, 3) := by decide +kernel
theorem d_Tape_isWord_41 : decode b_Tape_isWord 41 = .ok (.iload_n 2, 1) := by decide +kernel
theorem d_Tape_isWord_42 : decode b_Tape_isWord 42 = .ok (.iadd, 1) := by decide +kernel
theorem d_Tape_isWord_43 : decode b_Tape_isWord 43 = .ok (.invokevirtual 81, 3) := by decide +kernel
theorem d_Tape_isWord_46 : decode b_Tape_isWord 46 = .ok (.aload_n 1, 1) := by decide +kernel
theorem d_Tape_isWord_47 : decode b_Tape_isWord 47 = .ok (.iload_n 2, 1) := by decide +kernel
theorem d_Tape_isWord_48 : decode b_Tape_isWord 48 = .ok (.invokevirtual 96, 3) := by decide +kernel
theorem d_Tape_isWord_51 : decode b_Tape_isWord 51 = .ok (.if_icmp .eq 5, 3) := by decide +kernel
theorem d_Tape_isWord_54 : decode b_Tape_isWord 54 = .ok (.iconst 0, 1) := by decide +kernel
theorem d_Tape_isWord_55 : decode b_Tape_isWord 55 = .ok (.ireturn, 1) := by decide +kernel
theorem d_Tape_isWord_56 : decode b_Tape_isWord 56 = .ok (.iinc 2 1, 3) := by decide +kernel
theorem d_Tape_isWord_59 : decode b_Tape_isWord 59 = .ok (.goto (-31), 3) := by decide +kernel
theorem d_Tape_isWord_62 : decode b_Tape_isWord 62 = .ok (.iconst 1, 1) := by decide +kernel
theorem d_Tape_isWord_63 : decode b_Tape_isWord 63 = .ok (.ireturn, 1) := by decide +kernel
def B_Tape_isWord_28 (k28 : Nat → Int32 → Sto → Option (Bool × Sto)) (v1 : Nat) (v2 : Int32) (σ : Sto) : Option (Bool × Sto) :=
  ((str_len v1 σ).bind fun q2 => (if q2.1 ≤ v2 then some (true, q2.2)
 else ((f_Tape_byteAt ((gI q2.2 31 3) + v2) q2.2).bind fun q3 => ((str_at v1 v2 q3.2).bind fun q4 => (if q3.1 = q4.1 then k28 v1 (v2 + (1 : Int32)) q4.2
  else some (false, q4.2))))))
set_option maxHeartbeats 4000000 in
set_option maxRecDepth 100000 in
theorem vB_Tape_isWord_28 {X : Xt} {E : En} (g : GG X E 13 b_Tape_isWord R_Tape 3) {k28 : Nat → Int32 → Sto → Option (Bool × Sto)} (hk28 : ∀ (v1 : Nat) (v2 : Int32) (σ : Sto), VV X E b_Tape_isWord 3 eB 28 [(0, .ref (E.2.1 31)), (1, .ref (E.2.1 v1)), (2, .int v2)] [] σ (k28 v1 v2 σ)) (v1 : Nat) (v2 : Int32) (σ : Sto) : VV X E b_Tape_isWord 3 eB 28 [(0, .ref (E.2.1 31)), (1, .ref (E.2.1 v1)), (2, .int v2)] [] σ (B_Tape_isWord_28 k28 v1 v2 σ) := by
  unfold B_Tape_isWord_28
  refine v_iload_n 2 g d_Tape_isWord_28 rfl ?_
  refine v_aload_n 1 g d_Tape_isWord_29 rfl ?_
  refine v_callI (str_len_run v1 g (m1 870 (by decide +kernel) (by decide +kernel)) (rest := [.int v2]) (by decide) (Nat.le_of_ble_eq_true rfl) d_Tape_isWord_30) (fun q2 => ?_)
  refine v_icmp_ge 62 g d_Tape_isWord_33 (by decide) (fun _ => ?_) (fun _ => ?_)
  · refine v_iconst (v := (1 : Int32)) g d_Tape_isWord_62 (by decide +kernel) ?_
    exact v_ret d_Tape_isWord_63 rfl
  · refine v_aload_n 0 g d_Tape_isWord_36 rfl ?_
    refine v_aload_n 0 g d_Tape_isWord_37 rfl ?_
    refine v_getI g ff_Tape_22 rfl rfl d_Tape_isWord_38 ?_
    refine v_iload_n 2 g d_Tape_isWord_41 rfl ?_
    refine v_iadd g d_Tape_isWord_42 ?_
    refine v_callI (r_V (rest := []) [.int ((gI q2.2 31 3) + v2)] g (m1 843 (by decide +kernel) (by decide +kernel)) yv_Tape_byteAt rfl (fun r σ1 h => sp_Tape_byteAt g.2.2.1  h) rfl rfl (by decide) (Nat.le_of_ble_eq_true rfl) d_Tape_isWord_43) (fun q3 => ?_)
    refine v_aload_n 1 g d_Tape_isWord_46 rfl ?_
    refine v_iload_n 2 g d_Tape_isWord_47 rfl ?_
    refine v_callI (str_at_run v1 v2 g (m1 880 (by decide +kernel) (by decide +kernel)) (rest := [.int q3.1]) (by decide) (Nat.le_of_ble_eq_true rfl) d_Tape_isWord_48) (fun q4 => ?_)
    refine v_icmp_eq 56 g d_Tape_isWord_51 (by decide) (fun _ => ?_) (fun _ => ?_)
    · refine v_iinc 2 [(2, .int (v2 + (1 : Int32))), (0, .ref (E.2.1 31)), (1, .ref (E.2.1 v1))] g d_Tape_isWord_56 rfl (v := (1 : Int32)) (by decide +kernel) (by decide) rfl ?_
      refine v_goto 28 g d_Tape_isWord_59 (by decide) ?_
      exact v_sub [1,2,0] rfl (hk28 v1 (v2 + (1 : Int32)) q4.2)
    · refine v_iconst (v := (0 : Int32)) g d_Tape_isWord_54 (by decide +kernel) ?_
      exact v_ret d_Tape_isWord_55 rfl
def L_Tape_isWord_28 : Nat → Nat → Int32 → Sto → Option (Bool × Sto)
  | 0, _, _, _ => none
  | fu + 1, v1, v2, σ => B_Tape_isWord_28 (L_Tape_isWord_28 fu) v1 v2 σ
theorem vL_Tape_isWord_28 {X : Xt} {E : En} (g : GG X E 13 b_Tape_isWord R_Tape 3) (fu : Nat) : ∀ (v1 : Nat) (v2 : Int32) (σ : Sto), VV X E b_Tape_isWord 3 eB 28 [(0, .ref (E.2.1 31)), (1, .ref (E.2.1 v1)), (2, .int v2)] [] σ (L_Tape_isWord_28 fu v1 v2 σ) := by
  induction fu with
  | zero => intros; exact v_none
  | succ fu ih =>
    intro v1 v2 σ
    exact vB_Tape_isWord_28 g ih v1 v2 σ
def B_Tape_isWord_0 (a1 : Nat) (σ : Sto) : Option (Bool × Sto) :=
  (if (gI σ 31 2) = (1 : Int32) then ((str_len a1 σ).bind fun q1 => (if ((gI σ 31 4) - (gI σ 31 3)) = q1.1 then L_Tape_isWord_28 LF a1 (0 : Int32) q1.2
  else some (false, q1.2)))
 else some (false, σ))
set_option maxHeartbeats 4000000 in
set_option maxRecDepth 100000 in
theorem vB_Tape_isWord_0 {X : Xt} {E : En} (g : GG X E 13 b_Tape_isWord R_Tape 3) (a1 : Nat) (σ : Sto) : VV X E b_Tape_isWord 3 eB 0 [(0, .ref (E.2.1 31)), (1, .ref (E.2.1 a1))] [] σ (B_Tape_isWord_0 a1 σ) := by
  unfold B_Tape_isWord_0
  refine v_aload_n 0 g d_Tape_isWord_0 rfl ?_
  refine v_getI g ff_Tape_19 rfl rfl d_Tape_isWord_1 ?_
  refine v_iconst (v := (1 : Int32)) g d_Tape_isWord_4 (by decide +kernel) ?_
  refine v_icmp_ne 24 g d_Tape_isWord_5 (by decide) (fun _ => ?_) (fun _ => ?_)
  · refine v_iconst (v := (0 : Int32)) g d_Tape_isWord_24 (by decide +kernel) ?_
    exact v_ret d_Tape_isWord_25 rfl
  · refine v_aload_n 0 g d_Tape_isWord_8 rfl ?_
    refine v_getI g ff_Tape_25 rfl rfl d_Tape_isWord_9 ?_
    refine v_aload_n 0 g d_Tape_isWord_12 rfl ?_
    refine v_getI g ff_Tape_22 rfl rfl d_Tape_isWord_13 ?_
    refine v_isub g d_Tape_isWord_16 ?_
    refine v_aload_n 1 g d_Tape_isWord_17 rfl ?_
    refine v_callI (str_len_run a1 g (m1 870 (by decide +kernel) (by decide +kernel)) (rest := [.int ((gI σ 31 4) - (gI σ 31 3))]) (by decide) (Nat.le_of_ble_eq_true rfl) d_Tape_isWord_18) (fun q1 => ?_)
    refine v_icmp_eq 26 g d_Tape_isWord_21 (by decide) (fun _ => ?_) (fun _ => ?_)
    · refine v_iconst (v := (0 : Int32)) g d_Tape_isWord_26 (by decide +kernel) ?_
      refine v_istore_n [(2, .int (0 : Int32)), (0, .ref (E.2.1 31)), (1, .ref (E.2.1 a1))] g d_Tape_isWord_27 (by decide) rfl ?_
      exact v_sub [1,2,0] rfl (vL_Tape_isWord_28 g LF a1 (0 : Int32) q1.2)
    · refine v_iconst (v := (0 : Int32)) g d_Tape_isWord_24 (by decide +kernel) ?_
      exact v_ret d_Tape_isWord_25 rfl
def f_Tape_isWord (a1 : Nat) (σ : Sto) : Option (Bool × Sto) := B_Tape_isWord_0 a1 σ
theorem sp_Tape_isWord {l : Launch} {E : En} (hE : Dj E) {a1 : Nat} {σ : Sto} {r : Bool} {σ' : Sto} (h : f_Tape_isWord a1 σ = some (r, σ')) : Ct l E y_Tape_isWord (wsM y_Tape_isWord b_Tape_isWord 3 (some .boolean)) 13 [.ref (E.2.1 31), .ref (E.2.1 a1)] σ (eB r) σ' :=
  ct_of hE (by decide +kernel) (Nat.le_of_ble_eq_true rfl) (fun b => Or.inr (Or.inl ⟨rfl, b, rfl⟩)) (fun X _ g => vB_Tape_isWord_0 g a1 σ) r σ' h
/-! method FittingRings$Tape.kindHere()I -/
theorem yv_Tape_kindHere : YV y_Tape_kindHere b_Tape_kindHere 2 (some .int) 0 8 := ⟨m1 924 (by decide +kernel) (by decide +kernel), m1 21 (by decide +kernel) (by decide +kernel), ini_Tape, m1 925 (by decide +kernel) (by decide +kernel), ⟨by decide +kernel, by decide +kernel, by decide +kernel⟩, by decide, by decide, T_Tape, 5, rfl⟩
theorem d_Tape_kindHere_0 : decode b_Tape_kindHere 0 = .ok (.iconst 0, 1) := by decide +kernel
theorem d_Tape_kindHere_1 : decode b_Tape_kindHere 1 = .ok (.istore_n 1, 1) := by decide +kernel
theorem d_Tape_kindHere_2 : decode b_Tape_kindHere 2 = .ok (.iload_n 1, 1) := by decide +kernel
theorem d_Tape_kindHere_3 : decode b_Tape_kindHere 3 = .ok (.bipush 6, 2) := by decide +kernel
theorem d_Tape_kindHere_5 : decode b_Tape_kindHere 5 = .ok (.if_icmp .ge 22, 3) := by decide +kernel
theorem d_Tape_kindHere_8 : decode b_Tape_kindHere 8 = .ok (.aload_n 0, 1) := by decide +kernel
theorem d_Tape_kindHere_9 : decode b_Tape_kindHere 9 = .ok (.iload_n 1, 1) := by decide +kernel
theorem d_Tape_kindHere_10 : decode b_Tape_kindHere 10 = .ok (.invokestatic 35, 3) := by decide +kernel
theorem d_Tape_kindHere_13 : decode b_Tape_kindHere 13 = .ok (.invokevirtual 39, 3) := by decide +kernel
theorem d_Tape_kindHere_16 : decode b_Tape_kindHere 16 = .ok (.ifCond .eq 5, 3) := by decide +kernel
theorem d_Tape_kindHere_19 : decode b_Tape_kindHere 19 = .ok (.iload_n 1, 1) := by decide +kernel
theorem d_Tape_kindHere_20 : decode b_Tape_kindHere 20 = .ok (.ireturn, 1) := by decide +kernel
theorem d_Tape_kindHere_21 : decode b_Tape_kindHere 21 = .ok (.iinc 1 1, 3) := by decide +kernel
theorem d_Tape_kindHere_24 : decode b_Tape_kindHere 24 = .ok (.goto (-22), 3) := by decide +kernel
theorem d_Tape_kindHere_27 : decode b_Tape_kindHere 27 = .ok (.iconst (-1), 1) := by decide +kernel
theorem d_Tape_kindHere_28 : decode b_Tape_kindHere 28 = .ok (.ireturn, 1) := by decide +kernel
def B_Tape_kindHere_2 (k2 : Int32 → Sto → Option (Int32 × Sto)) (v1 : Int32) (σ : Sto) : Option (Int32 × Sto) :=
  (if (6 : Int32) ≤ v1 then some ((-1 : Int32), σ)
 else ((f_Tape_pointName v1 σ).bind fun q1 => ((f_Tape_isWord q1.1 q1.2).bind fun q2 => (if (b2i q2.1) = 0 then k2 (v1 + (1 : Int32)) q2.2
  else some (v1, q2.2)))))
set_option maxHeartbeats 4000000 in
set_option maxRecDepth 100000 in
theorem vB_Tape_kindHere_2 {X : Xt} {E : En} (g : GG X E 14 b_Tape_kindHere R_Tape 2) {k2 : Int32 → Sto → Option (Int32 × Sto)} (hk2 : ∀ (v1 : Int32) (σ : Sto), VV X E b_Tape_kindHere 2 eI 2 [(0, .ref (E.2.1 31)), (1, .int v1)] [] σ (k2 v1 σ)) (v1 : Int32) (σ : Sto) : VV X E b_Tape_kindHere 2 eI 2 [(0, .ref (E.2.1 31)), (1, .int v1)] [] σ (B_Tape_kindHere_2 k2 v1 σ) := by
  unfold B_Tape_kindHere_2
  refine v_iload_n 1 g d_Tape_kindHere_2 rfl ?_
  refine v_bipush (v := (6 : Int32)) g d_Tape_kindHere_3 (by decide +kernel) ?_
  refine v_icmp_ge 27 g d_Tape_kindHere_5 (by decide) (fun _ => ?_) (fun _ => ?_)
  · refine v_iconst (v := (-1 : Int32)) g d_Tape_kindHere_27 (by decide +kernel) ?_
    exact v_ret d_Tape_kindHere_28 rfl
  · refine v_aload_n 0 g d_Tape_kindHere_8 rfl ?_
    refine v_iload_n 1 g d_Tape_kindHere_9 rfl ?_
    refine v_callR (r_S (rest := [.ref (E.2.1 31)]) [.int v1] g (m1 857 (by decide +kernel) (by decide +kernel)) ys_Tape_pointName (fun r σ1 h => sp_Tape_pointName g.2.2.1  h) rfl rfl (by decide) (Nat.le_of_ble_eq_true rfl) d_Tape_kindHere_10) (fun q1 => ?_)
    refine v_callB (r_V (rest := []) [.ref (E.2.1 q1.1)] g (m1 866 (by decide +kernel) (by decide +kernel)) yv_Tape_isWord rfl (fun r σ1 h => sp_Tape_isWord g.2.2.1  h) rfl rfl (by decide) (Nat.le_of_ble_eq_true rfl) d_Tape_kindHere_13) (fun q2 => ?_)
    refine v_if_eq 21 g d_Tape_kindHere_16 (by decide) (fun _ => ?_) (fun _ => ?_)
    · refine v_iinc 1 [(1, .int (v1 + (1 : Int32))), (0, .ref (E.2.1 31))] g d_Tape_kindHere_21 rfl (v := (1 : Int32)) (by decide +kernel) (by decide) rfl ?_
      refine v_goto 2 g d_Tape_kindHere_24 (by decide) ?_
      exact v_sub [1,0] rfl (hk2 (v1 + (1 : Int32)) q2.2)
    · refine v_iload_n 1 g d_Tape_kindHere_19 rfl ?_
      exact v_ret d_Tape_kindHere_20 rfl
def L_Tape_kindHere_2 : Nat → Int32 → Sto → Option (Int32 × Sto)
  | 0, _, _ => none
  | fu + 1, v1, σ => B_Tape_kindHere_2 (L_Tape_kindHere_2 fu) v1 σ
theorem vL_Tape_kindHere_2 {X : Xt} {E : En} (g : GG X E 14 b_Tape_kindHere R_Tape 2) (fu : Nat) : ∀ (v1 : Int32) (σ : Sto), VV X E b_Tape_kindHere 2 eI 2 [(0, .ref (E.2.1 31)), (1, .int v1)] [] σ (L_Tape_kindHere_2 fu v1 σ) := by
  induction fu with
  | zero => intros; exact v_none
  | succ fu ih =>
    intro v1 σ
    exact vB_Tape_kindHere_2 g ih v1 σ
def B_Tape_kindHere_0 (σ : Sto) : Option (Int32 × Sto) :=
  L_Tape_kindHere_2 LF (0 : Int32) σ
set_option maxHeartbeats 4000000 in
set_option maxRecDepth 100000 in
theorem vB_Tape_kindHere_0 {X : Xt} {E : En} (g : GG X E 14 b_Tape_kindHere R_Tape 2) (σ : Sto) : VV X E b_Tape_kindHere 2 eI 0 [(0, .ref (E.2.1 31))] [] σ (B_Tape_kindHere_0 σ) := by
  unfold B_Tape_kindHere_0
  refine v_iconst (v := (0 : Int32)) g d_Tape_kindHere_0 (by decide +kernel) ?_
  refine v_istore_n [(1, .int (0 : Int32)), (0, .ref (E.2.1 31))] g d_Tape_kindHere_1 (by decide) rfl ?_
  exact v_sub [1,0] rfl (vL_Tape_kindHere_2 g LF (0 : Int32) σ)
def f_Tape_kindHere (σ : Sto) : Option (Int32 × Sto) := B_Tape_kindHere_0 σ
theorem sp_Tape_kindHere {l : Launch} {E : En} (hE : Dj E) {σ : Sto} {r : Int32} {σ' : Sto} (h : f_Tape_kindHere σ = some (r, σ')) : Ct l E y_Tape_kindHere (wsM y_Tape_kindHere b_Tape_kindHere 2 (some .int)) 14 [.ref (E.2.1 31)] σ (eI r) σ' :=
  ct_of hE (by decide +kernel) (Nat.le_of_ble_eq_true rfl) (fun x => Or.inl ⟨rfl, x, rfl⟩) (fun X _ g => vB_Tape_kindHere_0 g σ) r σ' h
/-! method FittingRings$Tape.numberHere()I -/
theorem yv_Tape_numberHere : YV y_Tape_numberHere b_Tape_numberHere 3 (some .int) 0 8 := ⟨m1 928 (by decide +kernel) (by decide +kernel), m1 22 (by decide +kernel) (by decide +kernel), ini_Tape, m1 929 (by decide +kernel) (by decide +kernel), ⟨by decide +kernel, by decide +kernel, by decide +kernel⟩, by decide, by decide, T_Tape, 5, rfl⟩
theorem d_Tape_numberHere_0 : decode b_Tape_numberHere 0 = .ok (.aload_n 0, 1) := by decide +kernel
theorem d_Tape_numberHere_1 : decode b_Tape_numberHere 1 = .ok (.getfield 19, 3) := by decide +kernel
theorem d_Tape_numberHere_4 : decode b_Tape_numberHere 4 = .ok (.iconst 2, 1) := by decide +kernel
theorem d_Tape_numberHere_5 : decode b_Tape_numberHere 5 = .ok (.if_icmp .ne 16, 3) := by decide +kernel
theorem d_Tape_numberHere_8 : decode b_Tape_numberHere 8 = .ok (.aload_n 0, 1) := by decide +kernel
theorem d_Tape_numberHere_9 : decode b_Tape_numberHere 9 = .ok (.getfield 25, 3) := by decide +kernel
theorem d_Tape_numberHere_12 : decode b_Tape_numberHere 12 = .ok (.aload_n 0, 1) := by decide +kernel
theorem d_Tape_numberHere_13 : decode b_Tape_numberHere 13 = .ok (.getfield 22, 3) := by decide +kernel
theorem d_Tape_numberHere_16 : decode b_Tape_numberHere 16 = .ok (.isub, 1) := by decide +kernel
theorem d_Tape_numberHere_17 : decode b_Tape_numberHere 17 = .ok (.iconst 2, 1) := by decide +kernel
theorem d_Tape_numberHere_18 : decode b_Tape_numberHere 18 = .ok (.if_icmp .le 5, 3) := by decide +kernel
theorem d_Tape_numberHere_21 : decode b_Tape_numberHere 21 = .ok (.iconst (-1), 1) := by decide +kernel
theorem d_Tape_numberHere_22 : decode b_Tape_numberHere 22 = .ok (.ireturn, 1) := by decide +kernel
theorem d_Tape_numberHere_23 : decode b_Tape_numberHere 23 = .ok (.iconst 0, 1) := by decide +kernel
theorem d_Tape_numberHere_24 : decode b_Tape_numberHere 24 = .ok (.istore_n 1, 1) := by decide +kernel
theorem d_Tape_numberHere_25 : decode b_Tape_numberHere 25 = .ok (.aload_n 0, 1) := by decide +kernel
theorem d_Tape_numberHere_26 : decode b_Tape_numberHere 26 = .ok (.getfield 22, 3) := by decide +kernel
theorem d_Tape_numberHere_29 : decode b_Tape_numberHere 29 = .ok (.istore_n 2, 1) := by decide +kernel
theorem d_Tape_numberHere_30 : decode b_Tape_numberHere 30 = .ok (.iload_n 2, 1) := by decide +kernel
theorem d_Tape_numberHere_31 : decode b_Tape_numberHere 31 = .ok (.aload_n 0, 1) := by decide +kernel
theorem d_Tape_numberHere_32 : decode b_Tape_numberHere 32 = .ok (.getfield 25, 3) := by decide +kernel
theorem d_Tape_numberHere_35 : decode b_Tape_numberHere 35 = .ok (.if_icmp .ge 23, 3) := by decide +kernel
theorem d_Tape_numberHere_38 : decode b_Tape_numberHere 38 = .ok (.bipush 10, 2) := by decide +kernel
theorem d_Tape_numberHere_40 : decode b_Tape_numberHere 40 = .ok (.iload_n 1, 1) := by decide +kernel
theorem d_Tape_numberHere_41 : decode b_Tape_numberHere 41 = .ok (.imul, 1) := by decide +kernel
theorem d_Tape_numberHere_42 : decode b_Tape_numberHere 42 = .ok (.aload_n 0, 1) := by decide +kernel
theorem d_Tape_numberHere_43 : decode b_Tape_numberHere 43 = .ok (.iload_n 2, 1) := by decide +kernel
theorem d_Tape_numberHere_44 : decode b_Tape_numberHere 44 = .ok (.invokevirtual 81, 3) := by decide +kernel
theorem d_Tape_numberHere_47 : decode b_Tape_numberHere 47 = .ok (.iadd, 1) := by decide +kernel
theorem d_Tape_numberHere_48 : decode b_Tape_numberHere 48 = .ok (.bipush 48, 2) := by decide +kernel
theorem d_Tape_numberHere_50 : decode b_Tape_numberHere 50 = .ok (.isub, 1) := by decide +kernel
theorem d_Tape_numberHere_51 : decode b_Tape_numberHere 51 = .ok (.istore_n 1, 1) := by decide +kernel
theorem d_Tape_numberHere_52 : decode b_Tape_numberHere 52 = .ok (.iinc 2 1, 3) := by decide +kernel
theorem d_Tape_numberHere_55 : decode b_Tape_numberHere 55 = .ok (.goto (-25), 3) := by decide +kernel
theorem d_Tape_numberHere_58 : decode b_Tape_numberHere 58 = .ok (.iload_n 1, 1) := by decide +kernel
theorem d_Tape_numberHere_59 : decode b_Tape_numberHere 59 = .ok (.ireturn, 1) := by decide +kernel
def B_Tape_numberHere_30 (k30 : Int32 → Int32 → Sto → Option (Int32 × Sto)) (v1 : Int32) (v2 : Int32) (σ : Sto) : Option (Int32 × Sto) :=
  (if (gI σ 31 4) ≤ v2 then some (v1, σ)
 else ((f_Tape_byteAt v2 σ).bind fun q1 => (lt1 ((((10 : Int32) * v1) + q1.1) - (48 : Int32)) fun x2 => k30 x2 (v2 + (1 : Int32)) q1.2)))
set_option maxHeartbeats 4000000 in
set_option maxRecDepth 100000 in
theorem vB_Tape_numberHere_30 {X : Xt} {E : En} (g : GG X E 2 b_Tape_numberHere R_Tape 3) {k30 : Int32 → Int32 → Sto → Option (Int32 × Sto)} (hk30 : ∀ (v1 : Int32) (v2 : Int32) (σ : Sto), VV X E b_Tape_numberHere 3 eI 30 [(0, .ref (E.2.1 31)), (1, .int v1), (2, .int v2)] [] σ (k30 v1 v2 σ)) (v1 : Int32) (v2 : Int32) (σ : Sto) : VV X E b_Tape_numberHere 3 eI 30 [(0, .ref (E.2.1 31)), (1, .int v1), (2, .int v2)] [] σ (B_Tape_numberHere_30 k30 v1 v2 σ) := by
  unfold B_Tape_numberHere_30
  refine v_iload_n 2 g d_Tape_numberHere_30 rfl ?_
  refine v_aload_n 0 g d_Tape_numberHere_31 rfl ?_
  refine v_getI g ff_Tape_25 rfl rfl d_Tape_numberHere_32 ?_
  refine v_icmp_ge 58 g d_Tape_numberHere_35 (by decide) (fun _ => ?_) (fun _ => ?_)
  · refine v_iload_n 1 g d_Tape_numberHere_58 rfl ?_
    exact v_ret d_Tape_numberHere_59 rfl
  · refine v_bipush (v := (10 : Int32)) g d_Tape_numberHere_38 (by decide +kernel) ?_
    refine v_iload_n 1 g d_Tape_numberHere_40 rfl ?_
    refine v_imul g d_Tape_numberHere_41 ?_
    refine v_aload_n 0 g d_Tape_numberHere_42 rfl ?_
    refine v_iload_n 2 g d_Tape_numberHere_43 rfl ?_
    refine v_callI (r_V (rest := [.int ((10 : Int32) * v1)]) [.int v2] g (m1 843 (by decide +kernel) (by decide +kernel)) yv_Tape_byteAt rfl (fun r σ1 h => sp_Tape_byteAt g.2.2.1  h) rfl rfl (by decide) (Nat.le_of_ble_eq_true rfl) d_Tape_numberHere_44) (fun q1 => ?_)
    refine v_iadd g d_Tape_numberHere_47 ?_
    refine v_bipush (v := (48 : Int32)) g d_Tape_numberHere_48 (by decide +kernel) ?_
    refine v_isub g d_Tape_numberHere_50 ?_
    refine v_nlet (fun x2 ex2 => ?_)
    rw [← ex2]
    refine v_istore_n [(1, .int x2), (0, .ref (E.2.1 31)), (2, .int v2)] g d_Tape_numberHere_51 (by decide) rfl ?_
    refine v_iinc 2 [(2, .int (v2 + (1 : Int32))), (1, .int x2), (0, .ref (E.2.1 31))] g d_Tape_numberHere_52 rfl (v := (1 : Int32)) (by decide +kernel) (by decide) rfl ?_
    refine v_goto 30 g d_Tape_numberHere_55 (by decide) ?_
    exact v_sub [2,1,0] rfl (hk30 x2 (v2 + (1 : Int32)) q1.2)
def L_Tape_numberHere_30 : Nat → Int32 → Int32 → Sto → Option (Int32 × Sto)
  | 0, _, _, _ => none
  | fu + 1, v1, v2, σ => B_Tape_numberHere_30 (L_Tape_numberHere_30 fu) v1 v2 σ
theorem vL_Tape_numberHere_30 {X : Xt} {E : En} (g : GG X E 2 b_Tape_numberHere R_Tape 3) (fu : Nat) : ∀ (v1 : Int32) (v2 : Int32) (σ : Sto), VV X E b_Tape_numberHere 3 eI 30 [(0, .ref (E.2.1 31)), (1, .int v1), (2, .int v2)] [] σ (L_Tape_numberHere_30 fu v1 v2 σ) := by
  induction fu with
  | zero => intros; exact v_none
  | succ fu ih =>
    intro v1 v2 σ
    exact vB_Tape_numberHere_30 g ih v1 v2 σ
def B_Tape_numberHere_0 (σ : Sto) : Option (Int32 × Sto) :=
  (if (gI σ 31 2) = (2 : Int32) then (if ((gI σ 31 4) - (gI σ 31 3)) ≤ (2 : Int32) then L_Tape_numberHere_30 LF (0 : Int32) (gI σ 31 3) σ
  else some ((-1 : Int32), σ))
 else some ((-1 : Int32), σ))
set_option maxHeartbeats 4000000 in
set_option maxRecDepth 100000 in
theorem vB_Tape_numberHere_0 {X : Xt} {E : En} (g : GG X E 2 b_Tape_numberHere R_Tape 3) (σ : Sto) : VV X E b_Tape_numberHere 3 eI 0 [(0, .ref (E.2.1 31))] [] σ (B_Tape_numberHere_0 σ) := by
  unfold B_Tape_numberHere_0
  refine v_aload_n 0 g d_Tape_numberHere_0 rfl ?_
  refine v_getI g ff_Tape_19 rfl rfl d_Tape_numberHere_1 ?_
  refine v_iconst (v := (2 : Int32)) g d_Tape_numberHere_4 (by decide +kernel) ?_
  refine v_icmp_ne 21 g d_Tape_numberHere_5 (by decide) (fun _ => ?_) (fun _ => ?_)
  · refine v_iconst (v := (-1 : Int32)) g d_Tape_numberHere_21 (by decide +kernel) ?_
    exact v_ret d_Tape_numberHere_22 rfl
  · refine v_aload_n 0 g d_Tape_numberHere_8 rfl ?_
    refine v_getI g ff_Tape_25 rfl rfl d_Tape_numberHere_9 ?_
    refine v_aload_n 0 g d_Tape_numberHere_12 rfl ?_
    refine v_getI g ff_Tape_22 rfl rfl d_Tape_numberHere_13 ?_
    refine v_isub g d_Tape_numberHere_16 ?_
    refine v_iconst (v := (2 : Int32)) g d_Tape_numberHere_17 (by decide +kernel) ?_
    refine v_icmp_le 23 g d_Tape_numberHere_18 (by decide) (fun _ => ?_) (fun _ => ?_)
    · refine v_iconst (v := (0 : Int32)) g d_Tape_numberHere_23 (by decide +kernel) ?_
      refine v_istore_n [(1, .int (0 : Int32)), (0, .ref (E.2.1 31))] g d_Tape_numberHere_24 (by decide) rfl ?_
      refine v_aload_n 1 g d_Tape_numberHere_25 rfl ?_
      refine v_getI g ff_Tape_22 rfl rfl d_Tape_numberHere_26 ?_
      refine v_istore_n [(2, .int (gI σ 31 3)), (1, .int (0 : Int32)), (0, .ref (E.2.1 31))] g d_Tape_numberHere_29 (by decide) rfl ?_
      exact v_sub [2,1,0] rfl (vL_Tape_numberHere_30 g LF (0 : Int32) (gI σ 31 3) σ)
    · refine v_iconst (v := (-1 : Int32)) g d_Tape_numberHere_21 (by decide +kernel) ?_
      exact v_ret d_Tape_numberHere_22 rfl
def f_Tape_numberHere (σ : Sto) : Option (Int32 × Sto) := B_Tape_numberHere_0 σ
theorem sp_Tape_numberHere {l : Launch} {E : En} (hE : Dj E) {σ : Sto} {r : Int32} {σ' : Sto} (h : f_Tape_numberHere σ = some (r, σ')) : Ct l E y_Tape_numberHere (wsM y_Tape_numberHere b_Tape_numberHere 3 (some .int)) 2 [.ref (E.2.1 31)] σ (eI r) σ' :=
  ct_of hE (by decide +kernel) (Nat.le_of_ble_eq_true rfl) (fun x => Or.inl ⟨rfl, x, rfl⟩) (fun X _ g => vB_Tape_numberHere_0 g σ) r σ' h
/-! method FittingRings$Tape.playPoint(LFittingRings$Net;)Z -/
theorem yv_Tape_playPoint : YV y_Tape_playPoint b_Tape_playPoint 4 (some .boolean) 1 8 := ⟨m1 920 (by decide +kernel) (by decide +kernel), m1 20 (by decide +kernel) (by decide +kernel), ini_Tape, m1 921 (by decide +kernel) (by decide +kernel), ⟨by decide +kernel, by decide +kernel, by decide +kernel⟩, by decide, by decide, T_Tape, 5, rfl⟩
theorem d_Tape_playPoint_0 : decode b_Tape_playPoint 0 = .ok (.aload_n 1, 1) := by decide +kernel
theorem d_Tape_playPoint_1 : decode b_Tape_playPoint 1 = .ok (.getfield 63, 3) := by decide +kernel
theorem d_Tape_playPoint_4 : decode b_Tape_playPoint 4 = .ok (.bipush 40, 2) := by decide +kernel
theorem d_Tape_playPoint_6 : decode b_Tape_playPoint 6 = .ok (.if_icmp .lt 5, 3) := by decide +kernel
theorem d_Tape_playPoint_9 : decode b_Tape_playPoint 9 = .ok (.iconst 0, 1) := by decide +kernel
theorem d_Tape_playPoint_10 : decode b_Tape_playPoint 10 = .ok (.ireturn, 1) := by decide +kernel
theorem d_Tape_playPoint_11 : decode b_Tape_playPoint 11 = .ok (.aload_n 0, 1) := by decide +kernel
theorem d_Tape_playPoint_12 : decode b_Tape_playPoint 12 = .ok (.invokevirtual 28, 3) := by decide +kernel
theorem d_Tape_playPoint_15 : decode b_Tape_playPoint 15 = .ok (.aload_n 0, 1) := by decide +kernel
theorem d_Tape_playPoint_16 : decode b_Tape_playPoint 16 = .ok (.invokevirtual 66, 3) := by decide +kernel
theorem d_Tape_playPoint_19 : decode b_Tape_playPoint 19 = .ok (.istore_n 2, 1) := by decide +kernel
theorem d_Tape_playPoint_20 : decode b_Tape_playPoint 20 = .ok (.iload_n 2, 1) := by decide +kernel
theorem d_Tape_playPoint_21 : decode b_Tape_playPoint 21 = .ok (.ifCond .ge 5, 3) := by decide +kernel
theorem d_Tape_playPoint_24 : decode b_Tape_playPoint 24 = .ok (.iconst 0, 1) := by decide +kernel
theorem d_Tape_playPoint_25 : decode b_Tape_playPoint 25 = .ok (.ireturn, 1) := by decide +kernel
theorem d_Tape_playPoint_26 : decode b_Tape_playPoint 26 = .ok (.aload_n 0, 1) := by decide +kernel
theorem d_Tape_playPoint_27 : decode b_Tape_playPoint 27 = .ok (.invokevirtual 28, 3) := by decide +kernel
theorem d_Tape_playPoint_30 : decode b_Tape_playPoint 30 = .ok (.aload_n 0, 1) := by decide +kernel
theorem d_Tape_playPoint_31 : decode b_Tape_playPoint 31 = .ok (.invokevirtual 50, 3) := by decide +kernel
theorem d_Tape_playPoint_34 : decode b_Tape_playPoint 34 = .ok (.istore_n 3, 1) := by decide +kernel
theorem d_Tape_playPoint_35 : decode b_Tape_playPoint 35 = .ok (.iload_n 3, 1) := by decide +kernel
theorem d_Tape_playPoint_36 : decode b_Tape_playPoint 36 = .ok (.ifCond .ge 5, 3) := by decide +kernel
theorem d_Tape_playPoint_39 : decode b_Tape_playPoint 39 = .ok (.iconst 0, 1) := by decide +kernel
theorem d_Tape_playPoint_40 : decode b_Tape_playPoint 40 = .ok (.ireturn, 1) := by decide +kernel
theorem d_Tape_playPoint_41 : decode b_Tape_playPoint 41 = .ok (.aload_n 1, 1) := by decide +kernel
theorem d_Tape_playPoint_42 : decode b_Tape_playPoint 42 = .ok (.iload_n 2, 1) := by decide +kernel
theorem d_Tape_playPoint_43 : decode b_Tape_playPoint 43 = .ok (.iload_n 3, 1) := by decide +kernel
theorem d_Tape_playPoint_44 : decode b_Tape_playPoint 44 = .ok (.invokevirtual 69, 3) := by decide +kernel
theorem d_Tape_playPoint_47 : decode b_Tape_playPoint 47 = .ok (.pop, 1) := by decide +kernel
theorem d_Tape_playPoint_48 : decode b_Tape_playPoint 48 = .ok (.aload_n 0, 1) := by decide +kernel
theorem d_Tape_playPoint_49 : decode b_Tape_playPoint 49 = .ok (.invokevirtual 28, 3) := by decide +kernel
theorem d_Tape_playPoint_52 : decode b_Tape_playPoint 52 = .ok (.iconst 1, 1) := by decide +kernel
theorem d_Tape_playPoint_53 : decode b_Tape_playPoint 53 = .ok (.ireturn, 1) := by decide +kernel
def B_Tape_playPoint_0 (a1 : Nat) (σ : Sto) : Option (Bool × Sto) :=
  (if (gI σ a1 0) < (40 : Int32) then ((f_Tape_advance  σ).bind fun q1 => ((f_Tape_kindHere  q1.2).bind fun q2 => (if 0 ≤ q2.1 then ((f_Tape_advance  q2.2).bind fun q3 => ((f_Tape_numberHere  q3.2).bind fun q4 => (if 0 ≤ q4.1 then ((f_Net_add a1 q2.1 q4.1 q4.2).bind fun q5 => ((f_Tape_advance  q5.2).bind fun q6 => some (true, q6.2)))
   else some (false, q4.2))))
  else some (false, q2.2))))
 else some (false, σ))
set_option maxHeartbeats 4000000 in
set_option maxRecDepth 100000 in
theorem vB_Tape_playPoint_0 {X : Xt} {E : En} (g : GG X E 15 b_Tape_playPoint R_Tape 4) (a1 : Nat) (ha1 : cls a1 = 4) (σ : Sto) : VV X E b_Tape_playPoint 4 eB 0 [(0, .ref (E.2.1 31)), (1, .ref (E.2.1 a1))] [] σ (B_Tape_playPoint_0 a1 σ) := by
  unfold B_Tape_playPoint_0
  refine v_aload_n 1 g d_Tape_playPoint_0 rfl ?_
  refine v_getI g ff_Tape_63 ha1 rfl d_Tape_playPoint_1 ?_
  refine v_bipush (v := (40 : Int32)) g d_Tape_playPoint_4 (by decide +kernel) ?_
  refine v_icmp_lt 11 g d_Tape_playPoint_6 (by decide) (fun _ => ?_) (fun _ => ?_)
  · refine v_aload_n 0 g d_Tape_playPoint_11 rfl ?_
    refine v_callU (r_V (rest := []) [] g (m1 839 (by decide +kernel) (by decide +kernel)) yv_Tape_advance rfl (fun r σ1 h => sp_Tape_advance g.2.2.1  h) rfl rfl (by decide) (Nat.le_of_ble_eq_true rfl) d_Tape_playPoint_12) (fun q1 => ?_)
    refine v_aload_n 0 g d_Tape_playPoint_15 rfl ?_
    refine v_callI (r_V (rest := []) [] g (m1 922 (by decide +kernel) (by decide +kernel)) yv_Tape_kindHere rfl (fun r σ1 h => sp_Tape_kindHere g.2.2.1  h) rfl rfl (by decide) (Nat.le_of_ble_eq_true rfl) d_Tape_playPoint_16) (fun q2 => ?_)
    refine v_istore_n [(2, .int q2.1), (0, .ref (E.2.1 31)), (1, .ref (E.2.1 a1))] g d_Tape_playPoint_19 (by decide) rfl ?_
    refine v_iload_n 0 g d_Tape_playPoint_20 rfl ?_
    refine v_if_ge 26 g d_Tape_playPoint_21 (by decide) (fun _ => ?_) (fun _ => ?_)
    · refine v_aload_n 1 g d_Tape_playPoint_26 rfl ?_
      refine v_callU (r_V (rest := []) [] g (m1 839 (by decide +kernel) (by decide +kernel)) yv_Tape_advance rfl (fun r σ1 h => sp_Tape_advance g.2.2.1  h) rfl rfl (by decide) (Nat.le_of_ble_eq_true rfl) d_Tape_playPoint_27) (fun q3 => ?_)
      refine v_aload_n 1 g d_Tape_playPoint_30 rfl ?_
      refine v_callI (r_V (rest := []) [] g (m1 926 (by decide +kernel) (by decide +kernel)) yv_Tape_numberHere rfl (fun r σ1 h => sp_Tape_numberHere g.2.2.1  h) rfl rfl (by decide) (Nat.le_of_ble_eq_true rfl) d_Tape_playPoint_31) (fun q4 => ?_)
      refine v_istore_n [(3, .int q4.1), (2, .int q2.1), (0, .ref (E.2.1 31)), (1, .ref (E.2.1 a1))] g d_Tape_playPoint_34 (by decide) rfl ?_
      refine v_iload_n 0 g d_Tape_playPoint_35 rfl ?_
      refine v_if_ge 41 g d_Tape_playPoint_36 (by decide) (fun _ => ?_) (fun _ => ?_)
      · refine v_aload_n 3 g d_Tape_playPoint_41 rfl ?_
        refine v_iload_n 1 g d_Tape_playPoint_42 rfl ?_
        refine v_iload_n 0 g d_Tape_playPoint_43 rfl ?_
        refine v_callI (r_V (rest := []) [.int q2.1, .int q4.1] g (m1 930 (by decide +kernel) (by decide +kernel)) yv_Net_add ha1 (fun r σ1 h => sp_Net_add g.2.2.1 ha1 h) rfl rfl (by decide) (Nat.le_of_ble_eq_true rfl) d_Tape_playPoint_44) (fun q5 => ?_)
        refine v_pop g d_Tape_playPoint_47 rfl ?_
        refine v_aload_n 2 g d_Tape_playPoint_48 rfl ?_
        refine v_callU (r_V (rest := []) [] g (m1 839 (by decide +kernel) (by decide +kernel)) yv_Tape_advance rfl (fun r σ1 h => sp_Tape_advance g.2.2.1  h) rfl rfl (by decide) (Nat.le_of_ble_eq_true rfl) d_Tape_playPoint_49) (fun q6 => ?_)
        refine v_iconst (v := (1 : Int32)) g d_Tape_playPoint_52 (by decide +kernel) ?_
        exact v_ret d_Tape_playPoint_53 rfl
      · refine v_iconst (v := (0 : Int32)) g d_Tape_playPoint_39 (by decide +kernel) ?_
        exact v_ret d_Tape_playPoint_40 rfl
    · refine v_iconst (v := (0 : Int32)) g d_Tape_playPoint_24 (by decide +kernel) ?_
      exact v_ret d_Tape_playPoint_25 rfl
  · refine v_iconst (v := (0 : Int32)) g d_Tape_playPoint_9 (by decide +kernel) ?_
    exact v_ret d_Tape_playPoint_10 rfl
def f_Tape_playPoint (a1 : Nat) (σ : Sto) : Option (Bool × Sto) := B_Tape_playPoint_0 a1 σ
theorem sp_Tape_playPoint {l : Launch} {E : En} (hE : Dj E) {a1 : Nat} (ha1 : cls a1 = 4) {σ : Sto} {r : Bool} {σ' : Sto} (h : f_Tape_playPoint a1 σ = some (r, σ')) : Ct l E y_Tape_playPoint (wsM y_Tape_playPoint b_Tape_playPoint 4 (some .boolean)) 15 [.ref (E.2.1 31), .ref (E.2.1 a1)] σ (eB r) σ' :=
  ct_of hE (by decide +kernel) (Nat.le_of_ble_eq_true rfl) (fun b => Or.inr (Or.inl ⟨rfl, b, rfl⟩)) (fun X _ g => vB_Tape_playPoint_0 g a1 ha1 σ) r σ' h
/-! method FittingRings$Tape.verbName(I)Ljava/lang/String; -/
theorem ys_Tape_verbName : YS y_Tape_verbName b_Tape_verbName 1 (some (.object "java/lang/String")) 1 := ⟨m1 936 (by decide +kernel) (by decide +kernel), ini_Tape, m1 937 (by decide +kernel) (by decide +kernel), ⟨by decide +kernel, by decide +kernel, by decide +kernel⟩, by decide⟩
theorem d_Tape_verbName_0 : decode b_Tape_verbName 0 = .ok (.iload_n 0, 1) := by decide +kernel
theorem d_Tape_verbName_1 : decode b_Tape_verbName 1 = .ok (.tableswitch 43 1 4 #[31, 34, 37, 40], 31) := by decide +kernel
theorem d_Tape_verbName_32 : decode b_Tape_verbName 32 = .ok (.ldc 115, 2) := by decide +kernel
theorem d_Tape_verbName_34 : decode b_Tape_verbName 34 = .ok (.areturn, 1) := by decide +kernel
theorem d_Tape_verbName_35 : decode b_Tape_verbName 35 = .ok (.ldc 117, 2) := by decide +kernel
theorem d_Tape_verbName_37 : decode b_Tape_verbName 37 = .ok (.areturn, 1) := by decide +kernel
theorem d_Tape_verbName_38 : decode b_Tape_verbName 38 = .ok (.ldc 119, 2) := by decide +kernel
theorem d_Tape_verbName_40 : decode b_Tape_verbName 40 = .ok (.areturn, 1) := by decide +kernel
theorem d_Tape_verbName_41 : decode b_Tape_verbName 41 = .ok (.ldc 121, 2) := by decide +kernel
theorem d_Tape_verbName_43 : decode b_Tape_verbName 43 = .ok (.areturn, 1) := by decide +kernel
theorem d_Tape_verbName_44 : decode b_Tape_verbName 44 = .ok (.ldc 123, 2) := by decide +kernel
theorem d_Tape_verbName_46 : decode b_Tape_verbName 46 = .ok (.areturn, 1) := by decide +kernel
def B_Tape_verbName_0 (a0 : Int32) (σ : Sto) : Option (Nat × Sto) :=
  (if a0 = (1 : Int32) then some (1007, σ)
 else (if a0 = (2 : Int32) then some (1008, σ)
  else (if a0 = (3 : Int32) then some (1009, σ)
   else (if a0 = (4 : Int32) then some (1010, σ)
    else some (1006, σ)))))
set_option maxHeartbeats 4000000 in
set_option maxRecDepth 100000 in
theorem vB_Tape_verbName_0 {X : Xt} {E : En} (g : GG X E 1 b_Tape_verbName R_Tape 1) (a0 : Int32) (σ : Sto) : VV X E b_Tape_verbName 1 (eR E) 0 [(0, .int a0)] [] σ (B_Tape_verbName_0 a0 σ) := by
  unfold B_Tape_verbName_0
  refine v_iload_n 0 g d_Tape_verbName_0 rfl ?_
  refine v_ite _ (fun h_0 => ?_) (fun h_0 => ?_)
  · refine v_tableIn 32 g d_Tape_verbName_1 (by rw [h_0]; decide +kernel) (by rw [h_0]; decide +kernel) (off := 31) (by rw [h_0]; decide +kernel) (by decide) ?_
    refine v_ldcS 7 g (by decide) d_Tape_verbName_32 ?_
    exact v_ret d_Tape_verbName_34 rfl
  · refine v_ite _ (fun h_1 => ?_) (fun h_1 => ?_)
    · refine v_tableIn 35 g d_Tape_verbName_1 (by rw [h_1]; decide +kernel) (by rw [h_1]; decide +kernel) (off := 34) (by rw [h_1]; decide +kernel) (by decide) ?_
      refine v_ldcS 8 g (by decide) d_Tape_verbName_35 ?_
      exact v_ret d_Tape_verbName_37 rfl
    · refine v_ite _ (fun h_2 => ?_) (fun h_2 => ?_)
      · refine v_tableIn 38 g d_Tape_verbName_1 (by rw [h_2]; decide +kernel) (by rw [h_2]; decide +kernel) (off := 37) (by rw [h_2]; decide +kernel) (by decide) ?_
        refine v_ldcS 9 g (by decide) d_Tape_verbName_38 ?_
        exact v_ret d_Tape_verbName_40 rfl
      · refine v_ite _ (fun h_3 => ?_) (fun h_3 => ?_)
        · refine v_tableIn 41 g d_Tape_verbName_1 (by rw [h_3]; decide +kernel) (by rw [h_3]; decide +kernel) (off := 40) (by rw [h_3]; decide +kernel) (by decide) ?_
          refine v_ldcS 10 g (by decide) d_Tape_verbName_41 ?_
          exact v_ret d_Tape_verbName_43 rfl
        · refine v_tableOut 44 g d_Tape_verbName_1 (by have n0 := sw_ne h_0 (show ((1 : Int32)).toInt = 1 by decide +kernel); have n1 := sw_ne h_1 (show ((2 : Int32)).toInt = 2 by decide +kernel); have n2 := sw_ne h_2 (show ((3 : Int32)).toInt = 3 by decide +kernel); have n3 := sw_ne h_3 (show ((4 : Int32)).toInt = 4 by decide +kernel); omega) (by decide) ?_
          refine v_ldcS 6 g (by decide) d_Tape_verbName_44 ?_
          exact v_ret d_Tape_verbName_46 rfl
def f_Tape_verbName (a0 : Int32) (σ : Sto) : Option (Nat × Sto) := B_Tape_verbName_0 a0 σ
theorem sp_Tape_verbName {l : Launch} {E : En} (hE : Dj E) {a0 : Int32} {σ : Sto} {r : Nat} {σ' : Sto} (h : f_Tape_verbName a0 σ = some (r, σ')) : Ct l E y_Tape_verbName (wsM y_Tape_verbName b_Tape_verbName 1 (some (.object "java/lang/String"))) 1 [.int a0] σ ((eR E) r) σ' :=
  ct_of hE (by decide +kernel) (Nat.le_of_ble_eq_true rfl) (fun x => Or.inr (Or.inr (Or.inr (Or.inr ⟨⟨_, rfl⟩, _, rfl⟩)))) (fun X _ g => vB_Tape_verbName_0 g a0 σ) r σ' h
/-! method FittingRings$Tape.verbHere()I -/
theorem yv_Tape_verbHere : YV y_Tape_verbHere b_Tape_verbHere 2 (some .int) 0 8 := ⟨m1 933 (by decide +kernel) (by decide +kernel), m1 23 (by decide +kernel) (by decide +kernel), ini_Tape, m1 934 (by decide +kernel) (by decide +kernel), ⟨by decide +kernel, by decide +kernel, by decide +kernel⟩, by decide, by decide, T_Tape, 5, rfl⟩
theorem d_Tape_verbHere_0 : decode b_Tape_verbHere 0 = .ok (.iconst 0, 1) := by decide +kernel
theorem d_Tape_verbHere_1 : decode b_Tape_verbHere 1 = .ok (.istore_n 1, 1) := by decide +kernel
theorem d_Tape_verbHere_2 : decode b_Tape_verbHere 2 = .ok (.iload_n 1, 1) := by decide +kernel
theorem d_Tape_verbHere_3 : decode b_Tape_verbHere 3 = .ok (.iconst 5, 1) := by decide +kernel
theorem d_Tape_verbHere_4 : decode b_Tape_verbHere 4 = .ok (.if_icmp .ge 22, 3) := by decide +kernel
theorem d_Tape_verbHere_7 : decode b_Tape_verbHere 7 = .ok (.aload_n 0, 1) := by decide +kernel
theorem d_Tape_verbHere_8 : decode b_Tape_verbHere 8 = .ok (.iload_n 1, 1) := by decide +kernel
theorem d_Tape_verbHere_9 : decode b_Tape_verbHere 9 = .ok (.invokestatic 100, 3) := by decide +kernel
theorem d_Tape_verbHere_12 : decode b_Tape_verbHere 12 = .ok (.invokevirtual 39, 3) := by decide +kernel
theorem d_Tape_verbHere_15 : decode b_Tape_verbHere 15 = .ok (.ifCond .eq 5, 3) := by decide +kernel
theorem d_Tape_verbHere_18 : decode b_Tape_verbHere 18 = .ok (.iload_n 1, 1) := by decide +kernel
theorem d_Tape_verbHere_19 : decode b_Tape_verbHere 19 = .ok (.ireturn, 1) := by decide +kernel
theorem d_Tape_verbHere_20 : decode b_Tape_verbHere 20 = .ok (.iinc 1 1, 3) := by decide +kernel
theorem d_Tape_verbHere_23 : decode b_Tape_verbHere 23 = .ok (.goto (-21), 3) := by decide +kernel
theorem d_Tape_verbHere_26 : decode b_Tape_verbHere 26 = .ok (.iconst (-1), 1) := by decide +kernel
theorem d_Tape_verbHere_27 : decode b_Tape_verbHere 27 = .ok (.ireturn, 1) := by decide +kernel
def B_Tape_verbHere_2 (k2 : Int32 → Sto → Option (Int32 × Sto)) (v1 : Int32) (σ : Sto) : Option (Int32 × Sto) :=
  (if (5 : Int32) ≤ v1 then some ((-1 : Int32), σ)
 else ((f_Tape_verbName v1 σ).bind fun q1 => ((f_Tape_isWord q1.1 q1.2).bind fun q2 => (if (b2i q2.1) = 0 then k2 (v1 + (1 : Int32)) q2.2
  else some (v1, q2.2)))))
set_option maxHeartbeats 4000000 in
set_option maxRecDepth 100000 in
theorem vB_Tape_verbHere_2 {X : Xt} {E : En} (g : GG X E 14 b_Tape_verbHere R_Tape 2) {k2 : Int32 → Sto → Option (Int32 × Sto)} (hk2 : ∀ (v1 : Int32) (σ : Sto), VV X E b_Tape_verbHere 2 eI 2 [(0, .ref (E.2.1 31)), (1, .int v1)] [] σ (k2 v1 σ)) (v1 : Int32) (σ : Sto) : VV X E b_Tape_verbHere 2 eI 2 [(0, .ref (E.2.1 31)), (1, .int v1)] [] σ (B_Tape_verbHere_2 k2 v1 σ) := by
  unfold B_Tape_verbHere_2
  refine v_iload_n 1 g d_Tape_verbHere_2 rfl ?_
  refine v_iconst (v := (5 : Int32)) g d_Tape_verbHere_3 (by decide +kernel) ?_
  refine v_icmp_ge 26 g d_Tape_verbHere_4 (by decide) (fun _ => ?_) (fun _ => ?_)
  · refine v_iconst (v := (-1 : Int32)) g d_Tape_verbHere_26 (by decide +kernel) ?_
    exact v_ret d_Tape_verbHere_27 rfl
  · refine v_aload_n 0 g d_Tape_verbHere_7 rfl ?_
    refine v_iload_n 1 g d_Tape_verbHere_8 rfl ?_
    refine v_callR (r_S (rest := [.ref (E.2.1 31)]) [.int v1] g (m1 935 (by decide +kernel) (by decide +kernel)) ys_Tape_verbName (fun r σ1 h => sp_Tape_verbName g.2.2.1  h) rfl rfl (by decide) (Nat.le_of_ble_eq_true rfl) d_Tape_verbHere_9) (fun q1 => ?_)
    refine v_callB (r_V (rest := []) [.ref (E.2.1 q1.1)] g (m1 866 (by decide +kernel) (by decide +kernel)) yv_Tape_isWord rfl (fun r σ1 h => sp_Tape_isWord g.2.2.1  h) rfl rfl (by decide) (Nat.le_of_ble_eq_true rfl) d_Tape_verbHere_12) (fun q2 => ?_)
    refine v_if_eq 20 g d_Tape_verbHere_15 (by decide) (fun _ => ?_) (fun _ => ?_)
    · refine v_iinc 1 [(1, .int (v1 + (1 : Int32))), (0, .ref (E.2.1 31))] g d_Tape_verbHere_20 rfl (v := (1 : Int32)) (by decide +kernel) (by decide) rfl ?_
      refine v_goto 2 g d_Tape_verbHere_23 (by decide) ?_
      exact v_sub [1,0] rfl (hk2 (v1 + (1 : Int32)) q2.2)
    · refine v_iload_n 1 g d_Tape_verbHere_18 rfl ?_
      exact v_ret d_Tape_verbHere_19 rfl
def L_Tape_verbHere_2 : Nat → Int32 → Sto → Option (Int32 × Sto)
  | 0, _, _ => none
  | fu + 1, v1, σ => B_Tape_verbHere_2 (L_Tape_verbHere_2 fu) v1 σ
theorem vL_Tape_verbHere_2 {X : Xt} {E : En} (g : GG X E 14 b_Tape_verbHere R_Tape 2) (fu : Nat) : ∀ (v1 : Int32) (σ : Sto), VV X E b_Tape_verbHere 2 eI 2 [(0, .ref (E.2.1 31)), (1, .int v1)] [] σ (L_Tape_verbHere_2 fu v1 σ) := by
  induction fu with
  | zero => intros; exact v_none
  | succ fu ih =>
    intro v1 σ
    exact vB_Tape_verbHere_2 g ih v1 σ
def B_Tape_verbHere_0 (σ : Sto) : Option (Int32 × Sto) :=
  L_Tape_verbHere_2 LF (0 : Int32) σ
set_option maxHeartbeats 4000000 in
set_option maxRecDepth 100000 in
theorem vB_Tape_verbHere_0 {X : Xt} {E : En} (g : GG X E 14 b_Tape_verbHere R_Tape 2) (σ : Sto) : VV X E b_Tape_verbHere 2 eI 0 [(0, .ref (E.2.1 31))] [] σ (B_Tape_verbHere_0 σ) := by
  unfold B_Tape_verbHere_0
  refine v_iconst (v := (0 : Int32)) g d_Tape_verbHere_0 (by decide +kernel) ?_
  refine v_istore_n [(1, .int (0 : Int32)), (0, .ref (E.2.1 31))] g d_Tape_verbHere_1 (by decide) rfl ?_
  exact v_sub [1,0] rfl (vL_Tape_verbHere_2 g LF (0 : Int32) σ)
def f_Tape_verbHere (σ : Sto) : Option (Int32 × Sto) := B_Tape_verbHere_0 σ
theorem sp_Tape_verbHere {l : Launch} {E : En} (hE : Dj E) {σ : Sto} {r : Int32} {σ' : Sto} (h : f_Tape_verbHere σ = some (r, σ')) : Ct l E y_Tape_verbHere (wsM y_Tape_verbHere b_Tape_verbHere 2 (some .int)) 14 [.ref (E.2.1 31)] σ (eI r) σ' :=
  ct_of hE (by decide +kernel) (Nat.le_of_ble_eq_true rfl) (fun x => Or.inl ⟨rfl, x, rfl⟩) (fun X _ g => vB_Tape_verbHere_0 g σ) r σ' h
/-! method FittingRings$Tape.carryOut(LFittingRings$Net;III)V -/
theorem ys_Tape_carryOut : YS y_Tape_carryOut b_Tape_carryOut 7 (none) 4 := ⟨m1 945 (by decide +kernel) (by decide +kernel), ini_Tape, m1 946 (by decide +kernel) (by decide +kernel), ⟨by decide +kernel, by decide +kernel, by decide +kernel⟩, by decide⟩
theorem d_Tape_carryOut_0 : decode b_Tape_carryOut 0 = .ok (.iload_n 1, 1) := by decide +kernel
theorem d_Tape_carryOut_1 : decode b_Tape_carryOut 1 = .ok (.ifCond .eq 8, 3) := by decide +kernel
theorem d_Tape_carryOut_4 : decode b_Tape_carryOut 4 = .ok (.iload_n 1, 1) := by decide +kernel
theorem d_Tape_carryOut_5 : decode b_Tape_carryOut 5 = .ok (.iconst 1, 1) := by decide +kernel
theorem d_Tape_carryOut_6 : decode b_Tape_carryOut 6 = .ok (.if_icmp .ne 19, 3) := by decide +kernel
theorem d_Tape_carryOut_9 : decode b_Tape_carryOut 9 = .ok (.aload_n 0, 1) := by decide +kernel
theorem d_Tape_carryOut_10 : decode b_Tape_carryOut 10 = .ok (.iload_n 2, 1) := by decide +kernel
theorem d_Tape_carryOut_11 : decode b_Tape_carryOut 11 = .ok (.iload_n 3, 1) := by decide +kernel
theorem d_Tape_carryOut_12 : decode b_Tape_carryOut 12 = .ok (.iload_n 1, 1) := by decide +kernel
theorem d_Tape_carryOut_13 : decode b_Tape_carryOut 13 = .ok (.ifCond .ne 7, 3) := by decide +kernel
theorem d_Tape_carryOut_16 : decode b_Tape_carryOut 16 = .ok (.iconst 1, 1) := by decide +kernel
theorem d_Tape_carryOut_17 : decode b_Tape_carryOut 17 = .ok (.goto 4, 3) := by decide +kernel
theorem d_Tape_carryOut_20 : decode b_Tape_carryOut 20 = .ok (.iconst 0, 1) := by decide +kernel
theorem d_Tape_carryOut_21 : decode b_Tape_carryOut 21 = .ok (.invokevirtual 73, 3) := by decide +kernel
theorem d_Tape_carryOut_24 : decode b_Tape_carryOut 24 = .ok (.return_, 1) := by decide +kernel
theorem d_Tape_carryOut_25 : decode b_Tape_carryOut 25 = .ok (.iload_n 2, 1) := by decide +kernel
theorem d_Tape_carryOut_26 : decode b_Tape_carryOut 26 = .ok (.istore 4, 2) := by decide +kernel
theorem d_Tape_carryOut_28 : decode b_Tape_carryOut 28 = .ok (.iload 4, 2) := by decide +kernel
theorem d_Tape_carryOut_30 : decode b_Tape_carryOut 30 = .ok (.iload_n 3, 1) := by decide +kernel
theorem d_Tape_carryOut_31 : decode b_Tape_carryOut 31 = .ok (.if_icmp .ge 108, 3) := by decide +kernel
theorem d_Tape_carryOut_34 : decode b_Tape_carryOut 34 = .ok (.iload 4, 2) := by decide +kernel
theorem d_Tape_carryOut_36 : decode b_Tape_carryOut 36 = .ok (.bipush 40, 2) := by decide +kernel
theorem d_Tape_carryOut_38 : decode b_Tape_carryOut 38 = .ok (.if_icmp .ge 101, 3) := by decide +kernel
theorem d_Tape_carryOut_41 : decode b_Tape_carryOut 41 = .ok (.iload 4, 2) := by decide +kernel
theorem d_Tape_carryOut_43 : decode b_Tape_carryOut 43 = .ok (.iconst 1, 1) := by decide +kernel
theorem d_Tape_carryOut_44 : decode b_Tape_carryOut 44 = .ok (.iadd, 1) := by decide +kernel
theorem d_Tape_carryOut_45 : decode b_Tape_carryOut 45 = .ok (.istore 5, 2) := by decide +kernel
theorem d_Tape_carryOut_47 : decode b_Tape_carryOut 47 = .ok (.iload 5, 2) := by decide +kernel
theorem d_Tape_carryOut_49 : decode b_Tape_carryOut 49 = .ok (.iload_n 3, 1) := by decide +kernel
theorem d_Tape_carryOut_50 : decode b_Tape_carryOut 50 = .ok (.if_icmp .gt 83, 3) := by decide +kernel
theorem d_Tape_carryOut_53 : decode b_Tape_carryOut 53 = .ok (.iload 5, 2) := by decide +kernel
theorem d_Tape_carryOut_55 : decode b_Tape_carryOut 55 = .ok (.bipush 40, 2) := by decide +kernel
theorem d_Tape_carryOut_57 : decode b_Tape_carryOut 57 = .ok (.if_icmp .ge 76, 3) := by decide +kernel
theorem d_Tape_carryOut_60 : decode b_Tape_carryOut 60 = .ok (.iload 5, 2) := by decide +kernel
theorem d_Tape_carryOut_62 : decode b_Tape_carryOut 62 = .ok (.iload 4, 2) := by decide +kernel
theorem d_Tape_carryOut_64 : decode b_Tape_carryOut 64 = .ok (.iconst 1, 1) := by decide +kernel
theorem d_Tape_carryOut_65 : decode b_Tape_carryOut 65 = .ok (.iadd, 1) := by decide +kernel
theorem d_Tape_carryOut_66 : decode b_Tape_carryOut 66 = .ok (.if_icmp .eq 15, 3) := by decide +kernel
theorem d_Tape_carryOut_69 : decode b_Tape_carryOut 69 = .ok (.iload 4, 2) := by decide +kernel
theorem d_Tape_carryOut_71 : decode b_Tape_carryOut 71 = .ok (.iload_n 2, 1) := by decide +kernel
theorem d_Tape_carryOut_72 : decode b_Tape_carryOut 72 = .ok (.if_icmp .ne 13, 3) := by decide +kernel
theorem d_Tape_carryOut_75 : decode b_Tape_carryOut 75 = .ok (.iload 5, 2) := by decide +kernel
theorem d_Tape_carryOut_77 : decode b_Tape_carryOut 77 = .ok (.iload_n 3, 1) := by decide +kernel
theorem d_Tape_carryOut_78 : decode b_Tape_carryOut 78 = .ok (.if_icmp .ne 7, 3) := by decide +kernel
theorem d_Tape_carryOut_81 : decode b_Tape_carryOut 81 = .ok (.iconst 1, 1) := by decide +kernel
theorem d_Tape_carryOut_82 : decode b_Tape_carryOut 82 = .ok (.goto 4, 3) := by decide +kernel
theorem d_Tape_carryOut_85 : decode b_Tape_carryOut 85 = .ok (.iconst 0, 1) := by decide +kernel
theorem d_Tape_carryOut_86 : decode b_Tape_carryOut 86 = .ok (.istore 6, 2) := by decide +kernel
theorem d_Tape_carryOut_88 : decode b_Tape_carryOut 88 = .ok (.iload_n 1, 1) := by decide +kernel
theorem d_Tape_carryOut_89 : decode b_Tape_carryOut 89 = .ok (.iconst 3, 1) := by decide +kernel
theorem d_Tape_carryOut_90 : decode b_Tape_carryOut 90 = .ok (.if_icmp .ne 8, 3) := by decide +kernel
theorem d_Tape_carryOut_93 : decode b_Tape_carryOut 93 = .ok (.iload 6, 2) := by decide +kernel
theorem d_Tape_carryOut_95 : decode b_Tape_carryOut 95 = .ok (.ifCond .eq 32, 3) := by decide +kernel
theorem d_Tape_carryOut_98 : decode b_Tape_carryOut 98 = .ok (.aload_n 0, 1) := by decide +kernel
theorem d_Tape_carryOut_99 : decode b_Tape_carryOut 99 = .ok (.iload 4, 2) := by decide +kernel
theorem d_Tape_carryOut_101 : decode b_Tape_carryOut 101 = .ok (.iload 5, 2) := by decide +kernel
theorem d_Tape_carryOut_103 : decode b_Tape_carryOut 103 = .ok (.iload_n 1, 1) := by decide +kernel
theorem d_Tape_carryOut_104 : decode b_Tape_carryOut 104 = .ok (.iconst 4, 1) := by decide +kernel
theorem d_Tape_carryOut_105 : decode b_Tape_carryOut 105 = .ok (.if_icmp .ne 14, 3) := by decide +kernel
theorem d_Tape_carryOut_108 : decode b_Tape_carryOut 108 = .ok (.aload_n 0, 1) := by decide +kernel
theorem d_Tape_carryOut_109 : decode b_Tape_carryOut 109 = .ok (.iload 4, 2) := by decide +kernel
theorem d_Tape_carryOut_111 : decode b_Tape_carryOut 111 = .ok (.iload 5, 2) := by decide +kernel
theorem d_Tape_carryOut_113 : decode b_Tape_carryOut 113 = .ok (.invokevirtual 77, 3) := by decide +kernel
theorem d_Tape_carryOut_116 : decode b_Tape_carryOut 116 = .ok (.ifCond .ne 7, 3) := by decide +kernel
theorem d_Tape_carryOut_119 : decode b_Tape_carryOut 119 = .ok (.iconst 1, 1) := by decide +kernel
theorem d_Tape_carryOut_120 : decode b_Tape_carryOut 120 = .ok (.goto 4, 3) := by decide +kernel
theorem d_Tape_carryOut_123 : decode b_Tape_carryOut 123 = .ok (.iconst 0, 1) := by decide +kernel
theorem d_Tape_carryOut_124 : decode b_Tape_carryOut 124 = .ok (.invokevirtual 73, 3) := by decide +kernel
theorem d_Tape_carryOut_127 : decode b_Tape_carryOut 127 = .ok (.iinc 5 1, 3) := by decide +kernel
theorem d_Tape_carryOut_130 : decode b_Tape_carryOut 130 = .ok (.goto (-83), 3) := by decide +kernel
theorem d_Tape_carryOut_133 : decode b_Tape_carryOut 133 = .ok (.iinc 4 1, 3) := by decide +kernel
theorem d_Tape_carryOut_136 : decode b_Tape_carryOut 136 = .ok (.goto (-108), 3) := by decide +kernel
theorem d_Tape_carryOut_139 : decode b_Tape_carryOut 139 = .ok (.return_, 1) := by decide +kernel
def B_Tape_carryOut_98 (k47 : Nat → Int32 → Int32 → Int32 → Int32 → Int32 → Sto → Option (Unit × Sto)) (v0 : Nat) (v1 : Int32) (v2 : Int32) (v3 : Int32) (v4 : Int32) (v5 : Int32) (σ : Sto) : Option (Unit × Sto) :=
  (if v1 = (4 : Int32) then ((f_Net_isTied v0 v4 v5 σ).bind fun q6 => (if (b2i q6.1) = 0 then ((f_Net_tie v0 v4 v5 (1 : Int32) q6.2).bind fun q8 => k47 v0 v1 v2 v3 v4 (v5 + (1 : Int32)) q8.2)
  else ((f_Net_tie v0 v4 v5 (0 : Int32) q6.2).bind fun q7 => k47 v0 v1 v2 v3 v4 (v5 + (1 : Int32)) q7.2)))
 else ((f_Net_tie v0 v4 v5 (1 : Int32) σ).bind fun q5 => k47 v0 v1 v2 v3 v4 (v5 + (1 : Int32)) q5.2))
set_option maxHeartbeats 4000000 in
set_option maxRecDepth 100000 in
theorem vB_Tape_carryOut_98 {X : Xt} {E : En} (g : GG X E 4 b_Tape_carryOut R_Tape 7) {k47 : Nat → Int32 → Int32 → Int32 → Int32 → Int32 → Sto → Option (Unit × Sto)} (hk47 : ∀ (v0 : Nat) (v1 : Int32) (v2 : Int32) (v3 : Int32) (v4 : Int32) (v5 : Int32) (hv0 : cls v0 = 4) (σ : Sto), VV X E b_Tape_carryOut 7 eU 47 [(0, .ref (E.2.1 v0)), (1, .int v1), (2, .int v2), (3, .int v3), (4, .int v4), (5, .int v5)] [] σ (k47 v0 v1 v2 v3 v4 v5 σ)) (v0 : Nat) (v1 : Int32) (v2 : Int32) (v3 : Int32) (v4 : Int32) (v5 : Int32) (hv0 : cls v0 = 4) (σ : Sto) : VV X E b_Tape_carryOut 7 eU 98 [(0, .ref (E.2.1 v0)), (1, .int v1), (2, .int v2), (3, .int v3), (4, .int v4), (5, .int v5)] [] σ (B_Tape_carryOut_98 k47 v0 v1 v2 v3 v4 v5 σ) := by
  unfold B_Tape_carryOut_98
  refine v_aload_n 0 g d_Tape_carryOut_98 rfl ?_
  refine v_iload 4 g d_Tape_carryOut_99 rfl ?_
  refine v_iload 5 g d_Tape_carryOut_101 rfl ?_
  refine v_iload_n 1 g d_Tape_carryOut_103 rfl ?_
  refine v_iconst (v := (4 : Int32)) g d_Tape_carryOut_104 (by decide +kernel) ?_
  refine v_icmp_ne 119 g d_Tape_carryOut_105 (by decide) (fun _ => ?_) (fun _ => ?_)
  · refine v_iconst (v := (1 : Int32)) g d_Tape_carryOut_119 (by decide +kernel) ?_
    refine v_goto 124 g d_Tape_carryOut_120 (by decide) ?_
    refine v_callU (r_V (rest := []) [.int v4, .int v5, .int (1 : Int32)] g (m1 947 (by decide +kernel) (by decide +kernel)) yv_Net_tie hv0 (fun r σ1 h => sp_Net_tie g.2.2.1 hv0 h) rfl rfl (by decide) (Nat.le_of_ble_eq_true rfl) d_Tape_carryOut_124) (fun q5 => ?_)
    refine v_iinc 5 [(5, .int (v5 + (1 : Int32))), (0, .ref (E.2.1 v0)), (1, .int v1), (2, .int v2), (3, .int v3), (4, .int v4)] g d_Tape_carryOut_127 rfl (v := (1 : Int32)) (by decide +kernel) (by decide) rfl ?_
    refine v_goto 47 g d_Tape_carryOut_130 (by decide) ?_
    exact v_sub [1,2,3,4,5,0] rfl (hk47 v0 v1 v2 v3 v4 (v5 + (1 : Int32)) hv0 q5.2)
  · refine v_aload_n 0 g d_Tape_carryOut_108 rfl ?_
    refine v_iload 4 g d_Tape_carryOut_109 rfl ?_
    refine v_iload 5 g d_Tape_carryOut_111 rfl ?_
    refine v_callB (r_V (rest := [.int v5, .int v4, .ref (E.2.1 v0)]) [.int v4, .int v5] g (m1 948 (by decide +kernel) (by decide +kernel)) yv_Net_isTied hv0 (fun r σ1 h => sp_Net_isTied g.2.2.1 hv0 h) rfl rfl (by decide) (Nat.le_of_ble_eq_true rfl) d_Tape_carryOut_113) (fun q6 => ?_)
    refine v_if_ne 123 g d_Tape_carryOut_116 (by decide) (fun _ => ?_) (fun _ => ?_)
    · refine v_iconst (v := (0 : Int32)) g d_Tape_carryOut_123 (by decide +kernel) ?_
      refine v_callU (r_V (rest := []) [.int v4, .int v5, .int (0 : Int32)] g (m1 947 (by decide +kernel) (by decide +kernel)) yv_Net_tie hv0 (fun r σ1 h => sp_Net_tie g.2.2.1 hv0 h) rfl rfl (by decide) (Nat.le_of_ble_eq_true rfl) d_Tape_carryOut_124) (fun q7 => ?_)
      refine v_iinc 5 [(5, .int (v5 + (1 : Int32))), (0, .ref (E.2.1 v0)), (1, .int v1), (2, .int v2), (3, .int v3), (4, .int v4)] g d_Tape_carryOut_127 rfl (v := (1 : Int32)) (by decide +kernel) (by decide) rfl ?_
      refine v_goto 47 g d_Tape_carryOut_130 (by decide) ?_
      exact v_sub [1,2,3,4,5,0] rfl (hk47 v0 v1 v2 v3 v4 (v5 + (1 : Int32)) hv0 q7.2)
    · refine v_iconst (v := (1 : Int32)) g d_Tape_carryOut_119 (by decide +kernel) ?_
      refine v_goto 124 g d_Tape_carryOut_120 (by decide) ?_
      refine v_callU (r_V (rest := []) [.int v4, .int v5, .int (1 : Int32)] g (m1 947 (by decide +kernel) (by decide +kernel)) yv_Net_tie hv0 (fun r σ1 h => sp_Net_tie g.2.2.1 hv0 h) rfl rfl (by decide) (Nat.le_of_ble_eq_true rfl) d_Tape_carryOut_124) (fun q8 => ?_)
      refine v_iinc 5 [(5, .int (v5 + (1 : Int32))), (0, .ref (E.2.1 v0)), (1, .int v1), (2, .int v2), (3, .int v3), (4, .int v4)] g d_Tape_carryOut_127 rfl (v := (1 : Int32)) (by decide +kernel) (by decide) rfl ?_
      refine v_goto 47 g d_Tape_carryOut_130 (by decide) ?_
      exact v_sub [1,2,3,4,5,0] rfl (hk47 v0 v1 v2 v3 v4 (v5 + (1 : Int32)) hv0 q8.2)
def B_Tape_carryOut_47 (k28 : Nat → Int32 → Int32 → Int32 → Int32 → Sto → Option (Unit × Sto)) (k47 : Nat → Int32 → Int32 → Int32 → Int32 → Int32 → Sto → Option (Unit × Sto)) (v0 : Nat) (v1 : Int32) (v2 : Int32) (v3 : Int32) (v4 : Int32) (v5 : Int32) (σ : Sto) : Option (Unit × Sto) :=
  (if v3 < v5 then k28 v0 v1 v2 v3 (v4 + (1 : Int32)) σ
 else (if (40 : Int32) ≤ v5 then k28 v0 v1 v2 v3 (v4 + (1 : Int32)) σ
  else (if v5 = (v4 + (1 : Int32)) then (if v1 = (3 : Int32) then (if (1 : Int32) = 0 then k47 v0 v1 v2 v3 v4 (v5 + (1 : Int32)) σ
     else B_Tape_carryOut_98 k47 v0 v1 v2 v3 v4 v5 σ)
    else B_Tape_carryOut_98 k47 v0 v1 v2 v3 v4 v5 σ)
   else (if v4 = v2 then (if v5 = v3 then (if v1 = (3 : Int32) then (if (1 : Int32) = 0 then k47 v0 v1 v2 v3 v4 (v5 + (1 : Int32)) σ
       else B_Tape_carryOut_98 k47 v0 v1 v2 v3 v4 v5 σ)
      else B_Tape_carryOut_98 k47 v0 v1 v2 v3 v4 v5 σ)
     else (if v1 = (3 : Int32) then (if (0 : Int32) = 0 then k47 v0 v1 v2 v3 v4 (v5 + (1 : Int32)) σ
       else B_Tape_carryOut_98 k47 v0 v1 v2 v3 v4 v5 σ)
      else B_Tape_carryOut_98 k47 v0 v1 v2 v3 v4 v5 σ))
    else (if v1 = (3 : Int32) then (if (0 : Int32) = 0 then k47 v0 v1 v2 v3 v4 (v5 + (1 : Int32)) σ
      else B_Tape_carryOut_98 k47 v0 v1 v2 v3 v4 v5 σ)
     else B_Tape_carryOut_98 k47 v0 v1 v2 v3 v4 v5 σ)))))
set_option maxHeartbeats 4000000 in
set_option maxRecDepth 100000 in
theorem vB_Tape_carryOut_47 {X : Xt} {E : En} (g : GG X E 4 b_Tape_carryOut R_Tape 7) {k28 : Nat → Int32 → Int32 → Int32 → Int32 → Sto → Option (Unit × Sto)} {k47 : Nat → Int32 → Int32 → Int32 → Int32 → Int32 → Sto → Option (Unit × Sto)} (hk28 : ∀ (v0 : Nat) (v1 : Int32) (v2 : Int32) (v3 : Int32) (v4 : Int32) (hv0 : cls v0 = 4) (σ : Sto), VV X E b_Tape_carryOut 7 eU 28 [(0, .ref (E.2.1 v0)), (1, .int v1), (2, .int v2), (3, .int v3), (4, .int v4)] [] σ (k28 v0 v1 v2 v3 v4 σ)) (hk47 : ∀ (v0 : Nat) (v1 : Int32) (v2 : Int32) (v3 : Int32) (v4 : Int32) (v5 : Int32) (hv0 : cls v0 = 4) (σ : Sto), VV X E b_Tape_carryOut 7 eU 47 [(0, .ref (E.2.1 v0)), (1, .int v1), (2, .int v2), (3, .int v3), (4, .int v4), (5, .int v5)] [] σ (k47 v0 v1 v2 v3 v4 v5 σ)) (v0 : Nat) (v1 : Int32) (v2 : Int32) (v3 : Int32) (v4 : Int32) (v5 : Int32) (hv0 : cls v0 = 4) (σ : Sto) : VV X E b_Tape_carryOut 7 eU 47 [(0, .ref (E.2.1 v0)), (1, .int v1), (2, .int v2), (3, .int v3), (4, .int v4), (5, .int v5)] [] σ (B_Tape_carryOut_47 k28 k47 v0 v1 v2 v3 v4 v5 σ) := by
  unfold B_Tape_carryOut_47
  refine v_iload 5 g d_Tape_carryOut_47 rfl ?_
  refine v_iload_n 3 g d_Tape_carryOut_49 rfl ?_
  refine v_icmp_gt 133 g d_Tape_carryOut_50 (by decide) (fun _ => ?_) (fun _ => ?_)
  · refine v_iinc 4 [(4, .int (v4 + (1 : Int32))), (0, .ref (E.2.1 v0)), (1, .int v1), (2, .int v2), (3, .int v3), (5, .int v5)] g d_Tape_carryOut_133 rfl (v := (1 : Int32)) (by decide +kernel) (by decide) rfl ?_
    refine v_goto 28 g d_Tape_carryOut_136 (by decide) ?_
    exact v_sub [1,2,3,4,0] rfl (hk28 v0 v1 v2 v3 (v4 + (1 : Int32)) hv0 σ)
  · refine v_iload 5 g d_Tape_carryOut_53 rfl ?_
    refine v_bipush (v := (40 : Int32)) g d_Tape_carryOut_55 (by decide +kernel) ?_
    refine v_icmp_ge 133 g d_Tape_carryOut_57 (by decide) (fun _ => ?_) (fun _ => ?_)
    · refine v_iinc 4 [(4, .int (v4 + (1 : Int32))), (0, .ref (E.2.1 v0)), (1, .int v1), (2, .int v2), (3, .int v3), (5, .int v5)] g d_Tape_carryOut_133 rfl (v := (1 : Int32)) (by decide +kernel) (by decide) rfl ?_
      refine v_goto 28 g d_Tape_carryOut_136 (by decide) ?_
      exact v_sub [1,2,3,4,0] rfl (hk28 v0 v1 v2 v3 (v4 + (1 : Int32)) hv0 σ)
    · refine v_iload 5 g d_Tape_carryOut_60 rfl ?_
      refine v_iload 4 g d_Tape_carryOut_62 rfl ?_
      refine v_iconst (v := (1 : Int32)) g d_Tape_carryOut_64 (by decide +kernel) ?_
      refine v_iadd g d_Tape_carryOut_65 ?_
      refine v_icmp_eq 81 g d_Tape_carryOut_66 (by decide) (fun _ => ?_) (fun _ => ?_)
      · refine v_iconst (v := (1 : Int32)) g d_Tape_carryOut_81 (by decide +kernel) ?_
        refine v_goto 86 g d_Tape_carryOut_82 (by decide) ?_
        refine v_istore [(6, .int (1 : Int32)), (0, .ref (E.2.1 v0)), (1, .int v1), (2, .int v2), (3, .int v3), (4, .int v4), (5, .int v5)] g d_Tape_carryOut_86 (by decide) rfl ?_
        refine v_iload_n 2 g d_Tape_carryOut_88 rfl ?_
        refine v_iconst (v := (3 : Int32)) g d_Tape_carryOut_89 (by decide +kernel) ?_
        refine v_icmp_ne 98 g d_Tape_carryOut_90 (by decide) (fun _ => ?_) (fun _ => ?_)
        · exact v_sub [1,2,3,4,5,6] rfl (vB_Tape_carryOut_98 g hk47 v0 v1 v2 v3 v4 v5 hv0 σ)
        · refine v_iload 0 g d_Tape_carryOut_93 rfl ?_
          refine v_if_eq 127 g d_Tape_carryOut_95 (by decide) (fun _ => ?_) (fun _ => ?_)
          · refine v_iinc 6 [(5, .int (v5 + (1 : Int32))), (6, .int (1 : Int32)), (0, .ref (E.2.1 v0)), (1, .int v1), (2, .int v2), (3, .int v3), (4, .int v4)] g d_Tape_carryOut_127 rfl (v := (1 : Int32)) (by decide +kernel) (by decide) rfl ?_
            refine v_goto 47 g d_Tape_carryOut_130 (by decide) ?_
            exact v_sub [2,3,4,5,6,0] rfl (hk47 v0 v1 v2 v3 v4 (v5 + (1 : Int32)) hv0 σ)
          · exact v_sub [1,2,3,4,5,6] rfl (vB_Tape_carryOut_98 g hk47 v0 v1 v2 v3 v4 v5 hv0 σ)
      · refine v_iload 4 g d_Tape_carryOut_69 rfl ?_
        refine v_iload_n 2 g d_Tape_carryOut_71 rfl ?_
        refine v_icmp_ne 85 g d_Tape_carryOut_72 (by decide) (fun _ => ?_) (fun _ => ?_)
        · refine v_iconst (v := (0 : Int32)) g d_Tape_carryOut_85 (by decide +kernel) ?_
          refine v_istore [(6, .int (0 : Int32)), (0, .ref (E.2.1 v0)), (1, .int v1), (2, .int v2), (3, .int v3), (4, .int v4), (5, .int v5)] g d_Tape_carryOut_86 (by decide) rfl ?_
          refine v_iload_n 2 g d_Tape_carryOut_88 rfl ?_
          refine v_iconst (v := (3 : Int32)) g d_Tape_carryOut_89 (by decide +kernel) ?_
          refine v_icmp_ne 98 g d_Tape_carryOut_90 (by decide) (fun _ => ?_) (fun _ => ?_)
          · exact v_sub [1,2,3,4,5,6] rfl (vB_Tape_carryOut_98 g hk47 v0 v1 v2 v3 v4 v5 hv0 σ)
          · refine v_iload 0 g d_Tape_carryOut_93 rfl ?_
            refine v_if_eq 127 g d_Tape_carryOut_95 (by decide) (fun _ => ?_) (fun _ => ?_)
            · refine v_iinc 6 [(5, .int (v5 + (1 : Int32))), (6, .int (0 : Int32)), (0, .ref (E.2.1 v0)), (1, .int v1), (2, .int v2), (3, .int v3), (4, .int v4)] g d_Tape_carryOut_127 rfl (v := (1 : Int32)) (by decide +kernel) (by decide) rfl ?_
              refine v_goto 47 g d_Tape_carryOut_130 (by decide) ?_
              exact v_sub [2,3,4,5,6,0] rfl (hk47 v0 v1 v2 v3 v4 (v5 + (1 : Int32)) hv0 σ)
            · exact v_sub [1,2,3,4,5,6] rfl (vB_Tape_carryOut_98 g hk47 v0 v1 v2 v3 v4 v5 hv0 σ)
        · refine v_iload 5 g d_Tape_carryOut_75 rfl ?_
          refine v_iload_n 3 g d_Tape_carryOut_77 rfl ?_
          refine v_icmp_ne 85 g d_Tape_carryOut_78 (by decide) (fun _ => ?_) (fun _ => ?_)
          · refine v_iconst (v := (0 : Int32)) g d_Tape_carryOut_85 (by decide +kernel) ?_
            refine v_istore [(6, .int (0 : Int32)), (0, .ref (E.2.1 v0)), (1, .int v1), (2, .int v2), (3, .int v3), (4, .int v4), (5, .int v5)] g d_Tape_carryOut_86 (by decide) rfl ?_
            refine v_iload_n 2 g d_Tape_carryOut_88 rfl ?_
            refine v_iconst (v := (3 : Int32)) g d_Tape_carryOut_89 (by decide +kernel) ?_
            refine v_icmp_ne 98 g d_Tape_carryOut_90 (by decide) (fun _ => ?_) (fun _ => ?_)
            · exact v_sub [1,2,3,4,5,6] rfl (vB_Tape_carryOut_98 g hk47 v0 v1 v2 v3 v4 v5 hv0 σ)
            · refine v_iload 0 g d_Tape_carryOut_93 rfl ?_
              refine v_if_eq 127 g d_Tape_carryOut_95 (by decide) (fun _ => ?_) (fun _ => ?_)
              · refine v_iinc 6 [(5, .int (v5 + (1 : Int32))), (6, .int (0 : Int32)), (0, .ref (E.2.1 v0)), (1, .int v1), (2, .int v2), (3, .int v3), (4, .int v4)] g d_Tape_carryOut_127 rfl (v := (1 : Int32)) (by decide +kernel) (by decide) rfl ?_
                refine v_goto 47 g d_Tape_carryOut_130 (by decide) ?_
                exact v_sub [2,3,4,5,6,0] rfl (hk47 v0 v1 v2 v3 v4 (v5 + (1 : Int32)) hv0 σ)
              · exact v_sub [1,2,3,4,5,6] rfl (vB_Tape_carryOut_98 g hk47 v0 v1 v2 v3 v4 v5 hv0 σ)
          · refine v_iconst (v := (1 : Int32)) g d_Tape_carryOut_81 (by decide +kernel) ?_
            refine v_goto 86 g d_Tape_carryOut_82 (by decide) ?_
            refine v_istore [(6, .int (1 : Int32)), (0, .ref (E.2.1 v0)), (1, .int v1), (2, .int v2), (3, .int v3), (4, .int v4), (5, .int v5)] g d_Tape_carryOut_86 (by decide) rfl ?_
            refine v_iload_n 2 g d_Tape_carryOut_88 rfl ?_
            refine v_iconst (v := (3 : Int32)) g d_Tape_carryOut_89 (by decide +kernel) ?_
            refine v_icmp_ne 98 g d_Tape_carryOut_90 (by decide) (fun _ => ?_) (fun _ => ?_)
            · exact v_sub [1,2,3,4,5,6] rfl (vB_Tape_carryOut_98 g hk47 v0 v1 v2 v3 v4 v5 hv0 σ)
            · refine v_iload 0 g d_Tape_carryOut_93 rfl ?_
              refine v_if_eq 127 g d_Tape_carryOut_95 (by decide) (fun _ => ?_) (fun _ => ?_)
              · refine v_iinc 6 [(5, .int (v5 + (1 : Int32))), (6, .int (1 : Int32)), (0, .ref (E.2.1 v0)), (1, .int v1), (2, .int v2), (3, .int v3), (4, .int v4)] g d_Tape_carryOut_127 rfl (v := (1 : Int32)) (by decide +kernel) (by decide) rfl ?_
                refine v_goto 47 g d_Tape_carryOut_130 (by decide) ?_
                exact v_sub [2,3,4,5,6,0] rfl (hk47 v0 v1 v2 v3 v4 (v5 + (1 : Int32)) hv0 σ)
              · exact v_sub [1,2,3,4,5,6] rfl (vB_Tape_carryOut_98 g hk47 v0 v1 v2 v3 v4 v5 hv0 σ)
def L_Tape_carryOut_47 (k28 : Nat → Int32 → Int32 → Int32 → Int32 → Sto → Option (Unit × Sto)) : Nat → Nat → Int32 → Int32 → Int32 → Int32 → Int32 → Sto → Option (Unit × Sto)
  | 0, _, _, _, _, _, _, _ => none
  | fu + 1, v0, v1, v2, v3, v4, v5, σ => B_Tape_carryOut_47 k28 (L_Tape_carryOut_47 k28 fu) v0 v1 v2 v3 v4 v5 σ
theorem vL_Tape_carryOut_47 {X : Xt} {E : En} (g : GG X E 4 b_Tape_carryOut R_Tape 7) {k28 : Nat → Int32 → Int32 → Int32 → Int32 → Sto → Option (Unit × Sto)} (hk28 : ∀ (v0 : Nat) (v1 : Int32) (v2 : Int32) (v3 : Int32) (v4 : Int32) (hv0 : cls v0 = 4) (σ : Sto), VV X E b_Tape_carryOut 7 eU 28 [(0, .ref (E.2.1 v0)), (1, .int v1), (2, .int v2), (3, .int v3), (4, .int v4)] [] σ (k28 v0 v1 v2 v3 v4 σ)) (fu : Nat) : ∀ (v0 : Nat) (v1 : Int32) (v2 : Int32) (v3 : Int32) (v4 : Int32) (v5 : Int32) (hv0 : cls v0 = 4) (σ : Sto), VV X E b_Tape_carryOut 7 eU 47 [(0, .ref (E.2.1 v0)), (1, .int v1), (2, .int v2), (3, .int v3), (4, .int v4), (5, .int v5)] [] σ (L_Tape_carryOut_47 k28 fu v0 v1 v2 v3 v4 v5 σ) := by
  induction fu with
  | zero => intros; exact v_none
  | succ fu ih =>
    intro v0 v1 v2 v3 v4 v5 hv0 σ
    exact vB_Tape_carryOut_47 g hk28 ih v0 v1 v2 v3 v4 v5 hv0 σ
def B_Tape_carryOut_28 (k28 : Nat → Int32 → Int32 → Int32 → Int32 → Sto → Option (Unit × Sto)) (v0 : Nat) (v1 : Int32) (v2 : Int32) (v3 : Int32) (v4 : Int32) (σ : Sto) : Option (Unit × Sto) :=
  (if v3 ≤ v4 then some ((), σ)
 else (if (40 : Int32) ≤ v4 then some ((), σ)
  else L_Tape_carryOut_47 k28 LF v0 v1 v2 v3 v4 (v4 + (1 : Int32)) σ))
set_option maxHeartbeats 4000000 in
set_option maxRecDepth 100000 in
theorem vB_Tape_carryOut_28 {X : Xt} {E : En} (g : GG X E 4 b_Tape_carryOut R_Tape 7) {k28 : Nat → Int32 → Int32 → Int32 → Int32 → Sto → Option (Unit × Sto)} (hk28 : ∀ (v0 : Nat) (v1 : Int32) (v2 : Int32) (v3 : Int32) (v4 : Int32) (hv0 : cls v0 = 4) (σ : Sto), VV X E b_Tape_carryOut 7 eU 28 [(0, .ref (E.2.1 v0)), (1, .int v1), (2, .int v2), (3, .int v3), (4, .int v4)] [] σ (k28 v0 v1 v2 v3 v4 σ)) (v0 : Nat) (v1 : Int32) (v2 : Int32) (v3 : Int32) (v4 : Int32) (hv0 : cls v0 = 4) (σ : Sto) : VV X E b_Tape_carryOut 7 eU 28 [(0, .ref (E.2.1 v0)), (1, .int v1), (2, .int v2), (3, .int v3), (4, .int v4)] [] σ (B_Tape_carryOut_28 k28 v0 v1 v2 v3 v4 σ) := by
  unfold B_Tape_carryOut_28
  refine v_iload 4 g d_Tape_carryOut_28 rfl ?_
  refine v_iload_n 3 g d_Tape_carryOut_30 rfl ?_
  refine v_icmp_ge 139 g d_Tape_carryOut_31 (by decide) (fun _ => ?_) (fun _ => ?_)
  · exact v_ret d_Tape_carryOut_139 rfl
  · refine v_iload 4 g d_Tape_carryOut_34 rfl ?_
    refine v_bipush (v := (40 : Int32)) g d_Tape_carryOut_36 (by decide +kernel) ?_
    refine v_icmp_ge 139 g d_Tape_carryOut_38 (by decide) (fun _ => ?_) (fun _ => ?_)
    · exact v_ret d_Tape_carryOut_139 rfl
    · refine v_iload 4 g d_Tape_carryOut_41 rfl ?_
      refine v_iconst (v := (1 : Int32)) g d_Tape_carryOut_43 (by decide +kernel) ?_
      refine v_iadd g d_Tape_carryOut_44 ?_
      refine v_istore [(5, .int (v4 + (1 : Int32))), (0, .ref (E.2.1 v0)), (1, .int v1), (2, .int v2), (3, .int v3), (4, .int v4)] g d_Tape_carryOut_45 (by decide) rfl ?_
      exact v_sub [1,2,3,4,5,0] rfl (vL_Tape_carryOut_47 g hk28 LF v0 v1 v2 v3 v4 (v4 + (1 : Int32)) hv0 σ)
def L_Tape_carryOut_28 : Nat → Nat → Int32 → Int32 → Int32 → Int32 → Sto → Option (Unit × Sto)
  | 0, _, _, _, _, _, _ => none
  | fu + 1, v0, v1, v2, v3, v4, σ => B_Tape_carryOut_28 (L_Tape_carryOut_28 fu) v0 v1 v2 v3 v4 σ
theorem vL_Tape_carryOut_28 {X : Xt} {E : En} (g : GG X E 4 b_Tape_carryOut R_Tape 7) (fu : Nat) : ∀ (v0 : Nat) (v1 : Int32) (v2 : Int32) (v3 : Int32) (v4 : Int32) (hv0 : cls v0 = 4) (σ : Sto), VV X E b_Tape_carryOut 7 eU 28 [(0, .ref (E.2.1 v0)), (1, .int v1), (2, .int v2), (3, .int v3), (4, .int v4)] [] σ (L_Tape_carryOut_28 fu v0 v1 v2 v3 v4 σ) := by
  induction fu with
  | zero => intros; exact v_none
  | succ fu ih =>
    intro v0 v1 v2 v3 v4 hv0 σ
    exact vB_Tape_carryOut_28 g ih v0 v1 v2 v3 v4 hv0 σ
def B_Tape_carryOut_0 (a0 : Nat) (a1 : Int32) (a2 : Int32) (a3 : Int32) (σ : Sto) : Option (Unit × Sto) :=
  (if a1 = 0 then (if a1 = 0 then ((f_Net_tie a0 a2 a3 (1 : Int32) σ).bind fun q2 => some ((), q2.2))
  else ((f_Net_tie a0 a2 a3 (0 : Int32) σ).bind fun q1 => some ((), q1.2)))
 else (if a1 = (1 : Int32) then (if a1 = 0 then ((f_Net_tie a0 a2 a3 (1 : Int32) σ).bind fun q4 => some ((), q4.2))
   else ((f_Net_tie a0 a2 a3 (0 : Int32) σ).bind fun q3 => some ((), q3.2)))
  else L_Tape_carryOut_28 LF a0 a1 a2 a3 a2 σ))
set_option maxHeartbeats 4000000 in
set_option maxRecDepth 100000 in
theorem vB_Tape_carryOut_0 {X : Xt} {E : En} (g : GG X E 4 b_Tape_carryOut R_Tape 7) (a0 : Nat) (a1 : Int32) (a2 : Int32) (a3 : Int32) (ha0 : cls a0 = 4) (σ : Sto) : VV X E b_Tape_carryOut 7 eU 0 [(0, .ref (E.2.1 a0)), (1, .int a1), (2, .int a2), (3, .int a3)] [] σ (B_Tape_carryOut_0 a0 a1 a2 a3 σ) := by
  unfold B_Tape_carryOut_0
  refine v_iload_n 1 g d_Tape_carryOut_0 rfl ?_
  refine v_if_eq 9 g d_Tape_carryOut_1 (by decide) (fun _ => ?_) (fun _ => ?_)
  · refine v_aload_n 0 g d_Tape_carryOut_9 rfl ?_
    refine v_iload_n 2 g d_Tape_carryOut_10 rfl ?_
    refine v_iload_n 3 g d_Tape_carryOut_11 rfl ?_
    refine v_iload_n 1 g d_Tape_carryOut_12 rfl ?_
    refine v_if_ne 20 g d_Tape_carryOut_13 (by decide) (fun _ => ?_) (fun _ => ?_)
    · refine v_iconst (v := (0 : Int32)) g d_Tape_carryOut_20 (by decide +kernel) ?_
      refine v_callU (r_V (rest := []) [.int a2, .int a3, .int (0 : Int32)] g (m1 947 (by decide +kernel) (by decide +kernel)) yv_Net_tie ha0 (fun r σ1 h => sp_Net_tie g.2.2.1 ha0 h) rfl rfl (by decide) (Nat.le_of_ble_eq_true rfl) d_Tape_carryOut_21) (fun q1 => ?_)
      exact v_ret d_Tape_carryOut_24 rfl
    · refine v_iconst (v := (1 : Int32)) g d_Tape_carryOut_16 (by decide +kernel) ?_
      refine v_goto 21 g d_Tape_carryOut_17 (by decide) ?_
      refine v_callU (r_V (rest := []) [.int a2, .int a3, .int (1 : Int32)] g (m1 947 (by decide +kernel) (by decide +kernel)) yv_Net_tie ha0 (fun r σ1 h => sp_Net_tie g.2.2.1 ha0 h) rfl rfl (by decide) (Nat.le_of_ble_eq_true rfl) d_Tape_carryOut_21) (fun q2 => ?_)
      exact v_ret d_Tape_carryOut_24 rfl
  · refine v_iload_n 1 g d_Tape_carryOut_4 rfl ?_
    refine v_iconst (v := (1 : Int32)) g d_Tape_carryOut_5 (by decide +kernel) ?_
    refine v_icmp_ne 25 g d_Tape_carryOut_6 (by decide) (fun _ => ?_) (fun _ => ?_)
    · refine v_iload_n 2 g d_Tape_carryOut_25 rfl ?_
      refine v_istore [(4, .int a2), (0, .ref (E.2.1 a0)), (1, .int a1), (2, .int a2), (3, .int a3)] g d_Tape_carryOut_26 (by decide) rfl ?_
      exact v_sub [1,2,3,4,0] rfl (vL_Tape_carryOut_28 g LF a0 a1 a2 a3 a2 ha0 σ)
    · refine v_aload_n 0 g d_Tape_carryOut_9 rfl ?_
      refine v_iload_n 2 g d_Tape_carryOut_10 rfl ?_
      refine v_iload_n 3 g d_Tape_carryOut_11 rfl ?_
      refine v_iload_n 1 g d_Tape_carryOut_12 rfl ?_
      refine v_if_ne 20 g d_Tape_carryOut_13 (by decide) (fun _ => ?_) (fun _ => ?_)
      · refine v_iconst (v := (0 : Int32)) g d_Tape_carryOut_20 (by decide +kernel) ?_
        refine v_callU (r_V (rest := []) [.int a2, .int a3, .int (0 : Int32)] g (m1 947 (by decide +kernel) (by decide +kernel)) yv_Net_tie ha0 (fun r σ1 h => sp_Net_tie g.2.2.1 ha0 h) rfl rfl (by decide) (Nat.le_of_ble_eq_true rfl) d_Tape_carryOut_21) (fun q3 => ?_)
        exact v_ret d_Tape_carryOut_24 rfl
      · refine v_iconst (v := (1 : Int32)) g d_Tape_carryOut_16 (by decide +kernel) ?_
        refine v_goto 21 g d_Tape_carryOut_17 (by decide) ?_
        refine v_callU (r_V (rest := []) [.int a2, .int a3, .int (1 : Int32)] g (m1 947 (by decide +kernel) (by decide +kernel)) yv_Net_tie ha0 (fun r σ1 h => sp_Net_tie g.2.2.1 ha0 h) rfl rfl (by decide) (Nat.le_of_ble_eq_true rfl) d_Tape_carryOut_21) (fun q4 => ?_)
        exact v_ret d_Tape_carryOut_24 rfl
def f_Tape_carryOut (a0 : Nat) (a1 : Int32) (a2 : Int32) (a3 : Int32) (σ : Sto) : Option (Unit × Sto) := B_Tape_carryOut_0 a0 a1 a2 a3 σ
theorem sp_Tape_carryOut {l : Launch} {E : En} (hE : Dj E) {a0 : Nat} {a1 : Int32} {a2 : Int32} {a3 : Int32} (ha0 : cls a0 = 4) {σ : Sto} {r : Unit} {σ' : Sto} (h : f_Tape_carryOut a0 a1 a2 a3 σ = some (r, σ')) : Ct l E y_Tape_carryOut (wsM y_Tape_carryOut b_Tape_carryOut 7 (none)) 4 [.ref (E.2.1 a0), .int a1, .int a2, .int a3] σ (eU r) σ' :=
  ct_of hE (by decide +kernel) (Nat.le_of_ble_eq_true rfl) (fun _ => Or.inr (Or.inr (Or.inr (Or.inl ⟨rfl, rfl⟩)))) (fun X _ g => vB_Tape_carryOut_0 g a0 a1 a2 a3 ha0 σ) r σ' h
/-! method FittingRings$Tape.playStatement(LFittingRings$Net;)Z -/
theorem yv_Tape_playStatement : YV y_Tape_playStatement b_Tape_playStatement 6 (some .boolean) 1 8 := ⟨m1 855 (by decide +kernel) (by decide +kernel), m1 18 (by decide +kernel) (by decide +kernel), ini_Tape, m1 856 (by decide +kernel) (by decide +kernel), ⟨by decide +kernel, by decide +kernel, by decide +kernel⟩, by decide, by decide, T_Tape, 5, rfl⟩
theorem d_Tape_playStatement_0 : decode b_Tape_playStatement 0 = .ok (.aload_n 0, 1) := by decide +kernel
theorem d_Tape_playStatement_1 : decode b_Tape_playStatement 1 = .ok (.iconst 0, 1) := by decide +kernel
theorem d_Tape_playStatement_2 : decode b_Tape_playStatement 2 = .ok (.invokestatic 35, 3) := by decide +kernel
theorem d_Tape_playStatement_5 : decode b_Tape_playStatement 5 = .ok (.invokevirtual 39, 3) := by decide +kernel
theorem d_Tape_playStatement_8 : decode b_Tape_playStatement 8 = .ok (.ifCond .eq 9, 3) := by decide +kernel
theorem d_Tape_playStatement_11 : decode b_Tape_playStatement 11 = .ok (.aload_n 0, 1) := by decide +kernel
theorem d_Tape_playStatement_12 : decode b_Tape_playStatement 12 = .ok (.aload_n 1, 1) := by decide +kernel
theorem d_Tape_playStatement_13 : decode b_Tape_playStatement 13 = .ok (.invokevirtual 43, 3) := by decide +kernel
theorem d_Tape_playStatement_16 : decode b_Tape_playStatement 16 = .ok (.ireturn, 1) := by decide +kernel
theorem d_Tape_playStatement_17 : decode b_Tape_playStatement 17 = .ok (.aload_n 0, 1) := by decide +kernel
theorem d_Tape_playStatement_18 : decode b_Tape_playStatement 18 = .ok (.invokevirtual 46, 3) := by decide +kernel
theorem d_Tape_playStatement_21 : decode b_Tape_playStatement 21 = .ok (.istore_n 2, 1) := by decide +kernel
theorem d_Tape_playStatement_22 : decode b_Tape_playStatement 22 = .ok (.iload_n 2, 1) := by decide +kernel
theorem d_Tape_playStatement_23 : decode b_Tape_playStatement 23 = .ok (.ifCond .ge 5, 3) := by decide +kernel
theorem d_Tape_playStatement_26 : decode b_Tape_playStatement 26 = .ok (.iconst 0, 1) := by decide +kernel
theorem d_Tape_playStatement_27 : decode b_Tape_playStatement 27 = .ok (.ireturn, 1) := by decide +kernel
theorem d_Tape_playStatement_28 : decode b_Tape_playStatement 28 = .ok (.aload_n 0, 1) := by decide +kernel
theorem d_Tape_playStatement_29 : decode b_Tape_playStatement 29 = .ok (.invokevirtual 28, 3) := by decide +kernel
theorem d_Tape_playStatement_32 : decode b_Tape_playStatement 32 = .ok (.aload_n 0, 1) := by decide +kernel
theorem d_Tape_playStatement_33 : decode b_Tape_playStatement 33 = .ok (.invokevirtual 50, 3) := by decide +kernel
theorem d_Tape_playStatement_36 : decode b_Tape_playStatement 36 = .ok (.istore_n 3, 1) := by decide +kernel
theorem d_Tape_playStatement_37 : decode b_Tape_playStatement 37 = .ok (.aload_n 1, 1) := by decide +kernel
theorem d_Tape_playStatement_38 : decode b_Tape_playStatement 38 = .ok (.iload_n 3, 1) := by decide +kernel
theorem d_Tape_playStatement_39 : decode b_Tape_playStatement 39 = .ok (.i2l, 1) := by decide +kernel
theorem d_Tape_playStatement_40 : decode b_Tape_playStatement 40 = .ok (.invokevirtual 53, 3) := by decide +kernel
theorem d_Tape_playStatement_43 : decode b_Tape_playStatement 43 = .ok (.ifCond .ne 5, 3) := by decide +kernel
theorem d_Tape_playStatement_46 : decode b_Tape_playStatement 46 = .ok (.iconst 0, 1) := by decide +kernel
theorem d_Tape_playStatement_47 : decode b_Tape_playStatement 47 = .ok (.ireturn, 1) := by decide +kernel
theorem d_Tape_playStatement_48 : decode b_Tape_playStatement 48 = .ok (.aload_n 0, 1) := by decide +kernel
theorem d_Tape_playStatement_49 : decode b_Tape_playStatement 49 = .ok (.invokevirtual 28, 3) := by decide +kernel
theorem d_Tape_playStatement_52 : decode b_Tape_playStatement 52 = .ok (.aload_n 0, 1) := by decide +kernel
theorem d_Tape_playStatement_53 : decode b_Tape_playStatement 53 = .ok (.invokevirtual 50, 3) := by decide +kernel
theorem d_Tape_playStatement_56 : decode b_Tape_playStatement 56 = .ok (.istore 4, 2) := by decide +kernel
theorem d_Tape_playStatement_58 : decode b_Tape_playStatement 58 = .ok (.iload_n 2, 1) := by decide +kernel
theorem d_Tape_playStatement_59 : decode b_Tape_playStatement 59 = .ok (.ifCond .eq 8, 3) := by decide +kernel
theorem d_Tape_playStatement_62 : decode b_Tape_playStatement 62 = .ok (.iload_n 2, 1) := by decide +kernel
theorem d_Tape_playStatement_63 : decode b_Tape_playStatement 63 = .ok (.iconst 1, 1) := by decide +kernel
theorem d_Tape_playStatement_64 : decode b_Tape_playStatement 64 = .ok (.if_icmp .ne 7, 3) := by decide +kernel
theorem d_Tape_playStatement_67 : decode b_Tape_playStatement 67 = .ok (.iconst 1, 1) := by decide +kernel
theorem d_Tape_playStatement_68 : decode b_Tape_playStatement 68 = .ok (.goto 4, 3) := by decide +kernel
theorem d_Tape_playStatement_71 : decode b_Tape_playStatement 71 = .ok (.iconst 0, 1) := by decide +kernel
theorem d_Tape_playStatement_72 : decode b_Tape_playStatement 72 = .ok (.istore 5, 2) := by decide +kernel
theorem d_Tape_playStatement_74 : decode b_Tape_playStatement 74 = .ok (.aload_n 1, 1) := by decide +kernel
theorem d_Tape_playStatement_75 : decode b_Tape_playStatement 75 = .ok (.iload 4, 2) := by decide +kernel
theorem d_Tape_playStatement_77 : decode b_Tape_playStatement 77 = .ok (.i2l, 1) := by decide +kernel
theorem d_Tape_playStatement_78 : decode b_Tape_playStatement 78 = .ok (.invokevirtual 53, 3) := by decide +kernel
theorem d_Tape_playStatement_81 : decode b_Tape_playStatement 81 = .ok (.ifCond .eq 20, 3) := by decide +kernel
theorem d_Tape_playStatement_84 : decode b_Tape_playStatement 84 = .ok (.iload 4, 2) := by decide +kernel
theorem d_Tape_playStatement_86 : decode b_Tape_playStatement 86 = .ok (.iload_n 3, 1) := by decide +kernel
theorem d_Tape_playStatement_87 : decode b_Tape_playStatement 87 = .ok (.if_icmp .eq 14, 3) := by decide +kernel
theorem d_Tape_playStatement_90 : decode b_Tape_playStatement 90 = .ok (.iload 4, 2) := by decide +kernel
theorem d_Tape_playStatement_92 : decode b_Tape_playStatement 92 = .ok (.iload_n 3, 1) := by decide +kernel
theorem d_Tape_playStatement_93 : decode b_Tape_playStatement 93 = .ok (.if_icmp .ge 10, 3) := by decide +kernel
theorem d_Tape_playStatement_96 : decode b_Tape_playStatement 96 = .ok (.iload 5, 2) := by decide +kernel
theorem d_Tape_playStatement_98 : decode b_Tape_playStatement 98 = .ok (.ifCond .ne 5, 3) := by decide +kernel
theorem d_Tape_playStatement_101 : decode b_Tape_playStatement 101 = .ok (.iconst 0, 1) := by decide +kernel
theorem d_Tape_playStatement_102 : decode b_Tape_playStatement 102 = .ok (.ireturn, 1) := by decide +kernel
theorem d_Tape_playStatement_103 : decode b_Tape_playStatement 103 = .ok (.aload_n 1, 1) := by decide +kernel
theorem d_Tape_playStatement_104 : decode b_Tape_playStatement 104 = .ok (.iload_n 2, 1) := by decide +kernel
theorem d_Tape_playStatement_105 : decode b_Tape_playStatement 105 = .ok (.iload_n 3, 1) := by decide +kernel
theorem d_Tape_playStatement_106 : decode b_Tape_playStatement 106 = .ok (.iload 4, 2) := by decide +kernel
theorem d_Tape_playStatement_108 : decode b_Tape_playStatement 108 = .ok (.invokestatic 59, 3) := by decide +kernel
theorem d_Tape_playStatement_111 : decode b_Tape_playStatement 111 = .ok (.aload_n 0, 1) := by decide +kernel
theorem d_Tape_playStatement_112 : decode b_Tape_playStatement 112 = .ok (.invokevirtual 28, 3) := by decide +kernel
theorem d_Tape_playStatement_115 : decode b_Tape_playStatement 115 = .ok (.iconst 1, 1) := by decide +kernel
theorem d_Tape_playStatement_116 : decode b_Tape_playStatement 116 = .ok (.ireturn, 1) := by decide +kernel
def B_Tape_playStatement_72 (v1 : Nat) (v2 : Int32) (v3 : Int32) (v4 : Int32) (s0 : Int32) (σ : Sto) : Option (Bool × Sto) :=
  ((f_Net_has v1 (Int32.toInt64 v4) σ).bind fun q10 => (if (b2i q10.1) = 0 then some (false, q10.2)
 else (if v4 = v3 then some (false, q10.2)
  else (if v3 ≤ v4 then ((f_Tape_carryOut v1 v2 v3 v4 q10.2).bind fun q11 => ((f_Tape_advance  q11.2).bind fun q12 => some (true, q12.2)))
   else (if s0 = 0 then some (false, q10.2)
    else ((f_Tape_carryOut v1 v2 v3 v4 q10.2).bind fun q13 => ((f_Tape_advance  q13.2).bind fun q14 => some (true, q14.2))))))))
set_option maxHeartbeats 4000000 in
set_option maxRecDepth 100000 in
theorem vB_Tape_playStatement_72 {X : Xt} {E : En} (g : GG X E 16 b_Tape_playStatement R_Tape 6) (v1 : Nat) (v2 : Int32) (v3 : Int32) (v4 : Int32) (s0 : Int32) (hv1 : cls v1 = 4) (σ : Sto) : VV X E b_Tape_playStatement 6 eB 72 [(0, .ref (E.2.1 31)), (1, .ref (E.2.1 v1)), (2, .int v2), (3, .int v3), (4, .int v4)] [.int s0] σ (B_Tape_playStatement_72 v1 v2 v3 v4 s0 σ) := by
  unfold B_Tape_playStatement_72
  refine v_istore [(5, .int s0), (0, .ref (E.2.1 31)), (1, .ref (E.2.1 v1)), (2, .int v2), (3, .int v3), (4, .int v4)] g d_Tape_playStatement_72 (by decide) rfl ?_
  refine v_aload_n 2 g d_Tape_playStatement_74 rfl ?_
  refine v_iload 5 g d_Tape_playStatement_75 rfl ?_
  refine v_i2l g d_Tape_playStatement_77 ?_
  refine v_callB (r_V (rest := []) [.long (Int32.toInt64 v4)] g (m1 943 (by decide +kernel) (by decide +kernel)) yv_Net_has hv1 (fun r σ1 h => sp_Net_has g.2.2.1 hv1 h) rfl rfl (by decide) (Nat.le_of_ble_eq_true rfl) d_Tape_playStatement_78) (fun q10 => ?_)
  refine v_if_eq 101 g d_Tape_playStatement_81 (by decide) (fun _ => ?_) (fun _ => ?_)
  · refine v_iconst (v := (0 : Int32)) g d_Tape_playStatement_101 (by decide +kernel) ?_
    exact v_ret d_Tape_playStatement_102 rfl
  · refine v_iload 5 g d_Tape_playStatement_84 rfl ?_
    refine v_iload_n 4 g d_Tape_playStatement_86 rfl ?_
    refine v_icmp_eq 101 g d_Tape_playStatement_87 (by decide) (fun _ => ?_) (fun _ => ?_)
    · refine v_iconst (v := (0 : Int32)) g d_Tape_playStatement_101 (by decide +kernel) ?_
      exact v_ret d_Tape_playStatement_102 rfl
    · refine v_iload 5 g d_Tape_playStatement_90 rfl ?_
      refine v_iload_n 4 g d_Tape_playStatement_92 rfl ?_
      refine v_icmp_ge 103 g d_Tape_playStatement_93 (by decide) (fun _ => ?_) (fun _ => ?_)
      · refine v_aload_n 2 g d_Tape_playStatement_103 rfl ?_
        refine v_iload_n 3 g d_Tape_playStatement_104 rfl ?_
        refine v_iload_n 4 g d_Tape_playStatement_105 rfl ?_
        refine v_iload 5 g d_Tape_playStatement_106 rfl ?_
        refine v_callU (r_S (rest := []) [.ref (E.2.1 v1), .int v2, .int v3, .int v4] g (m1 944 (by decide +kernel) (by decide +kernel)) ys_Tape_carryOut (fun r σ1 h => sp_Tape_carryOut g.2.2.1 hv1 h) rfl rfl (by decide) (Nat.le_of_ble_eq_true rfl) d_Tape_playStatement_108) (fun q11 => ?_)
        refine v_aload_n 1 g d_Tape_playStatement_111 rfl ?_
        refine v_callU (r_V (rest := []) [] g (m1 839 (by decide +kernel) (by decide +kernel)) yv_Tape_advance rfl (fun r σ1 h => sp_Tape_advance g.2.2.1  h) rfl rfl (by decide) (Nat.le_of_ble_eq_true rfl) d_Tape_playStatement_112) (fun q12 => ?_)
        refine v_iconst (v := (1 : Int32)) g d_Tape_playStatement_115 (by decide +kernel) ?_
        exact v_ret d_Tape_playStatement_116 rfl
      · refine v_iload 0 g d_Tape_playStatement_96 rfl ?_
        refine v_if_ne 103 g d_Tape_playStatement_98 (by decide) (fun _ => ?_) (fun _ => ?_)
        · refine v_aload_n 2 g d_Tape_playStatement_103 rfl ?_
          refine v_iload_n 3 g d_Tape_playStatement_104 rfl ?_
          refine v_iload_n 4 g d_Tape_playStatement_105 rfl ?_
          refine v_iload 5 g d_Tape_playStatement_106 rfl ?_
          refine v_callU (r_S (rest := []) [.ref (E.2.1 v1), .int v2, .int v3, .int v4] g (m1 944 (by decide +kernel) (by decide +kernel)) ys_Tape_carryOut (fun r σ1 h => sp_Tape_carryOut g.2.2.1 hv1 h) rfl rfl (by decide) (Nat.le_of_ble_eq_true rfl) d_Tape_playStatement_108) (fun q13 => ?_)
          refine v_aload_n 1 g d_Tape_playStatement_111 rfl ?_
          refine v_callU (r_V (rest := []) [] g (m1 839 (by decide +kernel) (by decide +kernel)) yv_Tape_advance rfl (fun r σ1 h => sp_Tape_advance g.2.2.1  h) rfl rfl (by decide) (Nat.le_of_ble_eq_true rfl) d_Tape_playStatement_112) (fun q14 => ?_)
          refine v_iconst (v := (1 : Int32)) g d_Tape_playStatement_115 (by decide +kernel) ?_
          exact v_ret d_Tape_playStatement_116 rfl
        · refine v_iconst (v := (0 : Int32)) g d_Tape_playStatement_101 (by decide +kernel) ?_
          exact v_ret d_Tape_playStatement_102 rfl
def B_Tape_playStatement_0 (a1 : Nat) (σ : Sto) : Option (Bool × Sto) :=
  ((f_Tape_pointName (0 : Int32) σ).bind fun q1 => ((f_Tape_isWord q1.1 q1.2).bind fun q2 => (if (b2i q2.1) = 0 then ((f_Tape_verbHere  q2.2).bind fun q3 => (if 0 ≤ q3.1 then ((f_Tape_advance  q3.2).bind fun q4 => ((f_Tape_numberHere  q4.2).bind fun q5 => ((f_Net_has a1 (Int32.toInt64 q5.1) q5.2).bind fun q6 => (if (b2i q6.1) = 0 then some (false, q6.2)
   else ((f_Tape_advance  q6.2).bind fun q7 => ((f_Tape_numberHere  q7.2).bind fun q8 => (if q3.1 = 0 then B_Tape_playStatement_72 a1 q3.1 q5.1 q8.1 (1 : Int32) q8.2
    else (if q3.1 = (1 : Int32) then B_Tape_playStatement_72 a1 q3.1 q5.1 q8.1 (1 : Int32) q8.2
     else B_Tape_playStatement_72 a1 q3.1 q5.1 q8.1 (0 : Int32) q8.2))))))))
  else some (false, q3.2)))
 else ((f_Tape_playPoint a1 q2.2).bind fun q9 => some (q9.1, q9.2)))))
set_option maxHeartbeats 4000000 in
set_option maxRecDepth 100000 in
theorem vB_Tape_playStatement_0 {X : Xt} {E : En} (g : GG X E 16 b_Tape_playStatement R_Tape 6) (a1 : Nat) (ha1 : cls a1 = 4) (σ : Sto) : VV X E b_Tape_playStatement 6 eB 0 [(0, .ref (E.2.1 31)), (1, .ref (E.2.1 a1))] [] σ (B_Tape_playStatement_0 a1 σ) := by
  unfold B_Tape_playStatement_0
  refine v_aload_n 0 g d_Tape_playStatement_0 rfl ?_
  refine v_iconst (v := (0 : Int32)) g d_Tape_playStatement_1 (by decide +kernel) ?_
  refine v_callR (r_S (rest := [.ref (E.2.1 31)]) [.int (0 : Int32)] g (m1 857 (by decide +kernel) (by decide +kernel)) ys_Tape_pointName (fun r σ1 h => sp_Tape_pointName g.2.2.1  h) rfl rfl (by decide) (Nat.le_of_ble_eq_true rfl) d_Tape_playStatement_2) (fun q1 => ?_)
  refine v_callB (r_V (rest := []) [.ref (E.2.1 q1.1)] g (m1 866 (by decide +kernel) (by decide +kernel)) yv_Tape_isWord rfl (fun r σ1 h => sp_Tape_isWord g.2.2.1  h) rfl rfl (by decide) (Nat.le_of_ble_eq_true rfl) d_Tape_playStatement_5) (fun q2 => ?_)
  refine v_if_eq 17 g d_Tape_playStatement_8 (by decide) (fun _ => ?_) (fun _ => ?_)
  · refine v_aload_n 0 g d_Tape_playStatement_17 rfl ?_
    refine v_callI (r_V (rest := []) [] g (m1 931 (by decide +kernel) (by decide +kernel)) yv_Tape_verbHere rfl (fun r σ1 h => sp_Tape_verbHere g.2.2.1  h) rfl rfl (by decide) (Nat.le_of_ble_eq_true rfl) d_Tape_playStatement_18) (fun q3 => ?_)
    refine v_istore_n [(2, .int q3.1), (0, .ref (E.2.1 31)), (1, .ref (E.2.1 a1))] g d_Tape_playStatement_21 (by decide) rfl ?_
    refine v_iload_n 0 g d_Tape_playStatement_22 rfl ?_
    refine v_if_ge 28 g d_Tape_playStatement_23 (by decide) (fun _ => ?_) (fun _ => ?_)
    · refine v_aload_n 1 g d_Tape_playStatement_28 rfl ?_
      refine v_callU (r_V (rest := []) [] g (m1 839 (by decide +kernel) (by decide +kernel)) yv_Tape_advance rfl (fun r σ1 h => sp_Tape_advance g.2.2.1  h) rfl rfl (by decide) (Nat.le_of_ble_eq_true rfl) d_Tape_playStatement_29) (fun q4 => ?_)
      refine v_aload_n 1 g d_Tape_playStatement_32 rfl ?_
      refine v_callI (r_V (rest := []) [] g (m1 926 (by decide +kernel) (by decide +kernel)) yv_Tape_numberHere rfl (fun r σ1 h => sp_Tape_numberHere g.2.2.1  h) rfl rfl (by decide) (Nat.le_of_ble_eq_true rfl) d_Tape_playStatement_33) (fun q5 => ?_)
      refine v_istore_n [(3, .int q5.1), (2, .int q3.1), (0, .ref (E.2.1 31)), (1, .ref (E.2.1 a1))] g d_Tape_playStatement_36 (by decide) rfl ?_
      refine v_aload_n 3 g d_Tape_playStatement_37 rfl ?_
      refine v_iload_n 0 g d_Tape_playStatement_38 rfl ?_
      refine v_i2l g d_Tape_playStatement_39 ?_
      refine v_callB (r_V (rest := []) [.long (Int32.toInt64 q5.1)] g (m1 943 (by decide +kernel) (by decide +kernel)) yv_Net_has ha1 (fun r σ1 h => sp_Net_has g.2.2.1 ha1 h) rfl rfl (by decide) (Nat.le_of_ble_eq_true rfl) d_Tape_playStatement_40) (fun q6 => ?_)
      refine v_if_ne 48 g d_Tape_playStatement_43 (by decide) (fun _ => ?_) (fun _ => ?_)
      · refine v_aload_n 2 g d_Tape_playStatement_48 rfl ?_
        refine v_callU (r_V (rest := []) [] g (m1 839 (by decide +kernel) (by decide +kernel)) yv_Tape_advance rfl (fun r σ1 h => sp_Tape_advance g.2.2.1  h) rfl rfl (by decide) (Nat.le_of_ble_eq_true rfl) d_Tape_playStatement_49) (fun q7 => ?_)
        refine v_aload_n 2 g d_Tape_playStatement_52 rfl ?_
        refine v_callI (r_V (rest := []) [] g (m1 926 (by decide +kernel) (by decide +kernel)) yv_Tape_numberHere rfl (fun r σ1 h => sp_Tape_numberHere g.2.2.1  h) rfl rfl (by decide) (Nat.le_of_ble_eq_true rfl) d_Tape_playStatement_53) (fun q8 => ?_)
        refine v_istore [(4, .int q8.1), (3, .int q5.1), (2, .int q3.1), (0, .ref (E.2.1 31)), (1, .ref (E.2.1 a1))] g d_Tape_playStatement_56 (by decide) rfl ?_
        refine v_iload_n 2 g d_Tape_playStatement_58 rfl ?_
        refine v_if_eq 67 g d_Tape_playStatement_59 (by decide) (fun _ => ?_) (fun _ => ?_)
        · refine v_iconst (v := (1 : Int32)) g d_Tape_playStatement_67 (by decide +kernel) ?_
          refine v_goto 72 g d_Tape_playStatement_68 (by decide) ?_
          exact v_sub [3,4,2,1,0] rfl (vB_Tape_playStatement_72 g a1 q3.1 q5.1 q8.1 (1 : Int32) ha1 q8.2)
        · refine v_iload_n 2 g d_Tape_playStatement_62 rfl ?_
          refine v_iconst (v := (1 : Int32)) g d_Tape_playStatement_63 (by decide +kernel) ?_
          refine v_icmp_ne 71 g d_Tape_playStatement_64 (by decide) (fun _ => ?_) (fun _ => ?_)
          · refine v_iconst (v := (0 : Int32)) g d_Tape_playStatement_71 (by decide +kernel) ?_
            exact v_sub [3,4,2,1,0] rfl (vB_Tape_playStatement_72 g a1 q3.1 q5.1 q8.1 (0 : Int32) ha1 q8.2)
          · refine v_iconst (v := (1 : Int32)) g d_Tape_playStatement_67 (by decide +kernel) ?_
            refine v_goto 72 g d_Tape_playStatement_68 (by decide) ?_
            exact v_sub [3,4,2,1,0] rfl (vB_Tape_playStatement_72 g a1 q3.1 q5.1 q8.1 (1 : Int32) ha1 q8.2)
      · refine v_iconst (v := (0 : Int32)) g d_Tape_playStatement_46 (by decide +kernel) ?_
        exact v_ret d_Tape_playStatement_47 rfl
    · refine v_iconst (v := (0 : Int32)) g d_Tape_playStatement_26 (by decide +kernel) ?_
      exact v_ret d_Tape_playStatement_27 rfl
  · refine v_aload_n 0 g d_Tape_playStatement_11 rfl ?_
    refine v_aload_n 1 g d_Tape_playStatement_12 rfl ?_
    refine v_callB (r_V (rest := []) [.ref (E.2.1 a1)] g (m1 918 (by decide +kernel) (by decide +kernel)) yv_Tape_playPoint rfl (fun r σ1 h => sp_Tape_playPoint g.2.2.1 ha1 h) rfl rfl (by decide) (Nat.le_of_ble_eq_true rfl) d_Tape_playStatement_13) (fun q9 => ?_)
    exact v_ret d_Tape_playStatement_16 rfl
def f_Tape_playStatement (a1 : Nat) (σ : Sto) : Option (Bool × Sto) := B_Tape_playStatement_0 a1 σ
theorem sp_Tape_playStatement {l : Launch} {E : En} (hE : Dj E) {a1 : Nat} (ha1 : cls a1 = 4) {σ : Sto} {r : Bool} {σ' : Sto} (h : f_Tape_playStatement a1 σ = some (r, σ')) : Ct l E y_Tape_playStatement (wsM y_Tape_playStatement b_Tape_playStatement 6 (some .boolean)) 16 [.ref (E.2.1 31), .ref (E.2.1 a1)] σ (eB r) σ' :=
  ct_of hE (by decide +kernel) (Nat.le_of_ble_eq_true rfl) (fun b => Or.inr (Or.inl ⟨rfl, b, rfl⟩)) (fun X _ g => vB_Tape_playStatement_0 g a1 ha1 σ) r σ' h
/-! method FittingRings$Tape.play(LFittingRings$Net;)I -/
theorem yv_Tape_play : YV y_Tape_play b_Tape_play 3 (some .int) 1 8 := ⟨m1 836 (by decide +kernel) (by decide +kernel), m1 837 (by decide +kernel) (by decide +kernel), ini_Tape, m1 838 (by decide +kernel) (by decide +kernel), ⟨by decide +kernel, by decide +kernel, by decide +kernel⟩, by decide, by decide, T_Tape, 5, rfl⟩
theorem d_Tape_play_0 : decode b_Tape_play 0 = .ok (.aload_n 0, 1) := by decide +kernel
theorem d_Tape_play_1 : decode b_Tape_play 1 = .ok (.iconst 0, 1) := by decide +kernel
theorem d_Tape_play_2 : decode b_Tape_play 2 = .ok (.putfield 25, 3) := by decide +kernel
theorem d_Tape_play_5 : decode b_Tape_play 5 = .ok (.aload_n 0, 1) := by decide +kernel
theorem d_Tape_play_6 : decode b_Tape_play 6 = .ok (.invokevirtual 28, 3) := by decide +kernel
theorem d_Tape_play_9 : decode b_Tape_play 9 = .ok (.iconst 1, 1) := by decide +kernel
theorem d_Tape_play_10 : decode b_Tape_play 10 = .ok (.istore_n 2, 1) := by decide +kernel
theorem d_Tape_play_11 : decode b_Tape_play 11 = .ok (.iload_n 2, 1) := by decide +kernel
theorem d_Tape_play_12 : decode b_Tape_play 12 = .ok (.sipush 160, 3) := by decide +kernel
theorem d_Tape_play_15 : decode b_Tape_play 15 = .ok (.if_icmp .gt 44, 3) := by decide +kernel
theorem d_Tape_play_18 : decode b_Tape_play 18 = .ok (.aload_n 0, 1) := by decide +kernel
theorem d_Tape_play_19 : decode b_Tape_play 19 = .ok (.aload_n 1, 1) := by decide +kernel
theorem d_Tape_play_20 : decode b_Tape_play 20 = .ok (.invokevirtual 31, 3) := by decide +kernel
theorem d_Tape_play_23 : decode b_Tape_play 23 = .ok (.ifCond .ne 6, 3) := by decide +kernel
theorem d_Tape_play_26 : decode b_Tape_play 26 = .ok (.goto 33, 3) := by decide +kernel
theorem d_Tape_play_29 : decode b_Tape_play 29 = .ok (.aload_n 0, 1) := by decide +kernel
theorem d_Tape_play_30 : decode b_Tape_play 30 = .ok (.getfield 19, 3) := by decide +kernel
theorem d_Tape_play_33 : decode b_Tape_play 33 = .ok (.ifCond .ne 5, 3) := by decide +kernel
theorem d_Tape_play_36 : decode b_Tape_play 36 = .ok (.iload_n 2, 1) := by decide +kernel
theorem d_Tape_play_37 : decode b_Tape_play 37 = .ok (.ireturn, 1) := by decide +kernel
theorem d_Tape_play_38 : decode b_Tape_play 38 = .ok (.aload_n 0, 1) := by decide +kernel
theorem d_Tape_play_39 : decode b_Tape_play 39 = .ok (.getfield 19, 3) := by decide +kernel
theorem d_Tape_play_42 : decode b_Tape_play 42 = .ok (.iconst 3, 1) := by decide +kernel
theorem d_Tape_play_43 : decode b_Tape_play 43 = .ok (.if_icmp .eq 6, 3) := by decide +kernel
theorem d_Tape_play_46 : decode b_Tape_play 46 = .ok (.goto 13, 3) := by decide +kernel
theorem d_Tape_play_49 : decode b_Tape_play 49 = .ok (.aload_n 0, 1) := by decide +kernel
theorem d_Tape_play_50 : decode b_Tape_play 50 = .ok (.invokevirtual 28, 3) := by decide +kernel
theorem d_Tape_play_53 : decode b_Tape_play 53 = .ok (.iinc 2 1, 3) := by decide +kernel
theorem d_Tape_play_56 : decode b_Tape_play 56 = .ok (.goto (-45), 3) := by decide +kernel
theorem d_Tape_play_59 : decode b_Tape_play 59 = .ok (.bipush (-100), 2) := by decide +kernel
theorem d_Tape_play_61 : decode b_Tape_play 61 = .ok (.aload_n 0, 1) := by decide +kernel
theorem d_Tape_play_62 : decode b_Tape_play 62 = .ok (.getfield 22, 3) := by decide +kernel
theorem d_Tape_play_65 : decode b_Tape_play 65 = .ok (.isub, 1) := by decide +kernel
theorem d_Tape_play_66 : decode b_Tape_play 66 = .ok (.ireturn, 1) := by decide +kernel
def B_Tape_play_11 (k11 : Nat → Int32 → Sto → Option (Int32 × Sto)) (v1 : Nat) (v2 : Int32) (σ : Sto) : Option (Int32 × Sto) :=
  (if (160 : Int32) < v2 then some (((-100 : Int32) - (gI σ 31 3)), σ)
 else ((f_Tape_playStatement v1 σ).bind fun q2 => (if (b2i q2.1) = 0 then some (((-100 : Int32) - (gI q2.2 31 3)), q2.2)
  else (if (gI q2.2 31 2) = 0 then some (v2, q2.2)
   else (if (gI q2.2 31 2) = (3 : Int32) then ((f_Tape_advance  q2.2).bind fun q3 => k11 v1 (v2 + (1 : Int32)) q3.2)
    else some (((-100 : Int32) - (gI q2.2 31 3)), q2.2))))))
set_option maxHeartbeats 4000000 in
set_option maxRecDepth 100000 in
theorem vB_Tape_play_11 {X : Xt} {E : En} (g : GG X E 17 b_Tape_play R_Tape 3) {k11 : Nat → Int32 → Sto → Option (Int32 × Sto)} (hk11 : ∀ (v1 : Nat) (v2 : Int32) (hv1 : cls v1 = 4) (σ : Sto), VV X E b_Tape_play 3 eI 11 [(0, .ref (E.2.1 31)), (1, .ref (E.2.1 v1)), (2, .int v2)] [] σ (k11 v1 v2 σ)) (v1 : Nat) (v2 : Int32) (hv1 : cls v1 = 4) (σ : Sto) : VV X E b_Tape_play 3 eI 11 [(0, .ref (E.2.1 31)), (1, .ref (E.2.1 v1)), (2, .int v2)] [] σ (B_Tape_play_11 k11 v1 v2 σ) := by
  unfold B_Tape_play_11
  refine v_iload_n 2 g d_Tape_play_11 rfl ?_
  refine v_sipush (v := (160 : Int32)) g d_Tape_play_12 (by decide +kernel) ?_
  refine v_icmp_gt 59 g d_Tape_play_15 (by decide) (fun _ => ?_) (fun _ => ?_)
  · refine v_bipush (v := (-100 : Int32)) g d_Tape_play_59 (by decide +kernel) ?_
    refine v_aload_n 0 g d_Tape_play_61 rfl ?_
    refine v_getI g ff_Tape_22 rfl rfl d_Tape_play_62 ?_
    refine v_isub g d_Tape_play_65 ?_
    exact v_ret d_Tape_play_66 rfl
  · refine v_aload_n 0 g d_Tape_play_18 rfl ?_
    refine v_aload_n 1 g d_Tape_play_19 rfl ?_
    refine v_callB (r_V (rest := []) [.ref (E.2.1 v1)] g (m1 853 (by decide +kernel) (by decide +kernel)) yv_Tape_playStatement rfl (fun r σ1 h => sp_Tape_playStatement g.2.2.1 hv1 h) rfl rfl (by decide) (Nat.le_of_ble_eq_true rfl) d_Tape_play_20) (fun q2 => ?_)
    refine v_if_ne 29 g d_Tape_play_23 (by decide) (fun _ => ?_) (fun _ => ?_)
    · refine v_aload_n 0 g d_Tape_play_29 rfl ?_
      refine v_getI g ff_Tape_19 rfl rfl d_Tape_play_30 ?_
      refine v_if_ne 38 g d_Tape_play_33 (by decide) (fun _ => ?_) (fun _ => ?_)
      · refine v_aload_n 0 g d_Tape_play_38 rfl ?_
        refine v_getI g ff_Tape_19 rfl rfl d_Tape_play_39 ?_
        refine v_iconst (v := (3 : Int32)) g d_Tape_play_42 (by decide +kernel) ?_
        refine v_icmp_eq 49 g d_Tape_play_43 (by decide) (fun _ => ?_) (fun _ => ?_)
        · refine v_aload_n 0 g d_Tape_play_49 rfl ?_
          refine v_callU (r_V (rest := []) [] g (m1 839 (by decide +kernel) (by decide +kernel)) yv_Tape_advance rfl (fun r σ1 h => sp_Tape_advance g.2.2.1  h) rfl rfl (by decide) (Nat.le_of_ble_eq_true rfl) d_Tape_play_50) (fun q3 => ?_)
          refine v_iinc 2 [(2, .int (v2 + (1 : Int32))), (0, .ref (E.2.1 31)), (1, .ref (E.2.1 v1))] g d_Tape_play_53 rfl (v := (1 : Int32)) (by decide +kernel) (by decide) rfl ?_
          refine v_goto 11 g d_Tape_play_56 (by decide) ?_
          exact v_sub [1,2,0] rfl (hk11 v1 (v2 + (1 : Int32)) hv1 q3.2)
        · refine v_goto 59 g d_Tape_play_46 (by decide) ?_
          refine v_bipush (v := (-100 : Int32)) g d_Tape_play_59 (by decide +kernel) ?_
          refine v_aload_n 0 g d_Tape_play_61 rfl ?_
          refine v_getI g ff_Tape_22 rfl rfl d_Tape_play_62 ?_
          refine v_isub g d_Tape_play_65 ?_
          exact v_ret d_Tape_play_66 rfl
      · refine v_iload_n 2 g d_Tape_play_36 rfl ?_
        exact v_ret d_Tape_play_37 rfl
    · refine v_goto 59 g d_Tape_play_26 (by decide) ?_
      refine v_bipush (v := (-100 : Int32)) g d_Tape_play_59 (by decide +kernel) ?_
      refine v_aload_n 0 g d_Tape_play_61 rfl ?_
      refine v_getI g ff_Tape_22 rfl rfl d_Tape_play_62 ?_
      refine v_isub g d_Tape_play_65 ?_
      exact v_ret d_Tape_play_66 rfl
def L_Tape_play_11 : Nat → Nat → Int32 → Sto → Option (Int32 × Sto)
  | 0, _, _, _ => none
  | fu + 1, v1, v2, σ => B_Tape_play_11 (L_Tape_play_11 fu) v1 v2 σ
theorem vL_Tape_play_11 {X : Xt} {E : En} (g : GG X E 17 b_Tape_play R_Tape 3) (fu : Nat) : ∀ (v1 : Nat) (v2 : Int32) (hv1 : cls v1 = 4) (σ : Sto), VV X E b_Tape_play 3 eI 11 [(0, .ref (E.2.1 31)), (1, .ref (E.2.1 v1)), (2, .int v2)] [] σ (L_Tape_play_11 fu v1 v2 σ) := by
  induction fu with
  | zero => intros; exact v_none
  | succ fu ih =>
    intro v1 v2 hv1 σ
    exact vB_Tape_play_11 g ih v1 v2 hv1 σ
def B_Tape_play_0 (a1 : Nat) (σ : Sto) : Option (Int32 × Sto) :=
  ((f_Tape_advance  (sI σ 31 4 (0 : Int32))).bind fun q1 => L_Tape_play_11 LF a1 (1 : Int32) q1.2)
set_option maxHeartbeats 4000000 in
set_option maxRecDepth 100000 in
theorem vB_Tape_play_0 {X : Xt} {E : En} (g : GG X E 17 b_Tape_play R_Tape 3) (a1 : Nat) (ha1 : cls a1 = 4) (σ : Sto) : VV X E b_Tape_play 3 eI 0 [(0, .ref (E.2.1 31)), (1, .ref (E.2.1 a1))] [] σ (B_Tape_play_0 a1 σ) := by
  unfold B_Tape_play_0
  refine v_aload_n 0 g d_Tape_play_0 rfl ?_
  refine v_iconst (v := (0 : Int32)) g d_Tape_play_1 (by decide +kernel) ?_
  refine v_putI g fp_Tape_25 rfl rfl d_Tape_play_2 ?_
  refine v_aload_n 0 g d_Tape_play_5 rfl ?_
  refine v_callU (r_V (rest := []) [] g (m1 839 (by decide +kernel) (by decide +kernel)) yv_Tape_advance rfl (fun r σ1 h => sp_Tape_advance g.2.2.1  h) rfl rfl (by decide) (Nat.le_of_ble_eq_true rfl) d_Tape_play_6) (fun q1 => ?_)
  refine v_iconst (v := (1 : Int32)) g d_Tape_play_9 (by decide +kernel) ?_
  refine v_istore_n [(2, .int (1 : Int32)), (0, .ref (E.2.1 31)), (1, .ref (E.2.1 a1))] g d_Tape_play_10 (by decide) rfl ?_
  exact v_sub [1,2,0] rfl (vL_Tape_play_11 g LF a1 (1 : Int32) ha1 q1.2)
def f_Tape_play (a1 : Nat) (σ : Sto) : Option (Int32 × Sto) := B_Tape_play_0 a1 σ
theorem sp_Tape_play {l : Launch} {E : En} (hE : Dj E) {a1 : Nat} (ha1 : cls a1 = 4) {σ : Sto} {r : Int32} {σ' : Sto} (h : f_Tape_play a1 σ = some (r, σ')) : Ct l E y_Tape_play (wsM y_Tape_play b_Tape_play 3 (some .int)) 17 [.ref (E.2.1 31), .ref (E.2.1 a1)] σ (eI r) σ' :=
  ct_of hE (by decide +kernel) (Nat.le_of_ble_eq_true rfl) (fun x => Or.inl ⟨rfl, x, rfl⟩) (fun X _ g => vB_Tape_play_0 g a1 ha1 σ) r σ' h
