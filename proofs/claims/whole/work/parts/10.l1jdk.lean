/-! method java/lang/Long.bitCount(J)I -/
theorem ys_JLong_bitCount : YS y_JLong_bitCount b_JLong_bitCount 2 (some .int) 1 := ⟨m1 387 (by decide +kernel) (by decide +kernel), ini_JLong, m1 388 (by decide +kernel) (by decide +kernel), ⟨by decide +kernel, by decide +kernel, by decide +kernel⟩, by decide⟩
theorem d_JLong_bitCount_0 : decode b_JLong_bitCount 0 = .ok (.lload_n 0, 1) := by decide +kernel
theorem d_JLong_bitCount_1 : decode b_JLong_bitCount 1 = .ok (.lload_n 0, 1) := by decide +kernel
theorem d_JLong_bitCount_2 : decode b_JLong_bitCount 2 = .ok (.iconst 1, 1) := by decide +kernel
theorem d_JLong_bitCount_3 : decode b_JLong_bitCount 3 = .ok (.lushr, 1) := by decide +kernel
theorem d_JLong_bitCount_4 : decode b_JLong_bitCount 4 = .ok (.ldc2_w 314, 3) := by decide +kernel
theorem d_JLong_bitCount_7 : decode b_JLong_bitCount 7 = .ok (.land, 1) := by decide +kernel
theorem d_JLong_bitCount_8 : decode b_JLong_bitCount 8 = .ok (.lsub, 1) := by decide +kernel
theorem d_JLong_bitCount_9 : decode b_JLong_bitCount 9 = .ok (.lstore_n 0, 1) := by decide +kernel
theorem d_JLong_bitCount_10 : decode b_JLong_bitCount 10 = .ok (.lload_n 0, 1) := by decide +kernel
theorem d_JLong_bitCount_11 : decode b_JLong_bitCount 11 = .ok (.ldc2_w 316, 3) := by decide +kernel
theorem d_JLong_bitCount_14 : decode b_JLong_bitCount 14 = .ok (.land, 1) := by decide +kernel
theorem d_JLong_bitCount_15 : decode b_JLong_bitCount 15 = .ok (.lload_n 0, 1) := by decide +kernel
theorem d_JLong_bitCount_16 : decode b_JLong_bitCount 16 = .ok (.iconst 2, 1) := by decide +kernel
theorem d_JLong_bitCount_17 : decode b_JLong_bitCount 17 = .ok (.lushr, 1) := by decide +kernel
theorem d_JLong_bitCount_18 : decode b_JLong_bitCount 18 = .ok (.ldc2_w 316, 3) := by decide +kernel
theorem d_JLong_bitCount_21 : decode b_JLong_bitCount 21 = .ok (.land, 1) := by decide +kernel
theorem d_JLong_bitCount_22 : decode b_JLong_bitCount 22 = .ok (.ladd, 1) := by decide +kernel
theorem d_JLong_bitCount_23 : decode b_JLong_bitCount 23 = .ok (.lstore_n 0, 1) := by decide +kernel
theorem d_JLong_bitCount_24 : decode b_JLong_bitCount 24 = .ok (.lload_n 0, 1) := by decide +kernel
theorem d_JLong_bitCount_25 : decode b_JLong_bitCount 25 = .ok (.lload_n 0, 1) := by decide +kernel
theorem d_JLong_bitCount_26 : decode b_JLong_bitCount 26 = .ok (.iconst 4, 1) := by decide +kernel
theorem d_JLong_bitCount_27 : decode b_JLong_bitCount 27 = .ok (.lushr, 1) := by decide +kernel
theorem d_JLong_bitCount_28 : decode b_JLong_bitCount 28 = .ok (.ladd, 1) := by decide +kernel
theorem d_JLong_bitCount_29 : decode b_JLong_bitCount 29 = .ok (.ldc2_w 318, 3) := by decide +kernel
theorem d_JLong_bitCount_32 : decode b_JLong_bitCount 32 = .ok (.land, 1) := by decide +kernel
theorem d_JLong_bitCount_33 : decode b_JLong_bitCount 33 = .ok (.lstore_n 0, 1) := by decide +kernel
theorem d_JLong_bitCount_34 : decode b_JLong_bitCount 34 = .ok (.lload_n 0, 1) := by decide +kernel
theorem d_JLong_bitCount_35 : decode b_JLong_bitCount 35 = .ok (.lload_n 0, 1) := by decide +kernel
theorem d_JLong_bitCount_36 : decode b_JLong_bitCount 36 = .ok (.bipush 8, 2) := by decide +kernel
theorem d_JLong_bitCount_38 : decode b_JLong_bitCount 38 = .ok (.lushr, 1) := by decide +kernel
theorem d_JLong_bitCount_39 : decode b_JLong_bitCount 39 = .ok (.ladd, 1) := by decide +kernel
theorem d_JLong_bitCount_40 : decode b_JLong_bitCount 40 = .ok (.lstore_n 0, 1) := by decide +kernel
theorem d_JLong_bitCount_41 : decode b_JLong_bitCount 41 = .ok (.lload_n 0, 1) := by decide +kernel
theorem d_JLong_bitCount_42 : decode b_JLong_bitCount 42 = .ok (.lload_n 0, 1) := by decide +kernel
theorem d_JLong_bitCount_43 : decode b_JLong_bitCount 43 = .ok (.bipush 16, 2) := by decide +kernel
theorem d_JLong_bitCount_45 : decode b_JLong_bitCount 45 = .ok (.lushr, 1) := by decide +kernel
theorem d_JLong_bitCount_46 : decode b_JLong_bitCount 46 = .ok (.ladd, 1) := by decide +kernel
theorem d_JLong_bitCount_47 : decode b_JLong_bitCount 47 = .ok (.lstore_n 0, 1) := by decide +kernel
theorem d_JLong_bitCount_48 : decode b_JLong_bitCount 48 = .ok (.lload_n 0, 1) := by decide +kernel
theorem d_JLong_bitCount_49 : decode b_JLong_bitCount 49 = .ok (.lload_n 0, 1) := by decide +kernel
theorem d_JLong_bitCount_50 : decode b_JLong_bitCount 50 = .ok (.bipush 32, 2) := by decide +kernel
theorem d_JLong_bitCount_52 : decode b_JLong_bitCount 52 = .ok (.lushr, 1) := by decide +kernel
theorem d_JLong_bitCount_53 : decode b_JLong_bitCount 53 = .ok (.ladd, 1) := by decide +kernel
theorem d_JLong_bitCount_54 : decode b_JLong_bitCount 54 = .ok (.lstore_n 0, 1) := by decide +kernel
theorem d_JLong_bitCount_55 : decode b_JLong_bitCount 55 = .ok (.lload_n 0, 1) := by decide +kernel
theorem d_JLong_bitCount_56 : decode b_JLong_bitCount 56 = .ok (.l2i, 1) := by decide +kernel
theorem d_JLong_bitCount_57 : decode b_JLong_bitCount 57 = .ok (.bipush 127, 2) := by decide +kernel
theorem d_JLong_bitCount_59 : decode b_JLong_bitCount 59 = .ok (.iand, 1) := by decide +kernel
theorem d_JLong_bitCount_60 : decode b_JLong_bitCount 60 = .ok (.ireturn, 1) := by decide +kernel
def B_JLong_bitCount_0 (a0 : Int64) (σ : Sto) : Option (Int32 × Sto) :=
  (lt1 (a0 - ((lur a0 (1 : Int32)) &&& (6148914691236517205 : Int64))) fun x1 => (lt1 ((x1 &&& (3689348814741910323 : Int64)) + ((lur x1 (2 : Int32)) &&& (3689348814741910323 : Int64))) fun x2 => (lt1 ((x2 + (lur x2 (4 : Int32))) &&& (1085102592571150095 : Int64)) fun x3 => (lt1 (x3 + (lur x3 (8 : Int32))) fun x4 => (lt1 (x4 + (lur x4 (16 : Int32))) fun x5 => (lt1 (x5 + (lur x5 (32 : Int32))) fun x6 => some (((Int64.toInt32 x6) &&& (127 : Int32)), σ)))))))
set_option maxHeartbeats 4000000 in
set_option maxRecDepth 100000 in
theorem vB_JLong_bitCount_0 {X : Xt} {E : En} (g : GG X E 1 b_JLong_bitCount R_JLong 2) (a0 : Int64) (σ : Sto) : VV X E b_JLong_bitCount 2 eI 0 [(0, .long a0)] [] σ (B_JLong_bitCount_0 a0 σ) := by
  unfold B_JLong_bitCount_0
  refine v_lload_n 0 g d_JLong_bitCount_0 rfl ?_
  refine v_lload_n 0 g d_JLong_bitCount_1 rfl ?_
  refine v_iconst (v := (1 : Int32)) g d_JLong_bitCount_2 (by decide +kernel) ?_
  refine v_lushr g d_JLong_bitCount_3 ?_
  refine v_ldc2 (v := (6148914691236517205 : Int64)) g (m1 389 (by decide +kernel) (by decide +kernel)) d_JLong_bitCount_4 ?_
  refine v_land g d_JLong_bitCount_7 ?_
  refine v_lsub g d_JLong_bitCount_8 ?_
  refine v_nlet (fun x1 ex1 => ?_)
  rw [← ex1]
  refine v_lstore_n [(0, .long x1)] g d_JLong_bitCount_9 (by decide) rfl ?_
  refine v_lload_n 0 g d_JLong_bitCount_10 rfl ?_
  refine v_ldc2 (v := (3689348814741910323 : Int64)) g (m1 390 (by decide +kernel) (by decide +kernel)) d_JLong_bitCount_11 ?_
  refine v_land g d_JLong_bitCount_14 ?_
  refine v_lload_n 0 g d_JLong_bitCount_15 rfl ?_
  refine v_iconst (v := (2 : Int32)) g d_JLong_bitCount_16 (by decide +kernel) ?_
  refine v_lushr g d_JLong_bitCount_17 ?_
  refine v_ldc2 (v := (3689348814741910323 : Int64)) g (m1 390 (by decide +kernel) (by decide +kernel)) d_JLong_bitCount_18 ?_
  refine v_land g d_JLong_bitCount_21 ?_
  refine v_ladd g d_JLong_bitCount_22 ?_
  refine v_nlet (fun x2 ex2 => ?_)
  rw [← ex2]
  refine v_lstore_n [(0, .long x2)] g d_JLong_bitCount_23 (by decide) rfl ?_
  refine v_lload_n 0 g d_JLong_bitCount_24 rfl ?_
  refine v_lload_n 0 g d_JLong_bitCount_25 rfl ?_
  refine v_iconst (v := (4 : Int32)) g d_JLong_bitCount_26 (by decide +kernel) ?_
  refine v_lushr g d_JLong_bitCount_27 ?_
  refine v_ladd g d_JLong_bitCount_28 ?_
  refine v_ldc2 (v := (1085102592571150095 : Int64)) g (m1 391 (by decide +kernel) (by decide +kernel)) d_JLong_bitCount_29 ?_
  refine v_land g d_JLong_bitCount_32 ?_
  refine v_nlet (fun x3 ex3 => ?_)
  rw [← ex3]
  refine v_lstore_n [(0, .long x3)] g d_JLong_bitCount_33 (by decide) rfl ?_
  refine v_lload_n 0 g d_JLong_bitCount_34 rfl ?_
  refine v_lload_n 0 g d_JLong_bitCount_35 rfl ?_
  refine v_bipush (v := (8 : Int32)) g d_JLong_bitCount_36 (by decide +kernel) ?_
  refine v_lushr g d_JLong_bitCount_38 ?_
  refine v_ladd g d_JLong_bitCount_39 ?_
  refine v_nlet (fun x4 ex4 => ?_)
  rw [← ex4]
  refine v_lstore_n [(0, .long x4)] g d_JLong_bitCount_40 (by decide) rfl ?_
  refine v_lload_n 0 g d_JLong_bitCount_41 rfl ?_
  refine v_lload_n 0 g d_JLong_bitCount_42 rfl ?_
  refine v_bipush (v := (16 : Int32)) g d_JLong_bitCount_43 (by decide +kernel) ?_
  refine v_lushr g d_JLong_bitCount_45 ?_
  refine v_ladd g d_JLong_bitCount_46 ?_
  refine v_nlet (fun x5 ex5 => ?_)
  rw [← ex5]
  refine v_lstore_n [(0, .long x5)] g d_JLong_bitCount_47 (by decide) rfl ?_
  refine v_lload_n 0 g d_JLong_bitCount_48 rfl ?_
  refine v_lload_n 0 g d_JLong_bitCount_49 rfl ?_
  refine v_bipush (v := (32 : Int32)) g d_JLong_bitCount_50 (by decide +kernel) ?_
  refine v_lushr g d_JLong_bitCount_52 ?_
  refine v_ladd g d_JLong_bitCount_53 ?_
  refine v_nlet (fun x6 ex6 => ?_)
  rw [← ex6]
  refine v_lstore_n [(0, .long x6)] g d_JLong_bitCount_54 (by decide) rfl ?_
  refine v_lload_n 0 g d_JLong_bitCount_55 rfl ?_
  refine v_l2i g d_JLong_bitCount_56 ?_
  refine v_bipush (v := (127 : Int32)) g d_JLong_bitCount_57 (by decide +kernel) ?_
  refine v_iand g d_JLong_bitCount_59 ?_
  exact v_ret d_JLong_bitCount_60 rfl
def f_JLong_bitCount (a0 : Int64) (σ : Sto) : Option (Int32 × Sto) := B_JLong_bitCount_0 a0 σ
theorem sp_JLong_bitCount {l : Launch} {E : En} (hE : Dj E) {a0 : Int64} {σ : Sto} {r : Int32} {σ' : Sto} (h : f_JLong_bitCount a0 σ = some (r, σ')) : Ct l E y_JLong_bitCount (wsM y_JLong_bitCount b_JLong_bitCount 2 (some .int)) 1 [.long a0] σ (eI r) σ' :=
  ct_of hE (by decide +kernel) (Nat.le_of_ble_eq_true rfl) (fun x => Or.inl ⟨rfl, x, rfl⟩) (fun X _ g => vB_JLong_bitCount_0 g a0 σ) r σ' h
/-! method java/util/Arrays.fill([II)V -/
theorem ys_JArrays_fill : YS y_JArrays_fill b_JArrays_fill 4 (none) 2 := ⟨m1 777 (by decide +kernel) (by decide +kernel), ini_JArrays, m1 778 (by decide +kernel) (by decide +kernel), ⟨by decide +kernel, by decide +kernel, by decide +kernel⟩, by decide⟩
theorem d_JArrays_fill_0 : decode b_JArrays_fill 0 = .ok (.iconst 0, 1) := by decide +kernel
theorem d_JArrays_fill_1 : decode b_JArrays_fill 1 = .ok (.istore_n 2, 1) := by decide +kernel
theorem d_JArrays_fill_2 : decode b_JArrays_fill 2 = .ok (.aload_n 0, 1) := by decide +kernel
theorem d_JArrays_fill_3 : decode b_JArrays_fill 3 = .ok (.arraylength, 1) := by decide +kernel
theorem d_JArrays_fill_4 : decode b_JArrays_fill 4 = .ok (.istore_n 3, 1) := by decide +kernel
theorem d_JArrays_fill_5 : decode b_JArrays_fill 5 = .ok (.iload_n 2, 1) := by decide +kernel
theorem d_JArrays_fill_6 : decode b_JArrays_fill 6 = .ok (.iload_n 3, 1) := by decide +kernel
theorem d_JArrays_fill_7 : decode b_JArrays_fill 7 = .ok (.if_icmp .ge 13, 3) := by decide +kernel
theorem d_JArrays_fill_10 : decode b_JArrays_fill 10 = .ok (.aload_n 0, 1) := by decide +kernel
theorem d_JArrays_fill_11 : decode b_JArrays_fill 11 = .ok (.iload_n 2, 1) := by decide +kernel
theorem d_JArrays_fill_12 : decode b_JArrays_fill 12 = .ok (.iload_n 1, 1) := by decide +kernel
theorem d_JArrays_fill_13 : decode b_JArrays_fill 13 = .ok (.iastore, 1) := by decide +kernel
theorem d_JArrays_fill_14 : decode b_JArrays_fill 14 = .ok (.iinc 2 1, 3) := by decide +kernel
theorem d_JArrays_fill_17 : decode b_JArrays_fill 17 = .ok (.goto (-12), 3) := by decide +kernel
theorem d_JArrays_fill_20 : decode b_JArrays_fill 20 = .ok (.return_, 1) := by decide +kernel
def B_JArrays_fill_5 (k5 : Nat → Int32 → Int32 → Int32 → Sto → Option (Unit × Sto)) (v0 : Nat) (v1 : Int32) (v2 : Int32) (v3 : Int32) (σ : Sto) : Option (Unit × Sto) :=
  (if v3 ≤ v2 then some ((), σ)
 else (if inb v2 (ln v0) = true then k5 v0 v1 (v2 + (1 : Int32)) v3 (sI σ v0 (Int32.toNatClampNeg v2) v1) else none))
set_option maxHeartbeats 4000000 in
set_option maxRecDepth 100000 in
theorem vB_JArrays_fill_5 {X : Xt} {E : En} (g : GG X E 1 b_JArrays_fill R_JArrays 4) {k5 : Nat → Int32 → Int32 → Int32 → Sto → Option (Unit × Sto)} (hk5 : ∀ (v0 : Nat) (v1 : Int32) (v2 : Int32) (v3 : Int32) (hv0 : cls v0 = 100) (σ : Sto), VV X E b_JArrays_fill 4 eU 5 [(0, .ref (E.2.1 v0)), (1, .int v1), (2, .int v2), (3, .int v3)] [] σ (k5 v0 v1 v2 v3 σ)) (v0 : Nat) (v1 : Int32) (v2 : Int32) (v3 : Int32) (hv0 : cls v0 = 100) (σ : Sto) : VV X E b_JArrays_fill 4 eU 5 [(0, .ref (E.2.1 v0)), (1, .int v1), (2, .int v2), (3, .int v3)] [] σ (B_JArrays_fill_5 k5 v0 v1 v2 v3 σ) := by
  unfold B_JArrays_fill_5
  refine v_iload_n 2 g d_JArrays_fill_5 rfl ?_
  refine v_iload_n 3 g d_JArrays_fill_6 rfl ?_
  refine v_icmp_ge 20 g d_JArrays_fill_7 (by decide) (fun _ => ?_) (fun _ => ?_)
  · exact v_ret d_JArrays_fill_20 rfl
  · refine v_aload_n 0 g d_JArrays_fill_10 rfl ?_
    refine v_iload_n 2 g d_JArrays_fill_11 rfl ?_
    refine v_iload_n 1 g d_JArrays_fill_12 rfl ?_
    refine v_iast g hv0 rfl d_JArrays_fill_13 (fun _ => ?_)
    refine v_iinc 2 [(2, .int (v2 + (1 : Int32))), (0, .ref (E.2.1 v0)), (1, .int v1), (3, .int v3)] g d_JArrays_fill_14 rfl (v := (1 : Int32)) (by decide +kernel) (by decide) rfl ?_
    refine v_goto 5 g d_JArrays_fill_17 (by decide) ?_
    exact v_sub [1,2,0,3] rfl (hk5 v0 v1 (v2 + (1 : Int32)) v3 hv0 (sI σ v0 (Int32.toNatClampNeg v2) v1))
def L_JArrays_fill_5 : Nat → Nat → Int32 → Int32 → Int32 → Sto → Option (Unit × Sto)
  | 0, _, _, _, _, _ => none
  | fu + 1, v0, v1, v2, v3, σ => B_JArrays_fill_5 (L_JArrays_fill_5 fu) v0 v1 v2 v3 σ
theorem vL_JArrays_fill_5 {X : Xt} {E : En} (g : GG X E 1 b_JArrays_fill R_JArrays 4) (fu : Nat) : ∀ (v0 : Nat) (v1 : Int32) (v2 : Int32) (v3 : Int32) (hv0 : cls v0 = 100) (σ : Sto), VV X E b_JArrays_fill 4 eU 5 [(0, .ref (E.2.1 v0)), (1, .int v1), (2, .int v2), (3, .int v3)] [] σ (L_JArrays_fill_5 fu v0 v1 v2 v3 σ) := by
  induction fu with
  | zero => intros; exact v_none
  | succ fu ih =>
    intro v0 v1 v2 v3 hv0 σ
    exact vB_JArrays_fill_5 g ih v0 v1 v2 v3 hv0 σ
def B_JArrays_fill_0 (a0 : Nat) (a1 : Int32) (σ : Sto) : Option (Unit × Sto) :=
  L_JArrays_fill_5 LF a0 a1 (0 : Int32) (Int32.ofNat (ln a0)) σ
set_option maxHeartbeats 4000000 in
set_option maxRecDepth 100000 in
theorem vB_JArrays_fill_0 {X : Xt} {E : En} (g : GG X E 1 b_JArrays_fill R_JArrays 4) (a0 : Nat) (a1 : Int32) (ha0 : cls a0 = 100) (σ : Sto) : VV X E b_JArrays_fill 4 eU 0 [(0, .ref (E.2.1 a0)), (1, .int a1)] [] σ (B_JArrays_fill_0 a0 a1 σ) := by
  unfold B_JArrays_fill_0
  refine v_iconst (v := (0 : Int32)) g d_JArrays_fill_0 (by decide +kernel) ?_
  refine v_istore_n [(2, .int (0 : Int32)), (0, .ref (E.2.1 a0)), (1, .int a1)] g d_JArrays_fill_1 (by decide) rfl ?_
  refine v_aload_n 1 g d_JArrays_fill_2 rfl ?_
  refine v_alen g ha0 d_JArrays_fill_3 ?_
  refine v_istore_n [(3, .int (Int32.ofNat (ln a0))), (2, .int (0 : Int32)), (0, .ref (E.2.1 a0)), (1, .int a1)] g d_JArrays_fill_4 (by decide) rfl ?_
  exact v_sub [2,3,1,0] rfl (vL_JArrays_fill_5 g LF a0 a1 (0 : Int32) (Int32.ofNat (ln a0)) ha0 σ)
def f_JArrays_fill (a0 : Nat) (a1 : Int32) (σ : Sto) : Option (Unit × Sto) := B_JArrays_fill_0 a0 a1 σ
theorem sp_JArrays_fill {l : Launch} {E : En} (hE : Dj E) {a0 : Nat} {a1 : Int32} (ha0 : cls a0 = 100) {σ : Sto} {r : Unit} {σ' : Sto} (h : f_JArrays_fill a0 a1 σ = some (r, σ')) : Ct l E y_JArrays_fill (wsM y_JArrays_fill b_JArrays_fill 4 (none)) 1 [.ref (E.2.1 a0), .int a1] σ (eU r) σ' :=
  ct_of hE (by decide +kernel) (Nat.le_of_ble_eq_true rfl) (fun _ => Or.inr (Or.inr (Or.inr (Or.inl ⟨rfl, rfl⟩)))) (fun X _ g => vB_JArrays_fill_0 g a0 a1 ha0 σ) r σ' h
/-! method FittingRings.isKind(I)Z -/
theorem ys_FR_isKind : YS y_FR_isKind b_FR_isKind 1 (some .boolean) 1 := ⟨m1 369 (by decide +kernel) (by decide +kernel), ini_FR, m1 370 (by decide +kernel) (by decide +kernel), ⟨by decide +kernel, by decide +kernel, by decide +kernel⟩, by decide⟩
theorem d_FR_isKind_0 : decode b_FR_isKind 0 = .ok (.iload_n 0, 1) := by decide +kernel
theorem d_FR_isKind_1 : decode b_FR_isKind 1 = .ok (.ifCond .lt 13, 3) := by decide +kernel
theorem d_FR_isKind_4 : decode b_FR_isKind 4 = .ok (.iload_n 0, 1) := by decide +kernel
theorem d_FR_isKind_5 : decode b_FR_isKind 5 = .ok (.bipush 6, 2) := by decide +kernel
theorem d_FR_isKind_7 : decode b_FR_isKind 7 = .ok (.if_icmp .ge 7, 3) := by decide +kernel
theorem d_FR_isKind_10 : decode b_FR_isKind 10 = .ok (.iconst 1, 1) := by decide +kernel
theorem d_FR_isKind_11 : decode b_FR_isKind 11 = .ok (.goto 4, 3) := by decide +kernel
theorem d_FR_isKind_14 : decode b_FR_isKind 14 = .ok (.iconst 0, 1) := by decide +kernel
theorem d_FR_isKind_15 : decode b_FR_isKind 15 = .ok (.ireturn, 1) := by decide +kernel
def B_FR_isKind_0 (a0 : Int32) (σ : Sto) : Option (Bool × Sto) :=
  (if a0 < 0 then some (false, σ)
 else (if (6 : Int32) ≤ a0 then some (false, σ)
  else some (true, σ)))
set_option maxHeartbeats 4000000 in
set_option maxRecDepth 100000 in
theorem vB_FR_isKind_0 {X : Xt} {E : En} (g : GG X E 1 b_FR_isKind R_FR 1) (a0 : Int32) (σ : Sto) : VV X E b_FR_isKind 1 eB 0 [(0, .int a0)] [] σ (B_FR_isKind_0 a0 σ) := by
  unfold B_FR_isKind_0
  refine v_iload_n 0 g d_FR_isKind_0 rfl ?_
  refine v_if_lt 14 g d_FR_isKind_1 (by decide) (fun _ => ?_) (fun _ => ?_)
  · refine v_iconst (v := (0 : Int32)) g d_FR_isKind_14 (by decide +kernel) ?_
    exact v_ret d_FR_isKind_15 rfl
  · refine v_iload_n 0 g d_FR_isKind_4 rfl ?_
    refine v_bipush (v := (6 : Int32)) g d_FR_isKind_5 (by decide +kernel) ?_
    refine v_icmp_ge 14 g d_FR_isKind_7 (by decide) (fun _ => ?_) (fun _ => ?_)
    · refine v_iconst (v := (0 : Int32)) g d_FR_isKind_14 (by decide +kernel) ?_
      exact v_ret d_FR_isKind_15 rfl
    · refine v_iconst (v := (1 : Int32)) g d_FR_isKind_10 (by decide +kernel) ?_
      refine v_goto 15 g d_FR_isKind_11 (by decide) ?_
      exact v_ret d_FR_isKind_15 rfl
def f_FR_isKind (a0 : Int32) (σ : Sto) : Option (Bool × Sto) := B_FR_isKind_0 a0 σ
theorem sp_FR_isKind {l : Launch} {E : En} (hE : Dj E) {a0 : Int32} {σ : Sto} {r : Bool} {σ' : Sto} (h : f_FR_isKind a0 σ = some (r, σ')) : Ct l E y_FR_isKind (wsM y_FR_isKind b_FR_isKind 1 (some .boolean)) 1 [.int a0] σ (eB r) σ' :=
  ct_of hE (by decide +kernel) (Nat.le_of_ble_eq_true rfl) (fun b => Or.inr (Or.inl ⟨rfl, b, rfl⟩)) (fun X _ g => vB_FR_isKind_0 g a0 σ) r σ' h
/-! method FittingRings.isFigure(I)Z -/
theorem ys_FR_isFigure : YS y_FR_isFigure b_FR_isFigure 1 (some .boolean) 1 := ⟨m1 372 (by decide +kernel) (by decide +kernel), ini_FR, m1 373 (by decide +kernel) (by decide +kernel), ⟨by decide +kernel, by decide +kernel, by decide +kernel⟩, by decide⟩
theorem d_FR_isFigure_0 : decode b_FR_isFigure 0 = .ok (.iload_n 0, 1) := by decide +kernel
theorem d_FR_isFigure_1 : decode b_FR_isFigure 1 = .ok (.ifCond .lt 13, 3) := by decide +kernel
theorem d_FR_isFigure_4 : decode b_FR_isFigure 4 = .ok (.iload_n 0, 1) := by decide +kernel
theorem d_FR_isFigure_5 : decode b_FR_isFigure 5 = .ok (.bipush 99, 2) := by decide +kernel
theorem d_FR_isFigure_7 : decode b_FR_isFigure 7 = .ok (.if_icmp .gt 7, 3) := by decide +kernel
theorem d_FR_isFigure_10 : decode b_FR_isFigure 10 = .ok (.iconst 1, 1) := by decide +kernel
theorem d_FR_isFigure_11 : decode b_FR_isFigure 11 = .ok (.goto 4, 3) := by decide +kernel
theorem d_FR_isFigure_14 : decode b_FR_isFigure 14 = .ok (.iconst 0, 1) := by decide +kernel
theorem d_FR_isFigure_15 : decode b_FR_isFigure 15 = .ok (.ireturn, 1) := by decide +kernel
def B_FR_isFigure_0 (a0 : Int32) (σ : Sto) : Option (Bool × Sto) :=
  (if a0 < 0 then some (false, σ)
 else (if (99 : Int32) < a0 then some (false, σ)
  else some (true, σ)))
set_option maxHeartbeats 4000000 in
set_option maxRecDepth 100000 in
theorem vB_FR_isFigure_0 {X : Xt} {E : En} (g : GG X E 1 b_FR_isFigure R_FR 1) (a0 : Int32) (σ : Sto) : VV X E b_FR_isFigure 1 eB 0 [(0, .int a0)] [] σ (B_FR_isFigure_0 a0 σ) := by
  unfold B_FR_isFigure_0
  refine v_iload_n 0 g d_FR_isFigure_0 rfl ?_
  refine v_if_lt 14 g d_FR_isFigure_1 (by decide) (fun _ => ?_) (fun _ => ?_)
  · refine v_iconst (v := (0 : Int32)) g d_FR_isFigure_14 (by decide +kernel) ?_
    exact v_ret d_FR_isFigure_15 rfl
  · refine v_iload_n 0 g d_FR_isFigure_4 rfl ?_
    refine v_bipush (v := (99 : Int32)) g d_FR_isFigure_5 (by decide +kernel) ?_
    refine v_icmp_gt 14 g d_FR_isFigure_7 (by decide) (fun _ => ?_) (fun _ => ?_)
    · refine v_iconst (v := (0 : Int32)) g d_FR_isFigure_14 (by decide +kernel) ?_
      exact v_ret d_FR_isFigure_15 rfl
    · refine v_iconst (v := (1 : Int32)) g d_FR_isFigure_10 (by decide +kernel) ?_
      refine v_goto 15 g d_FR_isFigure_11 (by decide) ?_
      exact v_ret d_FR_isFigure_15 rfl
def f_FR_isFigure (a0 : Int32) (σ : Sto) : Option (Bool × Sto) := B_FR_isFigure_0 a0 σ
theorem sp_FR_isFigure {l : Launch} {E : En} (hE : Dj E) {a0 : Int32} {σ : Sto} {r : Bool} {σ' : Sto} (h : f_FR_isFigure a0 σ = some (r, σ')) : Ct l E y_FR_isFigure (wsM y_FR_isFigure b_FR_isFigure 1 (some .boolean)) 1 [.int a0] σ (eB r) σ' :=
  ct_of hE (by decide +kernel) (Nat.le_of_ble_eq_true rfl) (fun b => Or.inr (Or.inl ⟨rfl, b, rfl⟩)) (fun X _ g => vB_FR_isFigure_0 g a0 σ) r σ' h
/-! method FittingRings.isBit(I)Z -/
theorem ys_FR_isBit : YS y_FR_isBit b_FR_isBit 1 (some .boolean) 1 := ⟨m1 415 (by decide +kernel) (by decide +kernel), ini_FR, m1 416 (by decide +kernel) (by decide +kernel), ⟨by decide +kernel, by decide +kernel, by decide +kernel⟩, by decide⟩
theorem d_FR_isBit_0 : decode b_FR_isBit 0 = .ok (.iload_n 0, 1) := by decide +kernel
theorem d_FR_isBit_1 : decode b_FR_isBit 1 = .ok (.ifCond .eq 8, 3) := by decide +kernel
theorem d_FR_isBit_4 : decode b_FR_isBit 4 = .ok (.iload_n 0, 1) := by decide +kernel
theorem d_FR_isBit_5 : decode b_FR_isBit 5 = .ok (.iconst 1, 1) := by decide +kernel
theorem d_FR_isBit_6 : decode b_FR_isBit 6 = .ok (.if_icmp .ne 7, 3) := by decide +kernel
theorem d_FR_isBit_9 : decode b_FR_isBit 9 = .ok (.iconst 1, 1) := by decide +kernel
theorem d_FR_isBit_10 : decode b_FR_isBit 10 = .ok (.goto 4, 3) := by decide +kernel
theorem d_FR_isBit_13 : decode b_FR_isBit 13 = .ok (.iconst 0, 1) := by decide +kernel
theorem d_FR_isBit_14 : decode b_FR_isBit 14 = .ok (.ireturn, 1) := by decide +kernel
def B_FR_isBit_0 (a0 : Int32) (σ : Sto) : Option (Bool × Sto) :=
  (if a0 = 0 then some (true, σ)
 else (if a0 = (1 : Int32) then some (true, σ)
  else some (false, σ)))
set_option maxHeartbeats 4000000 in
set_option maxRecDepth 100000 in
theorem vB_FR_isBit_0 {X : Xt} {E : En} (g : GG X E 1 b_FR_isBit R_FR 1) (a0 : Int32) (σ : Sto) : VV X E b_FR_isBit 1 eB 0 [(0, .int a0)] [] σ (B_FR_isBit_0 a0 σ) := by
  unfold B_FR_isBit_0
  refine v_iload_n 0 g d_FR_isBit_0 rfl ?_
  refine v_if_eq 9 g d_FR_isBit_1 (by decide) (fun _ => ?_) (fun _ => ?_)
  · refine v_iconst (v := (1 : Int32)) g d_FR_isBit_9 (by decide +kernel) ?_
    refine v_goto 14 g d_FR_isBit_10 (by decide) ?_
    exact v_ret d_FR_isBit_14 rfl
  · refine v_iload_n 0 g d_FR_isBit_4 rfl ?_
    refine v_iconst (v := (1 : Int32)) g d_FR_isBit_5 (by decide +kernel) ?_
    refine v_icmp_ne 13 g d_FR_isBit_6 (by decide) (fun _ => ?_) (fun _ => ?_)
    · refine v_iconst (v := (0 : Int32)) g d_FR_isBit_13 (by decide +kernel) ?_
      exact v_ret d_FR_isBit_14 rfl
    · refine v_iconst (v := (1 : Int32)) g d_FR_isBit_9 (by decide +kernel) ?_
      refine v_goto 14 g d_FR_isBit_10 (by decide) ?_
      exact v_ret d_FR_isBit_14 rfl
def f_FR_isBit (a0 : Int32) (σ : Sto) : Option (Bool × Sto) := B_FR_isBit_0 a0 σ
theorem sp_FR_isBit {l : Launch} {E : En} (hE : Dj E) {a0 : Int32} {σ : Sto} {r : Bool} {σ' : Sto} (h : f_FR_isBit a0 σ = some (r, σ')) : Ct l E y_FR_isBit (wsM y_FR_isBit b_FR_isBit 1 (some .boolean)) 1 [.int a0] σ (eB r) σ' :=
  ct_of hE (by decide +kernel) (Nat.le_of_ble_eq_true rfl) (fun b => Or.inr (Or.inl ⟨rfl, b, rfl⟩)) (fun X _ g => vB_FR_isBit_0 g a0 σ) r σ' h
/-! method FittingRings.isOf(JI)Z -/
theorem ys_FR_isOf : YS y_FR_isOf b_FR_isOf 3 (some .boolean) 2 := ⟨m1 422 (by decide +kernel) (by decide +kernel), ini_FR, m1 423 (by decide +kernel) (by decide +kernel), ⟨by decide +kernel, by decide +kernel, by decide +kernel⟩, by decide⟩
theorem d_FR_isOf_0 : decode b_FR_isOf 0 = .ok (.lload_n 0, 1) := by decide +kernel
theorem d_FR_isOf_1 : decode b_FR_isOf 1 = .ok (.iload_n 2, 1) := by decide +kernel
theorem d_FR_isOf_2 : decode b_FR_isOf 2 = .ok (.lushr, 1) := by decide +kernel
theorem d_FR_isOf_3 : decode b_FR_isOf 3 = .ok (.lconst 1, 1) := by decide +kernel
theorem d_FR_isOf_4 : decode b_FR_isOf 4 = .ok (.land, 1) := by decide +kernel
theorem d_FR_isOf_5 : decode b_FR_isOf 5 = .ok (.lconst 0, 1) := by decide +kernel
theorem d_FR_isOf_6 : decode b_FR_isOf 6 = .ok (.lcmp, 1) := by decide +kernel
theorem d_FR_isOf_7 : decode b_FR_isOf 7 = .ok (.ifCond .eq 7, 3) := by decide +kernel
theorem d_FR_isOf_10 : decode b_FR_isOf 10 = .ok (.iconst 1, 1) := by decide +kernel
theorem d_FR_isOf_11 : decode b_FR_isOf 11 = .ok (.goto 4, 3) := by decide +kernel
theorem d_FR_isOf_14 : decode b_FR_isOf 14 = .ok (.iconst 0, 1) := by decide +kernel
theorem d_FR_isOf_15 : decode b_FR_isOf 15 = .ok (.ireturn, 1) := by decide +kernel
def B_FR_isOf_0 (a0 : Int64) (a2 : Int32) (σ : Sto) : Option (Bool × Sto) :=
  (if ((lur a0 a2) &&& (1 : Int64)) = (0 : Int64) then some (false, σ)
 else some (true, σ))
set_option maxHeartbeats 4000000 in
set_option maxRecDepth 100000 in
theorem vB_FR_isOf_0 {X : Xt} {E : En} (g : GG X E 1 b_FR_isOf R_FR 3) (a0 : Int64) (a2 : Int32) (σ : Sto) : VV X E b_FR_isOf 3 eB 0 [(0, .long a0), (2, .int a2)] [] σ (B_FR_isOf_0 a0 a2 σ) := by
  unfold B_FR_isOf_0
  refine v_lload_n 0 g d_FR_isOf_0 rfl ?_
  refine v_iload_n 1 g d_FR_isOf_1 rfl ?_
  refine v_lushr g d_FR_isOf_2 ?_
  refine v_lconst (v := (1 : Int64)) g d_FR_isOf_3 (by decide +kernel) ?_
  refine v_land g d_FR_isOf_4 ?_
  refine v_lconst (v := (0 : Int64)) g d_FR_isOf_5 (by decide +kernel) ?_
  refine v_lcmp_eq 14 g d_FR_isOf_6 d_FR_isOf_7 (by decide) (fun _ => ?_) (fun _ => ?_)
  · refine v_iconst (v := (0 : Int32)) g d_FR_isOf_14 (by decide +kernel) ?_
    exact v_ret d_FR_isOf_15 rfl
  · refine v_iconst (v := (1 : Int32)) g d_FR_isOf_10 (by decide +kernel) ?_
    refine v_goto 15 g d_FR_isOf_11 (by decide) ?_
    exact v_ret d_FR_isOf_15 rfl
def f_FR_isOf (a0 : Int64) (a2 : Int32) (σ : Sto) : Option (Bool × Sto) := B_FR_isOf_0 a0 a2 σ
theorem sp_FR_isOf {l : Launch} {E : En} (hE : Dj E) {a0 : Int64} {a2 : Int32} {σ : Sto} {r : Bool} {σ' : Sto} (h : f_FR_isOf a0 a2 σ = some (r, σ')) : Ct l E y_FR_isOf (wsM y_FR_isOf b_FR_isOf 3 (some .boolean)) 1 [.long a0, .int a2] σ (eB r) σ' :=
  ct_of hE (by decide +kernel) (Nat.le_of_ble_eq_true rfl) (fun b => Or.inr (Or.inl ⟨rfl, b, rfl⟩)) (fun X _ g => vB_FR_isOf_0 g a0 a2 σ) r σ' h
/-! method FittingRings.isRule(J)Z -/
theorem ys_FR_isRule : YS y_FR_isRule b_FR_isRule 2 (some .boolean) 1 := ⟨m1 546 (by decide +kernel) (by decide +kernel), ini_FR, m1 547 (by decide +kernel) (by decide +kernel), ⟨by decide +kernel, by decide +kernel, by decide +kernel⟩, by decide⟩
theorem d_FR_isRule_0 : decode b_FR_isRule 0 = .ok (.lload_n 0, 1) := by decide +kernel
theorem d_FR_isRule_1 : decode b_FR_isRule 1 = .ok (.lconst 0, 1) := by decide +kernel
theorem d_FR_isRule_2 : decode b_FR_isRule 2 = .ok (.lcmp, 1) := by decide +kernel
theorem d_FR_isRule_3 : decode b_FR_isRule 3 = .ok (.ifCond .lt 15, 3) := by decide +kernel
theorem d_FR_isRule_6 : decode b_FR_isRule 6 = .ok (.lload_n 0, 1) := by decide +kernel
theorem d_FR_isRule_7 : decode b_FR_isRule 7 = .ok (.ldc2_w 394, 3) := by decide +kernel
theorem d_FR_isRule_10 : decode b_FR_isRule 10 = .ok (.lcmp, 1) := by decide +kernel
theorem d_FR_isRule_11 : decode b_FR_isRule 11 = .ok (.ifCond .ge 7, 3) := by decide +kernel
theorem d_FR_isRule_14 : decode b_FR_isRule 14 = .ok (.iconst 1, 1) := by decide +kernel
theorem d_FR_isRule_15 : decode b_FR_isRule 15 = .ok (.goto 4, 3) := by decide +kernel
theorem d_FR_isRule_18 : decode b_FR_isRule 18 = .ok (.iconst 0, 1) := by decide +kernel
theorem d_FR_isRule_19 : decode b_FR_isRule 19 = .ok (.ireturn, 1) := by decide +kernel
def B_FR_isRule_0 (a0 : Int64) (σ : Sto) : Option (Bool × Sto) :=
  (if a0 < (0 : Int64) then some (false, σ)
 else (if (5 : Int64) ≤ a0 then some (false, σ)
  else some (true, σ)))
set_option maxHeartbeats 4000000 in
set_option maxRecDepth 100000 in
theorem vB_FR_isRule_0 {X : Xt} {E : En} (g : GG X E 1 b_FR_isRule R_FR 2) (a0 : Int64) (σ : Sto) : VV X E b_FR_isRule 2 eB 0 [(0, .long a0)] [] σ (B_FR_isRule_0 a0 σ) := by
  unfold B_FR_isRule_0
  refine v_lload_n 0 g d_FR_isRule_0 rfl ?_
  refine v_lconst (v := (0 : Int64)) g d_FR_isRule_1 (by decide +kernel) ?_
  refine v_lcmp_lt 18 g d_FR_isRule_2 d_FR_isRule_3 (by decide) (fun _ => ?_) (fun _ => ?_)
  · refine v_iconst (v := (0 : Int32)) g d_FR_isRule_18 (by decide +kernel) ?_
    exact v_ret d_FR_isRule_19 rfl
  · refine v_lload_n 0 g d_FR_isRule_6 rfl ?_
    refine v_ldc2 (v := (5 : Int64)) g (m1 548 (by decide +kernel) (by decide +kernel)) d_FR_isRule_7 ?_
    refine v_lcmp_ge 18 g d_FR_isRule_10 d_FR_isRule_11 (by decide) (fun _ => ?_) (fun _ => ?_)
    · refine v_iconst (v := (0 : Int32)) g d_FR_isRule_18 (by decide +kernel) ?_
      exact v_ret d_FR_isRule_19 rfl
    · refine v_iconst (v := (1 : Int32)) g d_FR_isRule_14 (by decide +kernel) ?_
      refine v_goto 19 g d_FR_isRule_15 (by decide) ?_
      exact v_ret d_FR_isRule_19 rfl
def f_FR_isRule (a0 : Int64) (σ : Sto) : Option (Bool × Sto) := B_FR_isRule_0 a0 σ
theorem sp_FR_isRule {l : Launch} {E : En} (hE : Dj E) {a0 : Int64} {σ : Sto} {r : Bool} {σ' : Sto} (h : f_FR_isRule a0 σ = some (r, σ')) : Ct l E y_FR_isRule (wsM y_FR_isRule b_FR_isRule 2 (some .boolean)) 1 [.long a0] σ (eB r) σ' :=
  ct_of hE (by decide +kernel) (Nat.le_of_ble_eq_true rfl) (fun b => Or.inr (Or.inl ⟨rfl, b, rfl⟩)) (fun X _ g => vB_FR_isRule_0 g a0 σ) r σ' h
/-! method FittingRings.lastOf(JI)I -/
theorem ys_FR_lastOf : YS y_FR_lastOf b_FR_lastOf 4 (some .int) 2 := ⟨m1 594 (by decide +kernel) (by decide +kernel), ini_FR, m1 595 (by decide +kernel) (by decide +kernel), ⟨by decide +kernel, by decide +kernel, by decide +kernel⟩, by decide⟩
theorem d_FR_lastOf_0 : decode b_FR_lastOf 0 = .ok (.iload_n 2, 1) := by decide +kernel
theorem d_FR_lastOf_1 : decode b_FR_lastOf 1 = .ok (.istore_n 3, 1) := by decide +kernel
theorem d_FR_lastOf_2 : decode b_FR_lastOf 2 = .ok (.iload_n 3, 1) := by decide +kernel
theorem d_FR_lastOf_3 : decode b_FR_lastOf 3 = .ok (.ifCond .lt 19, 3) := by decide +kernel
theorem d_FR_lastOf_6 : decode b_FR_lastOf 6 = .ok (.lload_n 0, 1) := by decide +kernel
theorem d_FR_lastOf_7 : decode b_FR_lastOf 7 = .ok (.iload_n 3, 1) := by decide +kernel
theorem d_FR_lastOf_8 : decode b_FR_lastOf 8 = .ok (.invokestatic 244, 3) := by decide +kernel
theorem d_FR_lastOf_11 : decode b_FR_lastOf 11 = .ok (.ifCond .eq 5, 3) := by decide +kernel
theorem d_FR_lastOf_14 : decode b_FR_lastOf 14 = .ok (.iload_n 3, 1) := by decide +kernel
theorem d_FR_lastOf_15 : decode b_FR_lastOf 15 = .ok (.ireturn, 1) := by decide +kernel
theorem d_FR_lastOf_16 : decode b_FR_lastOf 16 = .ok (.iinc 3 (-1), 3) := by decide +kernel
theorem d_FR_lastOf_19 : decode b_FR_lastOf 19 = .ok (.goto (-17), 3) := by decide +kernel
theorem d_FR_lastOf_22 : decode b_FR_lastOf 22 = .ok (.iconst (-1), 1) := by decide +kernel
theorem d_FR_lastOf_23 : decode b_FR_lastOf 23 = .ok (.ireturn, 1) := by decide +kernel
def B_FR_lastOf_2 (k2 : Int64 → Int32 → Sto → Option (Int32 × Sto)) (v0 : Int64) (v3 : Int32) (σ : Sto) : Option (Int32 × Sto) :=
  (if v3 < 0 then some ((-1 : Int32), σ)
 else ((f_FR_isOf v0 v3 σ).bind fun q1 => (if (b2i q1.1) = 0 then k2 v0 (v3 + (-1 : Int32)) q1.2
  else some (v3, q1.2))))
set_option maxHeartbeats 4000000 in
set_option maxRecDepth 100000 in
theorem vB_FR_lastOf_2 {X : Xt} {E : En} (g : GG X E 2 b_FR_lastOf R_FR 4) {k2 : Int64 → Int32 → Sto → Option (Int32 × Sto)} (hk2 : ∀ (v0 : Int64) (v3 : Int32) (σ : Sto), VV X E b_FR_lastOf 4 eI 2 [(0, .long v0), (3, .int v3)] [] σ (k2 v0 v3 σ)) (v0 : Int64) (v3 : Int32) (σ : Sto) : VV X E b_FR_lastOf 4 eI 2 [(0, .long v0), (3, .int v3)] [] σ (B_FR_lastOf_2 k2 v0 v3 σ) := by
  unfold B_FR_lastOf_2
  refine v_iload_n 1 g d_FR_lastOf_2 rfl ?_
  refine v_if_lt 22 g d_FR_lastOf_3 (by decide) (fun _ => ?_) (fun _ => ?_)
  · refine v_iconst (v := (-1 : Int32)) g d_FR_lastOf_22 (by decide +kernel) ?_
    exact v_ret d_FR_lastOf_23 rfl
  · refine v_lload_n 0 g d_FR_lastOf_6 rfl ?_
    refine v_iload_n 1 g d_FR_lastOf_7 rfl ?_
    refine v_callB (r_S (rest := []) [.long v0, .int v3] g (m1 596 (by decide +kernel) (by decide +kernel)) ys_FR_isOf (fun r σ1 h => sp_FR_isOf g.2.2.1  h) rfl rfl (by decide) (Nat.le_of_ble_eq_true rfl) d_FR_lastOf_8) (fun q1 => ?_)
    refine v_if_eq 16 g d_FR_lastOf_11 (by decide) (fun _ => ?_) (fun _ => ?_)
    · refine v_iinc 1 [(3, .int (v3 + (-1 : Int32))), (0, .long v0)] g d_FR_lastOf_16 rfl (v := (-1 : Int32)) (by decide +kernel) (by decide) rfl ?_
      refine v_goto 2 g d_FR_lastOf_19 (by decide) ?_
      exact v_sub [1,0] rfl (hk2 v0 (v3 + (-1 : Int32)) q1.2)
    · refine v_iload_n 1 g d_FR_lastOf_14 rfl ?_
      exact v_ret d_FR_lastOf_15 rfl
def L_FR_lastOf_2 : Nat → Int64 → Int32 → Sto → Option (Int32 × Sto)
  | 0, _, _, _ => none
  | fu + 1, v0, v3, σ => B_FR_lastOf_2 (L_FR_lastOf_2 fu) v0 v3 σ
theorem vL_FR_lastOf_2 {X : Xt} {E : En} (g : GG X E 2 b_FR_lastOf R_FR 4) (fu : Nat) : ∀ (v0 : Int64) (v3 : Int32) (σ : Sto), VV X E b_FR_lastOf 4 eI 2 [(0, .long v0), (3, .int v3)] [] σ (L_FR_lastOf_2 fu v0 v3 σ) := by
  induction fu with
  | zero => intros; exact v_none
  | succ fu ih =>
    intro v0 v3 σ
    exact vB_FR_lastOf_2 g ih v0 v3 σ
def B_FR_lastOf_0 (a0 : Int64) (a2 : Int32) (σ : Sto) : Option (Int32 × Sto) :=
  L_FR_lastOf_2 LF a0 a2 σ
set_option maxHeartbeats 4000000 in
set_option maxRecDepth 100000 in
theorem vB_FR_lastOf_0 {X : Xt} {E : En} (g : GG X E 2 b_FR_lastOf R_FR 4) (a0 : Int64) (a2 : Int32) (σ : Sto) : VV X E b_FR_lastOf 4 eI 0 [(0, .long a0), (2, .int a2)] [] σ (B_FR_lastOf_0 a0 a2 σ) := by
  unfold B_FR_lastOf_0
  refine v_iload_n 1 g d_FR_lastOf_0 rfl ?_
  refine v_istore_n [(3, .int a2), (0, .long a0), (2, .int a2)] g d_FR_lastOf_1 (by decide) rfl ?_
  exact v_sub [1,0] rfl (vL_FR_lastOf_2 g LF a0 a2 σ)
def f_FR_lastOf (a0 : Int64) (a2 : Int32) (σ : Sto) : Option (Int32 × Sto) := B_FR_lastOf_0 a0 a2 σ
theorem sp_FR_lastOf {l : Launch} {E : En} (hE : Dj E) {a0 : Int64} {a2 : Int32} {σ : Sto} {r : Int32} {σ' : Sto} (h : f_FR_lastOf a0 a2 σ = some (r, σ')) : Ct l E y_FR_lastOf (wsM y_FR_lastOf b_FR_lastOf 4 (some .int)) 2 [.long a0, .int a2] σ (eI r) σ' :=
  ct_of hE (by decide +kernel) (Nat.le_of_ble_eq_true rfl) (fun x => Or.inl ⟨rfl, x, rfl⟩) (fun X _ g => vB_FR_lastOf_0 g a0 a2 σ) r σ' h
/-! method FittingRings.pairOf(II)I -/
theorem ys_FR_pairOf : YS y_FR_pairOf b_FR_pairOf 2 (some .int) 2 := ⟨m1 668 (by decide +kernel) (by decide +kernel), ini_FR, m1 669 (by decide +kernel) (by decide +kernel), ⟨by decide +kernel, by decide +kernel, by decide +kernel⟩, by decide⟩
theorem d_FR_pairOf_0 : decode b_FR_pairOf 0 = .ok (.bipush 40, 2) := by decide +kernel
theorem d_FR_pairOf_2 : decode b_FR_pairOf 2 = .ok (.iload_n 0, 1) := by decide +kernel
theorem d_FR_pairOf_3 : decode b_FR_pairOf 3 = .ok (.imul, 1) := by decide +kernel
theorem d_FR_pairOf_4 : decode b_FR_pairOf 4 = .ok (.iload_n 1, 1) := by decide +kernel
theorem d_FR_pairOf_5 : decode b_FR_pairOf 5 = .ok (.iadd, 1) := by decide +kernel
theorem d_FR_pairOf_6 : decode b_FR_pairOf 6 = .ok (.ireturn, 1) := by decide +kernel
def B_FR_pairOf_0 (a0 : Int32) (a1 : Int32) (σ : Sto) : Option (Int32 × Sto) :=
  some ((((40 : Int32) * a0) + a1), σ)
set_option maxHeartbeats 4000000 in
set_option maxRecDepth 100000 in
theorem vB_FR_pairOf_0 {X : Xt} {E : En} (g : GG X E 1 b_FR_pairOf R_FR 2) (a0 : Int32) (a1 : Int32) (σ : Sto) : VV X E b_FR_pairOf 2 eI 0 [(0, .int a0), (1, .int a1)] [] σ (B_FR_pairOf_0 a0 a1 σ) := by
  unfold B_FR_pairOf_0
  refine v_bipush (v := (40 : Int32)) g d_FR_pairOf_0 (by decide +kernel) ?_
  refine v_iload_n 0 g d_FR_pairOf_2 rfl ?_
  refine v_imul g d_FR_pairOf_3 ?_
  refine v_iload_n 1 g d_FR_pairOf_4 rfl ?_
  refine v_iadd g d_FR_pairOf_5 ?_
  exact v_ret d_FR_pairOf_6 rfl
def f_FR_pairOf (a0 : Int32) (a1 : Int32) (σ : Sto) : Option (Int32 × Sto) := B_FR_pairOf_0 a0 a1 σ
theorem sp_FR_pairOf {l : Launch} {E : En} (hE : Dj E) {a0 : Int32} {a1 : Int32} {σ : Sto} {r : Int32} {σ' : Sto} (h : f_FR_pairOf a0 a1 σ = some (r, σ')) : Ct l E y_FR_pairOf (wsM y_FR_pairOf b_FR_pairOf 2 (some .int)) 1 [.int a0, .int a1] σ (eI r) σ' :=
  ct_of hE (by decide +kernel) (Nat.le_of_ble_eq_true rfl) (fun x => Or.inl ⟨rfl, x, rfl⟩) (fun X _ g => vB_FR_pairOf_0 g a0 a1 σ) r σ' h
/-! method FittingRings.isSheet(I)Z -/
theorem ys_FR_isSheet : YS y_FR_isSheet b_FR_isSheet 1 (some .boolean) 1 := ⟨m1 746 (by decide +kernel) (by decide +kernel), ini_FR, m1 747 (by decide +kernel) (by decide +kernel), ⟨by decide +kernel, by decide +kernel, by decide +kernel⟩, by decide⟩
theorem d_FR_isSheet_0 : decode b_FR_isSheet 0 = .ok (.iload_n 0, 1) := by decide +kernel
theorem d_FR_isSheet_1 : decode b_FR_isSheet 1 = .ok (.ifCond .lt 12, 3) := by decide +kernel
theorem d_FR_isSheet_4 : decode b_FR_isSheet 4 = .ok (.iload_n 0, 1) := by decide +kernel
theorem d_FR_isSheet_5 : decode b_FR_isSheet 5 = .ok (.iconst 4, 1) := by decide +kernel
theorem d_FR_isSheet_6 : decode b_FR_isSheet 6 = .ok (.if_icmp .ge 7, 3) := by decide +kernel
theorem d_FR_isSheet_9 : decode b_FR_isSheet 9 = .ok (.iconst 1, 1) := by decide +kernel
theorem d_FR_isSheet_10 : decode b_FR_isSheet 10 = .ok (.goto 4, 3) := by decide +kernel
theorem d_FR_isSheet_13 : decode b_FR_isSheet 13 = .ok (.iconst 0, 1) := by decide +kernel
theorem d_FR_isSheet_14 : decode b_FR_isSheet 14 = .ok (.ireturn, 1) := by decide +kernel
def B_FR_isSheet_0 (a0 : Int32) (σ : Sto) : Option (Bool × Sto) :=
  (if a0 < 0 then some (false, σ)
 else (if (4 : Int32) ≤ a0 then some (false, σ)
  else some (true, σ)))
set_option maxHeartbeats 4000000 in
set_option maxRecDepth 100000 in
theorem vB_FR_isSheet_0 {X : Xt} {E : En} (g : GG X E 1 b_FR_isSheet R_FR 1) (a0 : Int32) (σ : Sto) : VV X E b_FR_isSheet 1 eB 0 [(0, .int a0)] [] σ (B_FR_isSheet_0 a0 σ) := by
  unfold B_FR_isSheet_0
  refine v_iload_n 0 g d_FR_isSheet_0 rfl ?_
  refine v_if_lt 13 g d_FR_isSheet_1 (by decide) (fun _ => ?_) (fun _ => ?_)
  · refine v_iconst (v := (0 : Int32)) g d_FR_isSheet_13 (by decide +kernel) ?_
    exact v_ret d_FR_isSheet_14 rfl
  · refine v_iload_n 0 g d_FR_isSheet_4 rfl ?_
    refine v_iconst (v := (4 : Int32)) g d_FR_isSheet_5 (by decide +kernel) ?_
    refine v_icmp_ge 13 g d_FR_isSheet_6 (by decide) (fun _ => ?_) (fun _ => ?_)
    · refine v_iconst (v := (0 : Int32)) g d_FR_isSheet_13 (by decide +kernel) ?_
      exact v_ret d_FR_isSheet_14 rfl
    · refine v_iconst (v := (1 : Int32)) g d_FR_isSheet_9 (by decide +kernel) ?_
      refine v_goto 14 g d_FR_isSheet_10 (by decide) ?_
      exact v_ret d_FR_isSheet_14 rfl
def f_FR_isSheet (a0 : Int32) (σ : Sto) : Option (Bool × Sto) := B_FR_isSheet_0 a0 σ
theorem sp_FR_isSheet {l : Launch} {E : En} (hE : Dj E) {a0 : Int32} {σ : Sto} {r : Bool} {σ' : Sto} (h : f_FR_isSheet a0 σ = some (r, σ')) : Ct l E y_FR_isSheet (wsM y_FR_isSheet b_FR_isSheet 1 (some .boolean)) 1 [.int a0] σ (eB r) σ' :=
  ct_of hE (by decide +kernel) (Nat.le_of_ble_eq_true rfl) (fun b => Or.inr (Or.inl ⟨rfl, b, rfl⟩)) (fun X _ g => vB_FR_isSheet_0 g a0 σ) r σ' h
/-! method FittingRings.leastOf(J)I -/
theorem ys_FR_leastOf : YS y_FR_leastOf b_FR_leastOf 3 (some .int) 1 := ⟨m1 816 (by decide +kernel) (by decide +kernel), ini_FR, m1 817 (by decide +kernel) (by decide +kernel), ⟨by decide +kernel, by decide +kernel, by decide +kernel⟩, by decide⟩
theorem d_FR_leastOf_0 : decode b_FR_leastOf 0 = .ok (.iconst 0, 1) := by decide +kernel
theorem d_FR_leastOf_1 : decode b_FR_leastOf 1 = .ok (.istore_n 2, 1) := by decide +kernel
theorem d_FR_leastOf_2 : decode b_FR_leastOf 2 = .ok (.iload_n 2, 1) := by decide +kernel
theorem d_FR_leastOf_3 : decode b_FR_leastOf 3 = .ok (.bipush 40, 2) := by decide +kernel
theorem d_FR_leastOf_5 : decode b_FR_leastOf 5 = .ok (.if_icmp .ge 19, 3) := by decide +kernel
theorem d_FR_leastOf_8 : decode b_FR_leastOf 8 = .ok (.lload_n 0, 1) := by decide +kernel
theorem d_FR_leastOf_9 : decode b_FR_leastOf 9 = .ok (.iload_n 2, 1) := by decide +kernel
theorem d_FR_leastOf_10 : decode b_FR_leastOf 10 = .ok (.invokestatic 244, 3) := by decide +kernel
theorem d_FR_leastOf_13 : decode b_FR_leastOf 13 = .ok (.ifCond .eq 5, 3) := by decide +kernel
theorem d_FR_leastOf_16 : decode b_FR_leastOf 16 = .ok (.iload_n 2, 1) := by decide +kernel
theorem d_FR_leastOf_17 : decode b_FR_leastOf 17 = .ok (.ireturn, 1) := by decide +kernel
theorem d_FR_leastOf_18 : decode b_FR_leastOf 18 = .ok (.iinc 2 1, 3) := by decide +kernel
theorem d_FR_leastOf_21 : decode b_FR_leastOf 21 = .ok (.goto (-19), 3) := by decide +kernel
theorem d_FR_leastOf_24 : decode b_FR_leastOf 24 = .ok (.iconst (-1), 1) := by decide +kernel
theorem d_FR_leastOf_25 : decode b_FR_leastOf 25 = .ok (.ireturn, 1) := by decide +kernel
def B_FR_leastOf_2 (k2 : Int64 → Int32 → Sto → Option (Int32 × Sto)) (v0 : Int64) (v2 : Int32) (σ : Sto) : Option (Int32 × Sto) :=
  (if (40 : Int32) ≤ v2 then some ((-1 : Int32), σ)
 else ((f_FR_isOf v0 v2 σ).bind fun q1 => (if (b2i q1.1) = 0 then k2 v0 (v2 + (1 : Int32)) q1.2
  else some (v2, q1.2))))
set_option maxHeartbeats 4000000 in
set_option maxRecDepth 100000 in
theorem vB_FR_leastOf_2 {X : Xt} {E : En} (g : GG X E 2 b_FR_leastOf R_FR 3) {k2 : Int64 → Int32 → Sto → Option (Int32 × Sto)} (hk2 : ∀ (v0 : Int64) (v2 : Int32) (σ : Sto), VV X E b_FR_leastOf 3 eI 2 [(0, .long v0), (2, .int v2)] [] σ (k2 v0 v2 σ)) (v0 : Int64) (v2 : Int32) (σ : Sto) : VV X E b_FR_leastOf 3 eI 2 [(0, .long v0), (2, .int v2)] [] σ (B_FR_leastOf_2 k2 v0 v2 σ) := by
  unfold B_FR_leastOf_2
  refine v_iload_n 1 g d_FR_leastOf_2 rfl ?_
  refine v_bipush (v := (40 : Int32)) g d_FR_leastOf_3 (by decide +kernel) ?_
  refine v_icmp_ge 24 g d_FR_leastOf_5 (by decide) (fun _ => ?_) (fun _ => ?_)
  · refine v_iconst (v := (-1 : Int32)) g d_FR_leastOf_24 (by decide +kernel) ?_
    exact v_ret d_FR_leastOf_25 rfl
  · refine v_lload_n 0 g d_FR_leastOf_8 rfl ?_
    refine v_iload_n 1 g d_FR_leastOf_9 rfl ?_
    refine v_callB (r_S (rest := []) [.long v0, .int v2] g (m1 596 (by decide +kernel) (by decide +kernel)) ys_FR_isOf (fun r σ1 h => sp_FR_isOf g.2.2.1  h) rfl rfl (by decide) (Nat.le_of_ble_eq_true rfl) d_FR_leastOf_10) (fun q1 => ?_)
    refine v_if_eq 18 g d_FR_leastOf_13 (by decide) (fun _ => ?_) (fun _ => ?_)
    · refine v_iinc 1 [(2, .int (v2 + (1 : Int32))), (0, .long v0)] g d_FR_leastOf_18 rfl (v := (1 : Int32)) (by decide +kernel) (by decide) rfl ?_
      refine v_goto 2 g d_FR_leastOf_21 (by decide) ?_
      exact v_sub [1,0] rfl (hk2 v0 (v2 + (1 : Int32)) q1.2)
    · refine v_iload_n 1 g d_FR_leastOf_16 rfl ?_
      exact v_ret d_FR_leastOf_17 rfl
def L_FR_leastOf_2 : Nat → Int64 → Int32 → Sto → Option (Int32 × Sto)
  | 0, _, _, _ => none
  | fu + 1, v0, v2, σ => B_FR_leastOf_2 (L_FR_leastOf_2 fu) v0 v2 σ
theorem vL_FR_leastOf_2 {X : Xt} {E : En} (g : GG X E 2 b_FR_leastOf R_FR 3) (fu : Nat) : ∀ (v0 : Int64) (v2 : Int32) (σ : Sto), VV X E b_FR_leastOf 3 eI 2 [(0, .long v0), (2, .int v2)] [] σ (L_FR_leastOf_2 fu v0 v2 σ) := by
  induction fu with
  | zero => intros; exact v_none
  | succ fu ih =>
    intro v0 v2 σ
    exact vB_FR_leastOf_2 g ih v0 v2 σ
def B_FR_leastOf_0 (a0 : Int64) (σ : Sto) : Option (Int32 × Sto) :=
  L_FR_leastOf_2 LF a0 (0 : Int32) σ
set_option maxHeartbeats 4000000 in
set_option maxRecDepth 100000 in
theorem vB_FR_leastOf_0 {X : Xt} {E : En} (g : GG X E 2 b_FR_leastOf R_FR 3) (a0 : Int64) (σ : Sto) : VV X E b_FR_leastOf 3 eI 0 [(0, .long a0)] [] σ (B_FR_leastOf_0 a0 σ) := by
  unfold B_FR_leastOf_0
  refine v_iconst (v := (0 : Int32)) g d_FR_leastOf_0 (by decide +kernel) ?_
  refine v_istore_n [(2, .int (0 : Int32)), (0, .long a0)] g d_FR_leastOf_1 (by decide) rfl ?_
  exact v_sub [1,0] rfl (vL_FR_leastOf_2 g LF a0 (0 : Int32) σ)
def f_FR_leastOf (a0 : Int64) (σ : Sto) : Option (Int32 × Sto) := B_FR_leastOf_0 a0 σ
theorem sp_FR_leastOf {l : Launch} {E : En} (hE : Dj E) {a0 : Int64} {σ : Sto} {r : Int32} {σ' : Sto} (h : f_FR_leastOf a0 σ = some (r, σ')) : Ct l E y_FR_leastOf (wsM y_FR_leastOf b_FR_leastOf 3 (some .int)) 2 [.long a0] σ (eI r) σ' :=
  ct_of hE (by decide +kernel) (Nat.le_of_ble_eq_true rfl) (fun x => Or.inl ⟨rfl, x, rfl⟩) (fun X _ g => vB_FR_leastOf_0 g a0 σ) r σ' h
/-! method FittingRings.isOdds(I)Z -/
theorem ys_FR_isOdds : YS y_FR_isOdds b_FR_isOdds 1 (some .boolean) 1 := ⟨m1 954 (by decide +kernel) (by decide +kernel), ini_FR, m1 955 (by decide +kernel) (by decide +kernel), ⟨by decide +kernel, by decide +kernel, by decide +kernel⟩, by decide⟩
theorem d_FR_isOdds_0 : decode b_FR_isOdds 0 = .ok (.iload_n 0, 1) := by decide +kernel
theorem d_FR_isOdds_1 : decode b_FR_isOdds 1 = .ok (.ifCond .lt 13, 3) := by decide +kernel
theorem d_FR_isOdds_4 : decode b_FR_isOdds 4 = .ok (.iload_n 0, 1) := by decide +kernel
theorem d_FR_isOdds_5 : decode b_FR_isOdds 5 = .ok (.bipush 10, 2) := by decide +kernel
theorem d_FR_isOdds_7 : decode b_FR_isOdds 7 = .ok (.if_icmp .gt 7, 3) := by decide +kernel
theorem d_FR_isOdds_10 : decode b_FR_isOdds 10 = .ok (.iconst 1, 1) := by decide +kernel
theorem d_FR_isOdds_11 : decode b_FR_isOdds 11 = .ok (.goto 4, 3) := by decide +kernel
theorem d_FR_isOdds_14 : decode b_FR_isOdds 14 = .ok (.iconst 0, 1) := by decide +kernel
theorem d_FR_isOdds_15 : decode b_FR_isOdds 15 = .ok (.ireturn, 1) := by decide +kernel
def B_FR_isOdds_0 (a0 : Int32) (σ : Sto) : Option (Bool × Sto) :=
  (if a0 < 0 then some (false, σ)
 else (if (10 : Int32) < a0 then some (false, σ)
  else some (true, σ)))
set_option maxHeartbeats 4000000 in
set_option maxRecDepth 100000 in
theorem vB_FR_isOdds_0 {X : Xt} {E : En} (g : GG X E 1 b_FR_isOdds R_FR 1) (a0 : Int32) (σ : Sto) : VV X E b_FR_isOdds 1 eB 0 [(0, .int a0)] [] σ (B_FR_isOdds_0 a0 σ) := by
  unfold B_FR_isOdds_0
  refine v_iload_n 0 g d_FR_isOdds_0 rfl ?_
  refine v_if_lt 14 g d_FR_isOdds_1 (by decide) (fun _ => ?_) (fun _ => ?_)
  · refine v_iconst (v := (0 : Int32)) g d_FR_isOdds_14 (by decide +kernel) ?_
    exact v_ret d_FR_isOdds_15 rfl
  · refine v_iload_n 0 g d_FR_isOdds_4 rfl ?_
    refine v_bipush (v := (10 : Int32)) g d_FR_isOdds_5 (by decide +kernel) ?_
    refine v_icmp_gt 14 g d_FR_isOdds_7 (by decide) (fun _ => ?_) (fun _ => ?_)
    · refine v_iconst (v := (0 : Int32)) g d_FR_isOdds_14 (by decide +kernel) ?_
      exact v_ret d_FR_isOdds_15 rfl
    · refine v_iconst (v := (1 : Int32)) g d_FR_isOdds_10 (by decide +kernel) ?_
      refine v_goto 15 g d_FR_isOdds_11 (by decide) ?_
      exact v_ret d_FR_isOdds_15 rfl
def f_FR_isOdds (a0 : Int32) (σ : Sto) : Option (Bool × Sto) := B_FR_isOdds_0 a0 σ
theorem sp_FR_isOdds {l : Launch} {E : En} (hE : Dj E) {a0 : Int32} {σ : Sto} {r : Bool} {σ' : Sto} (h : f_FR_isOdds a0 σ = some (r, σ')) : Ct l E y_FR_isOdds (wsM y_FR_isOdds b_FR_isOdds 1 (some .boolean)) 1 [.int a0] σ (eB r) σ' :=
  ct_of hE (by decide +kernel) (Nat.le_of_ble_eq_true rfl) (fun b => Or.inr (Or.inl ⟨rfl, b, rfl⟩)) (fun X _ g => vB_FR_isOdds_0 g a0 σ) r σ' h
/-! method FittingRings.commonDivisor(II)I -/
theorem ys_FR_commonDivisor : YS y_FR_commonDivisor b_FR_commonDivisor 6 (some .int) 2 := ⟨m1 973 (by decide +kernel) (by decide +kernel), ini_FR, m1 974 (by decide +kernel) (by decide +kernel), ⟨by decide +kernel, by decide +kernel, by decide +kernel⟩, by decide⟩
theorem d_FR_commonDivisor_0 : decode b_FR_commonDivisor 0 = .ok (.iload_n 0, 1) := by decide +kernel
theorem d_FR_commonDivisor_1 : decode b_FR_commonDivisor 1 = .ok (.istore_n 2, 1) := by decide +kernel
theorem d_FR_commonDivisor_2 : decode b_FR_commonDivisor 2 = .ok (.iload_n 1, 1) := by decide +kernel
theorem d_FR_commonDivisor_3 : decode b_FR_commonDivisor 3 = .ok (.istore_n 3, 1) := by decide +kernel
theorem d_FR_commonDivisor_4 : decode b_FR_commonDivisor 4 = .ok (.iconst 0, 1) := by decide +kernel
theorem d_FR_commonDivisor_5 : decode b_FR_commonDivisor 5 = .ok (.istore 4, 2) := by decide +kernel
theorem d_FR_commonDivisor_7 : decode b_FR_commonDivisor 7 = .ok (.iload 4, 2) := by decide +kernel
theorem d_FR_commonDivisor_9 : decode b_FR_commonDivisor 9 = .ok (.bipush 100, 2) := by decide +kernel
theorem d_FR_commonDivisor_11 : decode b_FR_commonDivisor 11 = .ok (.if_icmp .ge 23, 3) := by decide +kernel
theorem d_FR_commonDivisor_14 : decode b_FR_commonDivisor 14 = .ok (.iload_n 3, 1) := by decide +kernel
theorem d_FR_commonDivisor_15 : decode b_FR_commonDivisor 15 = .ok (.ifCond .eq 19, 3) := by decide +kernel
theorem d_FR_commonDivisor_18 : decode b_FR_commonDivisor 18 = .ok (.iload_n 2, 1) := by decide +kernel
theorem d_FR_commonDivisor_19 : decode b_FR_commonDivisor 19 = .ok (.iload_n 3, 1) := by decide +kernel
theorem d_FR_commonDivisor_20 : decode b_FR_commonDivisor 20 = .ok (.irem, 1) := by decide +kernel
theorem d_FR_commonDivisor_21 : decode b_FR_commonDivisor 21 = .ok (.istore 5, 2) := by decide +kernel
theorem d_FR_commonDivisor_23 : decode b_FR_commonDivisor 23 = .ok (.iload_n 3, 1) := by decide +kernel
theorem d_FR_commonDivisor_24 : decode b_FR_commonDivisor 24 = .ok (.istore_n 2, 1) := by decide +kernel
theorem d_FR_commonDivisor_25 : decode b_FR_commonDivisor 25 = .ok (.iload 5, 2) := by decide +kernel
theorem d_FR_commonDivisor_27 : decode b_FR_commonDivisor 27 = .ok (.istore_n 3, 1) := by decide +kernel
theorem d_FR_commonDivisor_28 : decode b_FR_commonDivisor 28 = .ok (.iinc 4 1, 3) := by decide +kernel
theorem d_FR_commonDivisor_31 : decode b_FR_commonDivisor 31 = .ok (.goto (-24), 3) := by decide +kernel
theorem d_FR_commonDivisor_34 : decode b_FR_commonDivisor 34 = .ok (.iload_n 2, 1) := by decide +kernel
theorem d_FR_commonDivisor_35 : decode b_FR_commonDivisor 35 = .ok (.iconst 1, 1) := by decide +kernel
theorem d_FR_commonDivisor_36 : decode b_FR_commonDivisor 36 = .ok (.invokestatic 399, 3) := by decide +kernel
theorem d_FR_commonDivisor_39 : decode b_FR_commonDivisor 39 = .ok (.ireturn, 1) := by decide +kernel
def B_FR_commonDivisor_7 (k7 : Int32 → Int32 → Int32 → Sto → Option (Int32 × Sto)) (v2 : Int32) (v3 : Int32) (v4 : Int32) (σ : Sto) : Option (Int32 × Sto) :=
  (if (100 : Int32) ≤ v4 then some ((mxI v2 (1 : Int32)), σ)
 else (if v3 = 0 then some ((mxI v2 (1 : Int32)), σ)
  else (if ¬ v3 = 0 then k7 v3 (irm v2 v3) (v4 + (1 : Int32)) σ else none)))
set_option maxHeartbeats 4000000 in
set_option maxRecDepth 100000 in
theorem vB_FR_commonDivisor_7 {X : Xt} {E : En} (g : GG X E 1 b_FR_commonDivisor R_FR 6) {k7 : Int32 → Int32 → Int32 → Sto → Option (Int32 × Sto)} (hk7 : ∀ (v2 : Int32) (v3 : Int32) (v4 : Int32) (σ : Sto), VV X E b_FR_commonDivisor 6 eI 7 [(2, .int v2), (3, .int v3), (4, .int v4)] [] σ (k7 v2 v3 v4 σ)) (v2 : Int32) (v3 : Int32) (v4 : Int32) (σ : Sto) : VV X E b_FR_commonDivisor 6 eI 7 [(2, .int v2), (3, .int v3), (4, .int v4)] [] σ (B_FR_commonDivisor_7 k7 v2 v3 v4 σ) := by
  unfold B_FR_commonDivisor_7
  refine v_iload 2 g d_FR_commonDivisor_7 rfl ?_
  refine v_bipush (v := (100 : Int32)) g d_FR_commonDivisor_9 (by decide +kernel) ?_
  refine v_icmp_ge 34 g d_FR_commonDivisor_11 (by decide) (fun _ => ?_) (fun _ => ?_)
  · refine v_iload_n 0 g d_FR_commonDivisor_34 rfl ?_
    refine v_iconst (v := (1 : Int32)) g d_FR_commonDivisor_35 (by decide +kernel) ?_
    refine v_mmax g (m1 975 (by decide +kernel) (by decide +kernel)) (by decide) (Nat.le_of_ble_eq_true rfl) d_FR_commonDivisor_36 ?_
    exact v_ret d_FR_commonDivisor_39 rfl
  · refine v_iload_n 1 g d_FR_commonDivisor_14 rfl ?_
    refine v_if_eq 34 g d_FR_commonDivisor_15 (by decide) (fun _ => ?_) (fun _ => ?_)
    · refine v_iload_n 0 g d_FR_commonDivisor_34 rfl ?_
      refine v_iconst (v := (1 : Int32)) g d_FR_commonDivisor_35 (by decide +kernel) ?_
      refine v_mmax g (m1 975 (by decide +kernel) (by decide +kernel)) (by decide) (Nat.le_of_ble_eq_true rfl) d_FR_commonDivisor_36 ?_
      exact v_ret d_FR_commonDivisor_39 rfl
    · refine v_iload_n 0 g d_FR_commonDivisor_18 rfl ?_
      refine v_iload_n 1 g d_FR_commonDivisor_19 rfl ?_
      refine v_irem g d_FR_commonDivisor_20 (fun _ => ?_)
      refine v_istore [(5, .int (irm v2 v3)), (2, .int v2), (3, .int v3), (4, .int v4)] g d_FR_commonDivisor_21 (by decide) rfl ?_
      refine v_iload_n 2 g d_FR_commonDivisor_23 rfl ?_
      refine v_istore_n [(2, .int v3), (5, .int (irm v2 v3)), (3, .int v3), (4, .int v4)] g d_FR_commonDivisor_24 (by decide) rfl ?_
      refine v_iload 1 g d_FR_commonDivisor_25 rfl ?_
      refine v_istore_n [(3, .int (irm v2 v3)), (2, .int v3), (5, .int (irm v2 v3)), (4, .int v4)] g d_FR_commonDivisor_27 (by decide) rfl ?_
      refine v_iinc 3 [(4, .int (v4 + (1 : Int32))), (3, .int (irm v2 v3)), (2, .int v3), (5, .int (irm v2 v3))] g d_FR_commonDivisor_28 rfl (v := (1 : Int32)) (by decide +kernel) (by decide) rfl ?_
      refine v_goto 7 g d_FR_commonDivisor_31 (by decide) ?_
      exact v_sub [2,1,0] rfl (hk7 v3 (irm v2 v3) (v4 + (1 : Int32)) σ)
def L_FR_commonDivisor_7 : Nat → Int32 → Int32 → Int32 → Sto → Option (Int32 × Sto)
  | 0, _, _, _, _ => none
  | fu + 1, v2, v3, v4, σ => B_FR_commonDivisor_7 (L_FR_commonDivisor_7 fu) v2 v3 v4 σ
theorem vL_FR_commonDivisor_7 {X : Xt} {E : En} (g : GG X E 1 b_FR_commonDivisor R_FR 6) (fu : Nat) : ∀ (v2 : Int32) (v3 : Int32) (v4 : Int32) (σ : Sto), VV X E b_FR_commonDivisor 6 eI 7 [(2, .int v2), (3, .int v3), (4, .int v4)] [] σ (L_FR_commonDivisor_7 fu v2 v3 v4 σ) := by
  induction fu with
  | zero => intros; exact v_none
  | succ fu ih =>
    intro v2 v3 v4 σ
    exact vB_FR_commonDivisor_7 g ih v2 v3 v4 σ
def B_FR_commonDivisor_0 (a0 : Int32) (a1 : Int32) (σ : Sto) : Option (Int32 × Sto) :=
  L_FR_commonDivisor_7 LF a0 a1 (0 : Int32) σ
set_option maxHeartbeats 4000000 in
set_option maxRecDepth 100000 in
theorem vB_FR_commonDivisor_0 {X : Xt} {E : En} (g : GG X E 1 b_FR_commonDivisor R_FR 6) (a0 : Int32) (a1 : Int32) (σ : Sto) : VV X E b_FR_commonDivisor 6 eI 0 [(0, .int a0), (1, .int a1)] [] σ (B_FR_commonDivisor_0 a0 a1 σ) := by
  unfold B_FR_commonDivisor_0
  refine v_iload_n 0 g d_FR_commonDivisor_0 rfl ?_
  refine v_istore_n [(2, .int a0), (0, .int a0), (1, .int a1)] g d_FR_commonDivisor_1 (by decide) rfl ?_
  refine v_iload_n 2 g d_FR_commonDivisor_2 rfl ?_
  refine v_istore_n [(3, .int a1), (2, .int a0), (0, .int a0), (1, .int a1)] g d_FR_commonDivisor_3 (by decide) rfl ?_
  refine v_iconst (v := (0 : Int32)) g d_FR_commonDivisor_4 (by decide +kernel) ?_
  refine v_istore [(4, .int (0 : Int32)), (3, .int a1), (2, .int a0), (0, .int a0), (1, .int a1)] g d_FR_commonDivisor_5 (by decide) rfl ?_
  exact v_sub [2,1,0] rfl (vL_FR_commonDivisor_7 g LF a0 a1 (0 : Int32) σ)
def f_FR_commonDivisor (a0 : Int32) (a1 : Int32) (σ : Sto) : Option (Int32 × Sto) := B_FR_commonDivisor_0 a0 a1 σ
theorem sp_FR_commonDivisor {l : Launch} {E : En} (hE : Dj E) {a0 : Int32} {a1 : Int32} {σ : Sto} {r : Int32} {σ' : Sto} (h : f_FR_commonDivisor a0 a1 σ = some (r, σ')) : Ct l E y_FR_commonDivisor (wsM y_FR_commonDivisor b_FR_commonDivisor 6 (some .int)) 1 [.int a0, .int a1] σ (eI r) σ' :=
  ct_of hE (by decide +kernel) (Nat.le_of_ble_eq_true rfl) (fun x => Or.inl ⟨rfl, x, rfl⟩) (fun X _ g => vB_FR_commonDivisor_0 g a0 a1 σ) r σ' h
/-! method FittingRings.isHand(I)Z -/
theorem ys_FR_isHand : YS y_FR_isHand b_FR_isHand 1 (some .boolean) 1 := ⟨m1 981 (by decide +kernel) (by decide +kernel), ini_FR, m1 982 (by decide +kernel) (by decide +kernel), ⟨by decide +kernel, by decide +kernel, by decide +kernel⟩, by decide⟩
theorem d_FR_isHand_0 : decode b_FR_isHand 0 = .ok (.iload_n 0, 1) := by decide +kernel
theorem d_FR_isHand_1 : decode b_FR_isHand 1 = .ok (.ifCond .lt 12, 3) := by decide +kernel
theorem d_FR_isHand_4 : decode b_FR_isHand 4 = .ok (.iload_n 0, 1) := by decide +kernel
theorem d_FR_isHand_5 : decode b_FR_isHand 5 = .ok (.iconst 4, 1) := by decide +kernel
theorem d_FR_isHand_6 : decode b_FR_isHand 6 = .ok (.if_icmp .ge 7, 3) := by decide +kernel
theorem d_FR_isHand_9 : decode b_FR_isHand 9 = .ok (.iconst 1, 1) := by decide +kernel
theorem d_FR_isHand_10 : decode b_FR_isHand 10 = .ok (.goto 4, 3) := by decide +kernel
theorem d_FR_isHand_13 : decode b_FR_isHand 13 = .ok (.iconst 0, 1) := by decide +kernel
theorem d_FR_isHand_14 : decode b_FR_isHand 14 = .ok (.ireturn, 1) := by decide +kernel
def B_FR_isHand_0 (a0 : Int32) (σ : Sto) : Option (Bool × Sto) :=
  (if a0 < 0 then some (false, σ)
 else (if (4 : Int32) ≤ a0 then some (false, σ)
  else some (true, σ)))
set_option maxHeartbeats 4000000 in
set_option maxRecDepth 100000 in
theorem vB_FR_isHand_0 {X : Xt} {E : En} (g : GG X E 1 b_FR_isHand R_FR 1) (a0 : Int32) (σ : Sto) : VV X E b_FR_isHand 1 eB 0 [(0, .int a0)] [] σ (B_FR_isHand_0 a0 σ) := by
  unfold B_FR_isHand_0
  refine v_iload_n 0 g d_FR_isHand_0 rfl ?_
  refine v_if_lt 13 g d_FR_isHand_1 (by decide) (fun _ => ?_) (fun _ => ?_)
  · refine v_iconst (v := (0 : Int32)) g d_FR_isHand_13 (by decide +kernel) ?_
    exact v_ret d_FR_isHand_14 rfl
  · refine v_iload_n 0 g d_FR_isHand_4 rfl ?_
    refine v_iconst (v := (4 : Int32)) g d_FR_isHand_5 (by decide +kernel) ?_
    refine v_icmp_ge 13 g d_FR_isHand_6 (by decide) (fun _ => ?_) (fun _ => ?_)
    · refine v_iconst (v := (0 : Int32)) g d_FR_isHand_13 (by decide +kernel) ?_
      exact v_ret d_FR_isHand_14 rfl
    · refine v_iconst (v := (1 : Int32)) g d_FR_isHand_9 (by decide +kernel) ?_
      refine v_goto 14 g d_FR_isHand_10 (by decide) ?_
      exact v_ret d_FR_isHand_14 rfl
def f_FR_isHand (a0 : Int32) (σ : Sto) : Option (Bool × Sto) := B_FR_isHand_0 a0 σ
theorem sp_FR_isHand {l : Launch} {E : En} (hE : Dj E) {a0 : Int32} {σ : Sto} {r : Bool} {σ' : Sto} (h : f_FR_isHand a0 σ = some (r, σ')) : Ct l E y_FR_isHand (wsM y_FR_isHand b_FR_isHand 1 (some .boolean)) 1 [.int a0] σ (eB r) σ' :=
  ct_of hE (by decide +kernel) (Nat.le_of_ble_eq_true rfl) (fun b => Or.inr (Or.inl ⟨rfl, b, rfl⟩)) (fun X _ g => vB_FR_isHand_0 g a0 σ) r σ' h
/-! method FittingRings.isUnder(II)Z -/
theorem ys_FR_isUnder : YS y_FR_isUnder b_FR_isUnder 4 (some .boolean) 2 := ⟨m1 992 (by decide +kernel) (by decide +kernel), ini_FR, m1 993 (by decide +kernel) (by decide +kernel), ⟨by decide +kernel, by decide +kernel, by decide +kernel⟩, by decide⟩
theorem d_FR_isUnder_0 : decode b_FR_isUnder 0 = .ok (.iload_n 0, 1) := by decide +kernel
theorem d_FR_isUnder_1 : decode b_FR_isUnder 1 = .ok (.istore_n 2, 1) := by decide +kernel
theorem d_FR_isUnder_2 : decode b_FR_isUnder 2 = .ok (.iconst 0, 1) := by decide +kernel
theorem d_FR_isUnder_3 : decode b_FR_isUnder 3 = .ok (.istore_n 3, 1) := by decide +kernel
theorem d_FR_isUnder_4 : decode b_FR_isUnder 4 = .ok (.iload_n 3, 1) := by decide +kernel
theorem d_FR_isUnder_5 : decode b_FR_isUnder 5 = .ok (.bipush 6, 2) := by decide +kernel
theorem d_FR_isUnder_7 : decode b_FR_isUnder 7 = .ok (.if_icmp .ge 29, 3) := by decide +kernel
theorem d_FR_isUnder_10 : decode b_FR_isUnder 10 = .ok (.iload_n 2, 1) := by decide +kernel
theorem d_FR_isUnder_11 : decode b_FR_isUnder 11 = .ok (.invokestatic 79, 3) := by decide +kernel
theorem d_FR_isUnder_14 : decode b_FR_isUnder 14 = .ok (.ifCond .eq 22, 3) := by decide +kernel
theorem d_FR_isUnder_17 : decode b_FR_isUnder 17 = .ok (.iload_n 2, 1) := by decide +kernel
theorem d_FR_isUnder_18 : decode b_FR_isUnder 18 = .ok (.iload_n 1, 1) := by decide +kernel
theorem d_FR_isUnder_19 : decode b_FR_isUnder 19 = .ok (.if_icmp .ne 5, 3) := by decide +kernel
theorem d_FR_isUnder_22 : decode b_FR_isUnder 22 = .ok (.iconst 1, 1) := by decide +kernel
theorem d_FR_isUnder_23 : decode b_FR_isUnder 23 = .ok (.ireturn, 1) := by decide +kernel
theorem d_FR_isUnder_24 : decode b_FR_isUnder 24 = .ok (.getstatic 396, 3) := by decide +kernel
theorem d_FR_isUnder_27 : decode b_FR_isUnder 27 = .ok (.iload_n 2, 1) := by decide +kernel
theorem d_FR_isUnder_28 : decode b_FR_isUnder 28 = .ok (.iaload, 1) := by decide +kernel
theorem d_FR_isUnder_29 : decode b_FR_isUnder 29 = .ok (.istore_n 2, 1) := by decide +kernel
theorem d_FR_isUnder_30 : decode b_FR_isUnder 30 = .ok (.iinc 3 1, 3) := by decide +kernel
theorem d_FR_isUnder_33 : decode b_FR_isUnder 33 = .ok (.goto (-29), 3) := by decide +kernel
theorem d_FR_isUnder_36 : decode b_FR_isUnder 36 = .ok (.iconst 0, 1) := by decide +kernel
theorem d_FR_isUnder_37 : decode b_FR_isUnder 37 = .ok (.ireturn, 1) := by decide +kernel
def B_FR_isUnder_4 (k4 : Int32 → Int32 → Int32 → Sto → Option (Bool × Sto)) (v1 : Int32) (v2 : Int32) (v3 : Int32) (σ : Sto) : Option (Bool × Sto) :=
  (if (6 : Int32) ≤ v3 then some (false, σ)
 else ((f_FR_isKind v2 σ).bind fun q1 => (if (b2i q1.1) = 0 then some (false, q1.2)
  else (if v2 = v1 then some (true, q1.2)
   else (if inb v2 6 = true then (lt1 (kabL.getD (Int32.toNatClampNeg v2) 0) fun x2 => k4 v1 x2 (v3 + (1 : Int32)) q1.2) else none)))))
set_option maxHeartbeats 4000000 in
set_option maxRecDepth 100000 in
theorem vB_FR_isUnder_4 {X : Xt} {E : En} (g : GG X E 2 b_FR_isUnder R_FR 4) {k4 : Int32 → Int32 → Int32 → Sto → Option (Bool × Sto)} (hk4 : ∀ (v1 : Int32) (v2 : Int32) (v3 : Int32) (σ : Sto), VV X E b_FR_isUnder 4 eB 4 [(1, .int v1), (2, .int v2), (3, .int v3)] [] σ (k4 v1 v2 v3 σ)) (v1 : Int32) (v2 : Int32) (v3 : Int32) (σ : Sto) : VV X E b_FR_isUnder 4 eB 4 [(1, .int v1), (2, .int v2), (3, .int v3)] [] σ (B_FR_isUnder_4 k4 v1 v2 v3 σ) := by
  unfold B_FR_isUnder_4
  refine v_iload_n 2 g d_FR_isUnder_4 rfl ?_
  refine v_bipush (v := (6 : Int32)) g d_FR_isUnder_5 (by decide +kernel) ?_
  refine v_icmp_ge 36 g d_FR_isUnder_7 (by decide) (fun _ => ?_) (fun _ => ?_)
  · refine v_iconst (v := (0 : Int32)) g d_FR_isUnder_36 (by decide +kernel) ?_
    exact v_ret d_FR_isUnder_37 rfl
  · refine v_iload_n 1 g d_FR_isUnder_10 rfl ?_
    refine v_callB (r_S (rest := []) [.int v2] g (m1 368 (by decide +kernel) (by decide +kernel)) ys_FR_isKind (fun r σ1 h => sp_FR_isKind g.2.2.1  h) rfl rfl (by decide) (Nat.le_of_ble_eq_true rfl) d_FR_isUnder_11) (fun q1 => ?_)
    refine v_if_eq 36 g d_FR_isUnder_14 (by decide) (fun _ => ?_) (fun _ => ?_)
    · refine v_iconst (v := (0 : Int32)) g d_FR_isUnder_36 (by decide +kernel) ?_
      exact v_ret d_FR_isUnder_37 rfl
    · refine v_iload_n 1 g d_FR_isUnder_17 rfl ?_
      refine v_iload_n 0 g d_FR_isUnder_18 rfl ?_
      refine v_icmp_ne 24 g d_FR_isUnder_19 (by decide) (fun _ => ?_) (fun _ => ?_)
      · refine v_getKab g (m1 994 (by decide +kernel) (by decide +kernel)) d_FR_isUnder_24 ?_
        refine v_iload_n 1 g d_FR_isUnder_27 rfl ?_
        refine v_kab g d_FR_isUnder_28 (fun _ => ?_)
        refine v_nlet (fun x2 ex2 => ?_)
        rw [← ex2]
        refine v_istore_n [(2, .int x2), (1, .int v1), (3, .int v3)] g d_FR_isUnder_29 (by decide) rfl ?_
        refine v_iinc 2 [(3, .int (v3 + (1 : Int32))), (2, .int x2), (1, .int v1)] g d_FR_isUnder_30 rfl (v := (1 : Int32)) (by decide +kernel) (by decide) rfl ?_
        refine v_goto 4 g d_FR_isUnder_33 (by decide) ?_
        exact v_sub [2,1,0] rfl (hk4 v1 x2 (v3 + (1 : Int32)) q1.2)
      · refine v_iconst (v := (1 : Int32)) g d_FR_isUnder_22 (by decide +kernel) ?_
        exact v_ret d_FR_isUnder_23 rfl
def L_FR_isUnder_4 : Nat → Int32 → Int32 → Int32 → Sto → Option (Bool × Sto)
  | 0, _, _, _, _ => none
  | fu + 1, v1, v2, v3, σ => B_FR_isUnder_4 (L_FR_isUnder_4 fu) v1 v2 v3 σ
theorem vL_FR_isUnder_4 {X : Xt} {E : En} (g : GG X E 2 b_FR_isUnder R_FR 4) (fu : Nat) : ∀ (v1 : Int32) (v2 : Int32) (v3 : Int32) (σ : Sto), VV X E b_FR_isUnder 4 eB 4 [(1, .int v1), (2, .int v2), (3, .int v3)] [] σ (L_FR_isUnder_4 fu v1 v2 v3 σ) := by
  induction fu with
  | zero => intros; exact v_none
  | succ fu ih =>
    intro v1 v2 v3 σ
    exact vB_FR_isUnder_4 g ih v1 v2 v3 σ
def B_FR_isUnder_0 (a0 : Int32) (a1 : Int32) (σ : Sto) : Option (Bool × Sto) :=
  L_FR_isUnder_4 LF a1 a0 (0 : Int32) σ
set_option maxHeartbeats 4000000 in
set_option maxRecDepth 100000 in
theorem vB_FR_isUnder_0 {X : Xt} {E : En} (g : GG X E 2 b_FR_isUnder R_FR 4) (a0 : Int32) (a1 : Int32) (σ : Sto) : VV X E b_FR_isUnder 4 eB 0 [(0, .int a0), (1, .int a1)] [] σ (B_FR_isUnder_0 a0 a1 σ) := by
  unfold B_FR_isUnder_0
  refine v_iload_n 0 g d_FR_isUnder_0 rfl ?_
  refine v_istore_n [(2, .int a0), (0, .int a0), (1, .int a1)] g d_FR_isUnder_1 (by decide) rfl ?_
  refine v_iconst (v := (0 : Int32)) g d_FR_isUnder_2 (by decide +kernel) ?_
  refine v_istore_n [(3, .int (0 : Int32)), (2, .int a0), (0, .int a0), (1, .int a1)] g d_FR_isUnder_3 (by decide) rfl ?_
  exact v_sub [3,1,0] rfl (vL_FR_isUnder_4 g LF a1 a0 (0 : Int32) σ)
def f_FR_isUnder (a0 : Int32) (a1 : Int32) (σ : Sto) : Option (Bool × Sto) := B_FR_isUnder_0 a0 a1 σ
theorem sp_FR_isUnder {l : Launch} {E : En} (hE : Dj E) {a0 : Int32} {a1 : Int32} {σ : Sto} {r : Bool} {σ' : Sto} (h : f_FR_isUnder a0 a1 σ = some (r, σ')) : Ct l E y_FR_isUnder (wsM y_FR_isUnder b_FR_isUnder 4 (some .boolean)) 2 [.int a0, .int a1] σ (eB r) σ' :=
  ct_of hE (by decide +kernel) (Nat.le_of_ble_eq_true rfl) (fun b => Or.inr (Or.inl ⟨rfl, b, rfl⟩)) (fun X _ g => vB_FR_isUnder_0 g a0 a1 σ) r σ' h
