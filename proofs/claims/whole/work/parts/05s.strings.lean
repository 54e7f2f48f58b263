/-! String.length and String.charAt of the constants -/
def y_JPre_checkIndex : MethodName := ⟨R_JPre, "checkIndex", "(IILjava/util/function/BiFunction;)I"⟩
abbrev b_JPre_checkIndex : ByteArray := prog_20_method_11_code
theorem d_JString_length_0 : decode b_JString_length 0 = .ok (.aload_n 0, 1) := by decide +kernel
theorem d_JString_length_1 : decode b_JString_length 1 = .ok (.getfield 9, 3) := by decide +kernel
theorem d_JString_length_4 : decode b_JString_length 4 = .ok (.arraylength, 1) := by decide +kernel
theorem d_JString_length_5 : decode b_JString_length 5 = .ok (.aload_n 0, 1) := by decide +kernel
theorem d_JString_length_6 : decode b_JString_length 6 = .ok (.invokevirtual 335, 3) := by decide +kernel
theorem d_JString_length_9 : decode b_JString_length 9 = .ok (.ishr, 1) := by decide +kernel
theorem d_JString_length_10 : decode b_JString_length 10 = .ok (.ireturn, 1) := by decide +kernel
theorem d_JString_charAt_0 : decode b_JString_charAt 0 = .ok (.aload_n 0, 1) := by decide +kernel
theorem d_JString_charAt_1 : decode b_JString_charAt 1 = .ok (.invokevirtual 492, 3) := by decide +kernel
theorem d_JString_charAt_4 : decode b_JString_charAt 4 = .ok (.ifCond .eq 12, 3) := by decide +kernel
theorem d_JString_charAt_7 : decode b_JString_charAt 7 = .ok (.aload_n 0, 1) := by decide +kernel
theorem d_JString_charAt_8 : decode b_JString_charAt 8 = .ok (.getfield 9, 3) := by decide +kernel
theorem d_JString_charAt_11 : decode b_JString_charAt 11 = .ok (.iload_n 1, 1) := by decide +kernel
theorem d_JString_charAt_12 : decode b_JString_charAt 12 = .ok (.invokestatic 495, 3) := by decide +kernel
theorem d_JString_charAt_15 : decode b_JString_charAt 15 = .ok (.ireturn, 1) := by decide +kernel
theorem d_JString_coder_0 : decode b_JString_coder 0 = .ok (.getstatic 38, 3) := by decide +kernel
theorem d_JString_coder_3 : decode b_JString_coder 3 = .ok (.ifCond .eq 10, 3) := by decide +kernel
theorem d_JString_coder_6 : decode b_JString_coder 6 = .ok (.aload_n 0, 1) := by decide +kernel
theorem d_JString_coder_7 : decode b_JString_coder 7 = .ok (.getfield 15, 3) := by decide +kernel
theorem d_JString_coder_10 : decode b_JString_coder 10 = .ok (.goto 4, 3) := by decide +kernel
theorem d_JString_coder_14 : decode b_JString_coder 14 = .ok (.ireturn, 1) := by decide +kernel
theorem d_JString_isLatin1_0 : decode b_JString_isLatin1 0 = .ok (.getstatic 38, 3) := by decide +kernel
theorem d_JString_isLatin1_3 : decode b_JString_isLatin1 3 = .ok (.ifCond .eq 14, 3) := by decide +kernel
theorem d_JString_isLatin1_6 : decode b_JString_isLatin1 6 = .ok (.aload_n 0, 1) := by decide +kernel
theorem d_JString_isLatin1_7 : decode b_JString_isLatin1 7 = .ok (.getfield 15, 3) := by decide +kernel
theorem d_JString_isLatin1_10 : decode b_JString_isLatin1 10 = .ok (.ifCond .ne 7, 3) := by decide +kernel
theorem d_JString_isLatin1_13 : decode b_JString_isLatin1 13 = .ok (.iconst 1, 1) := by decide +kernel
theorem d_JString_isLatin1_14 : decode b_JString_isLatin1 14 = .ok (.goto 4, 3) := by decide +kernel
theorem d_JString_isLatin1_18 : decode b_JString_isLatin1 18 = .ok (.ireturn, 1) := by decide +kernel
theorem d_JString_checkIndex_0 : decode b_JString_checkIndex 0 = .ok (.iload_n 0, 1) := by decide +kernel
theorem d_JString_checkIndex_1 : decode b_JString_checkIndex 1 = .ok (.iload_n 1, 1) := by decide +kernel
theorem d_JString_checkIndex_2 : decode b_JString_checkIndex 2 = .ok (.getstatic 1053, 3) := by decide +kernel
theorem d_JString_checkIndex_5 : decode b_JString_checkIndex 5 = .ok (.invokestatic 1059, 3) := by decide +kernel
theorem d_JString_checkIndex_8 : decode b_JString_checkIndex 8 = .ok (.pop, 1) := by decide +kernel
theorem d_JString_checkIndex_9 : decode b_JString_checkIndex 9 = .ok (.return_, 1) := by decide +kernel
theorem d_JLatin_charAt_0 : decode b_JLatin_charAt 0 = .ok (.iload_n 1, 1) := by decide +kernel
theorem d_JLatin_charAt_1 : decode b_JLatin_charAt 1 = .ok (.aload_n 0, 1) := by decide +kernel
theorem d_JLatin_charAt_2 : decode b_JLatin_charAt 2 = .ok (.arraylength, 1) := by decide +kernel
theorem d_JLatin_charAt_3 : decode b_JLatin_charAt 3 = .ok (.invokestatic 9, 3) := by decide +kernel
theorem d_JLatin_charAt_6 : decode b_JLatin_charAt 6 = .ok (.aload_n 0, 1) := by decide +kernel
theorem d_JLatin_charAt_7 : decode b_JLatin_charAt 7 = .ok (.iload_n 1, 1) := by decide +kernel
theorem d_JLatin_charAt_8 : decode b_JLatin_charAt 8 = .ok (.baload, 1) := by decide +kernel
theorem d_JLatin_charAt_9 : decode b_JLatin_charAt 9 = .ok (.sipush 255, 3) := by decide +kernel
theorem d_JLatin_charAt_12 : decode b_JLatin_charAt 12 = .ok (.iand, 1) := by decide +kernel
theorem d_JLatin_charAt_13 : decode b_JLatin_charAt 13 = .ok (.i2c, 1) := by decide +kernel
theorem d_JLatin_charAt_14 : decode b_JLatin_charAt 14 = .ok (.ireturn, 1) := by decide +kernel
theorem d_JPre_checkIndex_0 : decode b_JPre_checkIndex 0 = .ok (.iload_n 0, 1) := by decide +kernel
theorem d_JPre_checkIndex_1 : decode b_JPre_checkIndex 1 = .ok (.ifCond .lt 8, 3) := by decide +kernel
theorem d_JPre_checkIndex_4 : decode b_JPre_checkIndex 4 = .ok (.iload_n 0, 1) := by decide +kernel
theorem d_JPre_checkIndex_5 : decode b_JPre_checkIndex 5 = .ok (.iload_n 1, 1) := by decide +kernel
theorem d_JPre_checkIndex_6 : decode b_JPre_checkIndex 6 = .ok (.if_icmp .lt 10, 3) := by decide +kernel
theorem d_JPre_checkIndex_16 : decode b_JPre_checkIndex 16 = .ok (.iload_n 0, 1) := by decide +kernel
theorem d_JPre_checkIndex_17 : decode b_JPre_checkIndex 17 = .ok (.ireturn, 1) := by decide +kernel
theorem ys_JString_checkIndex : YS y_JString_checkIndex b_JString_checkIndex 2 (none) 2 := ⟨m1 892 (by decide +kernel) (by decide +kernel), ini_JString, m1 893 (by decide +kernel) (by decide +kernel), ⟨by decide +kernel, by decide +kernel, by decide +kernel⟩, by decide⟩
theorem ys_JLatin_charAt : YS y_JLatin_charAt b_JLatin_charAt 2 (some .char) 2 := ⟨m1 889 (by decide +kernel) (by decide +kernel), ini_JLatin, m1 890 (by decide +kernel) (by decide +kernel), ⟨by decide +kernel, by decide +kernel, by decide +kernel⟩, by decide⟩
theorem ys_JPre_checkIndex : YS y_JPre_checkIndex b_JPre_checkIndex 3 (some .int) 3 := ⟨m1 897 (by decide +kernel) (by decide +kernel), ini_JPre, m1 898 (by decide +kernel) (by decide +kernel), ⟨by decide +kernel, by decide +kernel, by decide +kernel⟩, by decide⟩
def YT (y : MethodName) (bytes : ByteArray) (maxL : Nat) (ret : Option FieldType) (n : Nat) : Prop :=
  Cond.instanceMethod y ∈ lw_gd ∧ Cond.selects "java/lang/String" y y ∈ lw_gd ∧ Cond.initialized y.cls ∈ lw_gd ∧ Cond.code y bytes maxL ret ∈ lw_gd ∧ (y.cls ≠ "java/lang/invoke/MethodHandle" ∧ y.cls ≠ "java/lang/invoke/VarHandle" ∧ (parseMethodDescriptor y.desc).map (fun d => d.parameters.length) = some n) ∧ maxL ≤ 45
theorem yt_JString_length : YT y_JString_length b_JString_length 1 (some .int) 0 := ⟨m1 871 (by decide +kernel) (by decide +kernel), m1 872 (by decide +kernel) (by decide +kernel), ini_JString, m1 873 (by decide +kernel) (by decide +kernel), ⟨by decide +kernel, by decide +kernel, by decide +kernel⟩, by decide⟩
theorem yt_JString_charAt : YT y_JString_charAt b_JString_charAt 2 (some .char) 1 := ⟨m1 881 (by decide +kernel) (by decide +kernel), m1 882 (by decide +kernel) (by decide +kernel), ini_JString, m1 883 (by decide +kernel) (by decide +kernel), ⟨by decide +kernel, by decide +kernel, by decide +kernel⟩, by decide⟩
theorem yt_JString_coder : YT y_JString_coder b_JString_coder 1 (some .byte) 0 := ⟨m1 875 (by decide +kernel) (by decide +kernel), m1 876 (by decide +kernel) (by decide +kernel), ini_JString, m1 877 (by decide +kernel) (by decide +kernel), ⟨by decide +kernel, by decide +kernel, by decide +kernel⟩, by decide⟩
theorem yt_JString_isLatin1 : YT y_JString_isLatin1 b_JString_isLatin1 1 (some .boolean) 0 := ⟨m1 885 (by decide +kernel) (by decide +kernel), m1 886 (by decide +kernel) (by decide +kernel), ini_JString, m1 887 (by decide +kernel) (by decide +kernel), ⟨by decide +kernel, by decide +kernel, by decide +kernel⟩, by decide⟩
section Str
variable {X : Xt} {E : En} {hh nL pc : Nat} {cc : ByteArray} {own : String} {R R1 : Type} {emb : R → Option Value} {emb1 : R1 → Option Value} {lv lv' : List (Nat × Value)} {st rest st0 : List Value} {σ : Sto} {T : Option (R × Sto)} {f : Option (R1 × Sto)}
theorem ct_ofN {l : Launch} {E : En} {y : MethodName} {bytes : ByteArray} {maxL d : Nat} {ty : FieldType} {As : List Value} {σ : Sto} {R : Type} {emb : R → Option Value} {f : Option (R × Sto)} (hE : Dj E) (hy : plainName y.cls = true) (hA : (lg_sl As).length ≤ maxL) (hro : ∀ r : R, ∃ x, emb r = some (.int x) ∧ narrow ty (.int x) = .int x)
    (hv : ∀ X : Xt, x_l X = l → GG X E d bytes y.cls maxL → VV X E bytes maxL emb 0 (lv_args 0 As) [] σ f) : ∀ (r : R) (σ' : Sto), f = some (r, σ') → Ct l E y (wsM y bytes maxL (some ty)) d As σ (emb r) σ' := by
  intro r σ' hf
  refine Met.ofW (cc := bytes) (maxL := maxL) (ret := some ty) hy rfl ?_
  intro p e s m args below meth c s₁ B hml hpre
  obtain ⟨rfl, hK, hP⟩ := hpre
  have hx := B.exec
  have hb := B.bytes
  have hr := B.returns
  have hts := atoms_spec (ws := wsM y bytes maxL (some ty)) B.pre
  have hown : s.vm.findClass y.cls = some m.cls := findClass_of_methodNamed B.named
  have hlocks := B.notSynchronized
  have hl := lv_entry As hA
  rw [lg_entry_eq]
  generalize (lg_sl As ++ List.replicate (maxL - (lg_sl As).length) Slot.unset).toArray = ls at hl ⊢
  have key := hv (p, l, e, (headSpec (wsM y bytes maxL (some ty)) (rmD d)).room, s, m, As.toArray, below, meth, c, 0, 0, MQ below (QcE E (emb r) σ') As.toArray s 0 0 (AA E)) rfl ⟨⟨hx, hb, hml, hown, fun w hw => hts w (List.mem_cons_of_mem _ hw)⟩, hK, hE, Nat.le_refl _, Nat.le_refl _, Nat.zero_le _, Nat.zero_le _⟩ r σ' hf ?_ s.heap [] ls hP va_S.rf hl
  · exact key
  · intro H locs ls pc hP' hS' hd
    have hQ : ∀ t : State, t.heap = H → s.WarmedH t.vm → QcE E (emb r) σ' As.toArray s (.returned (emb r)) t := fun t ht _ => ⟨⟨rfl, by rw [ht]; exact hP'⟩, hS'.F ht⟩
    obtain ⟨x, e2, hn⟩ := hro r
    rw [e2] at hd hQ ⊢
    exact W.zret hx hb hr hn hQ hS'.2.2 hd hlocks
theorem r_VT {y : MethodName} {bytes : ByteArray} {maxL n hc idx i : Nat} {ret : Option FieldType} (As : List Value) (g : GG X E hh cc own nL) (hlk : Cond.methodLink own idx y ∈ lw_gd) (hy : YT y bytes maxL ret n) (hi : i < 11) (hm : ∀ (r : R1) (σ1 : Sto), f = some (r, σ1) → Ct (x_l X) E y (wsM y bytes maxL ret) hc (.ref (E.2.1 (1000 + i)) :: As) σ (emb1 r) σ1) (hst : As.reverse ++ .ref (E.2.1 (1000 + i)) :: rest = st0) (hn : As.length = n) (hd : hc + 1 ≤ hh) (hw : (rest.map fun v => v.category).sum ≤ 8) (d : decode cc pc = .ok (.invokevirtual idx, 3)) : Ru X E nL pc lv st0 rest σ emb1 f := by
  obtain ⟨h1, h1b, h2, h3, h4, h5⟩ := hy
  obtain ⟨C0, hK, hDj, hf, hlo, hce, hsl⟩ := id g
  subst hst
  intro r σ1 hfr H locs ls hP hS hl
  have hrc := vk_recv hK.2.2.1.2.2.2.2 hi hS
  refine ⟨(Value.ref (E.2.1 (1000 + i)) :: As).toArray, va_runV (C := "java/lang/String") (b := E.2.1 (1000 + i)) (As := As) (rest := rest) C0 (hm r σ1 hfr) ⟨callB_of n C0.2.2.2.2 (good_M h3) rfl rfl rfl (C0.2.2.2.2 _ h2) (C0.2.2.2.2 _ hlk) h4 ⟨by show hc + 1 ≤ _; omega, by show 8 + (maxL + 11) + 64 * hc ≤ _; omega⟩, C0.2.2.2.2 _ h1, C0.2.2.2.2 _ h1b⟩ ⟨PreE.blind, hrc, (pre_S g hP hS).2⟩ rfl hn hl.1 rfl (lv_room hw) d ⟨by omega, by omega⟩⟩
theorem v_compact {idx : Nat} (g : GG X E hh cc R_JString nL) (hlk : Cond.fieldLink R_JString idx "java/lang/String" "COMPACT_STRINGS" "Z" ∈ lw_gd) (d : decode cc pc = .ok (.getstatic idx, 3)) (kk : VV X E cc nL emb (pc + 3) lv (.int 1 :: st) σ T) : VV X E cc nL emb pc lv st σ T := by
  intro r σ' hT hF H locs ls hP hS hl
  exact va_gets g.1.1 g.1.2.1 g.2.1.2.2.1.2.2.1 hS g.1.2.2.2.1 (g.1.2.2.2.2 _ hlk) (fun _ h => h) d (kk r σ' hT hF H locs ls hP hS hl)
theorem v_sioobe {idx : Nat} (g : GG X E hh cc R_JString nL) (hlk : Cond.fieldLink R_JString idx "jdk/internal/util/Preconditions" "SIOOBE_FORMATTER" "Ljava/util/function/BiFunction;" ∈ lw_gd) (d : decode cc pc = .ok (.getstatic idx, 3)) (kk : ∀ v : Value, (v = .null ∨ ∃ t, v = .ref t) → VV X E cc nL emb (pc + 3) lv (v :: st) σ T) : VV X E cc nL emb pc lv st σ T := by
  intro r σ' hT hF H locs ls hP hS hl
  rcases g.2.1.2.2.1.2.2.2.1 with h | ⟨t, h⟩
  · exact va_gets g.1.1 g.1.2.1 h hS g.1.2.2.2.1 (g.1.2.2.2.2 _ hlk) (fun _ h => h) d (kk _ (Or.inl rfl) r σ' hT hF H locs ls hP hS hl)
  · exact va_gets g.1.1 g.1.2.1 h hS g.1.2.2.2.1 (g.1.2.2.2.2 _ hlk) (fun _ h => h) d (kk _ (Or.inr ⟨t, rfl⟩) r σ' hT hF H locs ls hP hS hl)
theorem v_coder {idx i : Nat} (g : GG X E hh cc R_JString nL) (hi : i < 11) (hlk : Cond.fieldLink R_JString idx "java/lang/String" "coder" "B" ∈ lw_gd) (d : decode cc pc = .ok (.getfield idx, 3)) (kk : VV X E cc nL emb (pc + 3) lv (.int 0 :: st) σ T) : VV X E cc nL emb pc lv (.ref (E.2.1 (1000 + i)) :: st) σ T := by
  intro r σ' hT hF H locs ls hP hS hl
  exact vk_getf g.1.1 g.1.2.1 (g.2.1.2.2.1.2.2.2.2.1 i hi).2.1 hS g.1.2.2.2.1 (g.1.2.2.2.2 _ hlk) (fun _ h => h) d (kk r σ' hT hF H locs ls hP hS hl)
theorem v_value {idx i : Nat} (g : GG X E hh cc R_JString nL) (hi : i < 11) (hlk : Cond.fieldLink R_JString idx "java/lang/String" "value" "[B" ∈ lw_gd) (d : decode cc pc = .ok (.getfield idx, 3)) (kk : VV X E cc nL emb (pc + 3) lv (.ref (E.2.1 (1100 + i)) :: st) σ T) : VV X E cc nL emb pc lv (.ref (E.2.1 (1000 + i)) :: st) σ T := by
  intro r σ' hT hF H locs ls hP hS hl
  exact vk_getf g.1.1 g.1.2.1 (g.2.1.2.2.1.2.2.2.2.1 i hi).2.2.1 hS g.1.2.2.2.1 (g.1.2.2.2.2 _ hlk) (fun _ h => h) d (kk r σ' hT hF H locs ls hP hS hl)
theorem v_slenB {i : Nat} (g : GG X E hh cc own nL) (hi : i < 11) (d : decode cc pc = .ok (.arraylength, 1)) (kk : VV X E cc nL emb (pc + 1) lv (.int (Int32.ofNat (lenS.getD i 0)) :: st) σ T) : VV X E cc nL emb pc lv (.ref (E.2.1 (1100 + i)) :: st) σ T := by
  intro r σ' hT hF H locs ls hP hS hl
  exact va_tlen g.1.1 g.1.2.1 (g.2.1.2.2.1.2.2.2.2.1 i hi).2.2.2 hS rfl d (kk r σ' hT hF H locs ls hP hS hl)
theorem v_saldB {i : Nat} {j : Int32} (g : GG X E hh cc own nL) (hi : i < 11) (hj : inb j (lenS.getD i 0) = true) (d : decode cc pc = .ok (.baload, 1)) (kk : VV X E cc nL emb (pc + 1) lv (.int ((bytS.getD i []).getD j.toNatClampNeg 0) :: st) σ T) : VV X E cc nL emb pc lv (.int j :: .ref (E.2.1 (1100 + i)) :: st) σ T := by
  intro r σ' hT hF H locs ls hP hS hl
  exact va_tb g.1.1 g.1.2.1 (g.2.1.2.2.1.2.2.2.2.1 i hi).2.2.2 hS (inb_in hj) rfl d (kk r σ' hT hF H locs ls hP hS hl)
end Str
/-- Preconditions.checkIndex, an index within -/
theorem ct_pre {l : Launch} {E : En} (hE : Dj E) {i n : Int32} {v : Value} {σ : Sto} (hv : v = .null ∨ ∃ t, v = .ref t) (h0 : 0 ≤ i) (h1 : i < n) : Ct l E y_JPre_checkIndex (wsM y_JPre_checkIndex b_JPre_checkIndex 3 (some .int)) 1 [.int i, .int n, v] σ (some (.int i)) σ := by
  refine ct_of (R := Unit) (emb := fun _ => some (.int i)) (f := some ((), σ)) hE (by decide +kernel) (by rcases hv with rfl | ⟨t, rfl⟩ <;> exact Nat.le_of_ble_eq_true rfl) (fun _ => Or.inl ⟨rfl, i, rfl⟩) (fun X _ g => ?_) () σ rfl
  have hlv : lv_args 0 [.int i, .int n, v] = [(0, .int i), (1, .int n), (2, v)] := rfl
  rw [hlv]
  refine v_iload_n 0 g d_JPre_checkIndex_0 rfl ?_
  refine v_eq (T1 := if i < 0 then none else some ((), σ)) (by rw [if_neg (Int32.not_lt.mpr h0)]) ?_
  refine v_if_lt 9 g d_JPre_checkIndex_1 (by decide) (fun _ => v_none) (fun _ => ?_)
  refine v_iload_n 0 g d_JPre_checkIndex_4 rfl ?_
  refine v_iload_n 1 g d_JPre_checkIndex_5 rfl ?_
  refine v_eq (T1 := if i < n then some ((), σ) else none) (by rw [if_pos h1]) ?_
  refine v_icmp_lt 16 g d_JPre_checkIndex_6 (by decide) (fun _ => ?_) (fun _ => v_none)
  refine v_iload_n 0 g d_JPre_checkIndex_16 rfl ?_
  exact v_ret d_JPre_checkIndex_17 rfl
/-- String.checkIndex -/
theorem ct_chk {l : Launch} {E : En} (hE : Dj E) {i n : Int32} {σ : Sto} (h0 : 0 ≤ i) (h1 : i < n) : Ct l E y_JString_checkIndex (wsM y_JString_checkIndex b_JString_checkIndex 2 none) 2 [.int i, .int n] σ none σ := by
  refine ct_of (R := Unit) (emb := eU) (f := some ((), σ)) hE (by decide +kernel) (Nat.le_of_ble_eq_true rfl) (fun _ => Or.inr (Or.inr (Or.inr (Or.inl ⟨rfl, rfl⟩)))) (fun X _ g => ?_) () σ rfl
  have hlv : lv_args 0 [.int i, .int n] = [(0, .int i), (1, .int n)] := rfl
  rw [hlv]
  refine v_iload_n 0 g d_JString_checkIndex_0 rfl ?_
  refine v_iload_n 1 g d_JString_checkIndex_1 rfl ?_
  refine v_sioobe g (m1 894 (by decide +kernel) (by decide +kernel)) d_JString_checkIndex_2 (fun v hv => ?_)
  refine v_eq (T1 := (some (i, σ) : Option (Int32 × Sto)).bind fun q => some ((), q.2)) rfl ?_
  refine v_callI (r_S (rest := []) [.int i, .int n, v] g (m1 896 (by decide +kernel) (by decide +kernel)) ys_JPre_checkIndex (fun r σ1 h => by cases h; exact ct_pre g.2.2.1 hv h0 h1) rfl rfl (by decide) (Nat.le_of_ble_eq_true rfl) d_JString_checkIndex_5) (fun q => ?_)
  refine v_pop g d_JString_checkIndex_8 rfl ?_
  exact v_ret d_JString_checkIndex_9 rfl
theorem len_pos_lt : ∀ i, i < 11 → (Int32.ofNat (lenS.getD i 0)).toInt = (lenS.getD i 0 : Nat) := by decide +kernel
theorem inb_chk {i : Nat} {j : Int32} (hi : i < 11) (hj : inb j (lenS.getD i 0) = true) : 0 ≤ j ∧ j < Int32.ofNat (lenS.getD i 0) := by
  simp only [inb, Bool.and_eq_true, decide_eq_true_eq] at hj
  refine ⟨hj.1, ?_⟩
  rw [Int32.lt_iff_toInt_lt, len_pos_lt i hi]
  have h0 := hj.1
  rw [Int32.le_iff_toInt_le] at h0
  have h2 := hj.2
  simp only [Int32.toNatClampNeg] at h2
  simp at h0
  omega
theorem bytes_small : ∀ i, i < 11 → ∀ j, j < 5 → narrow .char (.int (i2c ((bytS.getD i []).getD j 0 &&& 255))) = .int (i2c ((bytS.getD i []).getD j 0 &&& 255)) ∧ i2c ((bytS.getD i []).getD j 0 &&& 255) = (bytS.getD i []).getD j 0 := by decide +kernel
theorem inb_lt {j : Int32} {n : Nat} (hj : inb j n = true) : j.toNatClampNeg < n := by
  simp only [inb, Bool.and_eq_true, decide_eq_true_eq] at hj
  exact hj.2
theorem len_le5 : ∀ i, i < 11 → lenS.getD i 0 ≤ 5 := by decide +kernel
/-- StringLatin1.charAt -/
theorem ct_lat {l : Launch} {E : En} (hE : Dj E) {i : Nat} {j : Int32} {σ : Sto} (hi : i < 11) (hj : inb j (lenS.getD i 0) = true) : Ct l E y_JLatin_charAt (wsM y_JLatin_charAt b_JLatin_charAt 2 (some .char)) 3 [.ref (E.2.1 (1100 + i)), .int j] σ (some (.int (i2c ((bytS.getD i []).getD j.toNatClampNeg 0 &&& 255)))) σ := by
  have hb := bytes_small i hi j.toNatClampNeg (Nat.lt_of_lt_of_le (inb_lt hj) (len_le5 i hi))
  obtain ⟨c0, c1⟩ := inb_chk hi hj
  refine ct_ofN (R := Unit) (emb := fun _ => some (.int (i2c ((bytS.getD i []).getD j.toNatClampNeg 0 &&& 255)))) (f := some ((), σ)) hE (by decide +kernel) (Nat.le_of_ble_eq_true rfl) (fun _ => ⟨_, rfl, hb.1⟩) (fun X _ g => ?_) () σ rfl
  have hlv : lv_args 0 [.ref (E.2.1 (1100 + i)), .int j] = [(0, .ref (E.2.1 (1100 + i))), (1, .int j)] := rfl
  rw [hlv]
  refine v_iload_n 1 g d_JLatin_charAt_0 rfl ?_
  refine v_aload_n 0 g d_JLatin_charAt_1 rfl ?_
  refine v_slenB g hi d_JLatin_charAt_2 ?_
  refine v_eq (T1 := (some ((), σ) : Option (Unit × Sto)).bind fun q => some ((), q.2)) rfl ?_
  refine v_callU (r_S (rest := []) [.int j, .int (Int32.ofNat (lenS.getD i 0))] g (m1 891 (by decide +kernel) (by decide +kernel)) ys_JString_checkIndex (fun r σ1 h => by cases h; exact ct_chk g.2.2.1 c0 c1) rfl rfl (by decide) (Nat.le_of_ble_eq_true rfl) d_JLatin_charAt_3) (fun q => ?_)
  refine v_aload_n 0 g d_JLatin_charAt_6 rfl ?_
  refine v_iload_n 1 g d_JLatin_charAt_7 rfl ?_
  refine v_saldB g hi hj d_JLatin_charAt_8 ?_
  refine v_sipush (v := (255 : Int32)) g d_JLatin_charAt_9 (by decide +kernel) ?_
  refine v_iand g d_JLatin_charAt_12 ?_
  refine v_i2c g d_JLatin_charAt_13 ?_
  exact v_ret d_JLatin_charAt_14 rfl
theorem ct_isLatin {l : Launch} {E : En} (hE : Dj E) {i : Nat} {σ : Sto} (hi : i < 11) : Ct l E y_JString_isLatin1 (wsM y_JString_isLatin1 b_JString_isLatin1 1 (some .boolean)) 1 [.ref (E.2.1 (1000 + i))] σ (eB true) σ := by
  refine ct_of (R := Unit) (emb := fun _ => eB true) (f := some ((), σ)) hE (by decide +kernel) (Nat.le_of_ble_eq_true rfl) (fun _ => Or.inr (Or.inl ⟨rfl, true, rfl⟩)) (fun X _ g => ?_) () σ rfl
  have hlv : lv_args 0 [.ref (E.2.1 (1000 + i))] = [(0, .ref (E.2.1 (1000 + i)))] := rfl
  rw [hlv]
  refine v_compact g (m1 878 (by decide +kernel) (by decide +kernel)) d_JString_isLatin1_0 ?_
  refine v_eq (T1 := if (1 : Int32) = 0 then none else some ((), σ)) (by rw [if_neg (by decide +kernel)]) ?_
  refine v_if_eq 17 g d_JString_isLatin1_3 (by decide) (fun _ => v_none) (fun _ => ?_)
  refine v_aload_n 0 g d_JString_isLatin1_6 rfl ?_
  refine v_coder g hi (m1 1569 (by decide +kernel) (by decide +kernel)) d_JString_isLatin1_7 ?_
  refine v_eq (T1 := if (0 : Int32) = 0 then some ((), σ) else none) (by rw [if_pos rfl]) ?_
  refine v_if_ne 17 g d_JString_isLatin1_10 (by decide) (fun _ => v_none) (fun _ => ?_)
  refine v_iconst (v := (1 : Int32)) g d_JString_isLatin1_13 (by decide +kernel) ?_
  refine v_goto 18 g d_JString_isLatin1_14 (by decide) ?_
  exact v_ret d_JString_isLatin1_18 rfl
theorem ct_coder {l : Launch} {E : En} (hE : Dj E) {i : Nat} {σ : Sto} (hi : i < 11) : Ct l E y_JString_coder (wsM y_JString_coder b_JString_coder 1 (some .byte)) 1 [.ref (E.2.1 (1000 + i))] σ (some (.int 0)) σ := by
  refine ct_ofN (R := Unit) (emb := fun _ => some (.int 0)) (f := some ((), σ)) hE (by decide +kernel) (Nat.le_of_ble_eq_true rfl) (fun _ => ⟨0, rfl, rfl⟩) (fun X _ g => ?_) () σ rfl
  have hlv : lv_args 0 [.ref (E.2.1 (1000 + i))] = [(0, .ref (E.2.1 (1000 + i)))] := rfl
  rw [hlv]
  refine v_compact g (m1 878 (by decide +kernel) (by decide +kernel)) d_JString_coder_0 ?_
  refine v_eq (T1 := if (1 : Int32) = 0 then none else some ((), σ)) (by rw [if_neg (by decide +kernel)]) ?_
  refine v_if_eq 13 g d_JString_coder_3 (by decide) (fun _ => v_none) (fun _ => ?_)
  refine v_aload_n 0 g d_JString_coder_6 rfl ?_
  refine v_coder g hi (m1 1569 (by decide +kernel) (by decide +kernel)) d_JString_coder_7 ?_
  refine v_goto 14 g d_JString_coder_10 (by decide) ?_
  exact v_ret d_JString_coder_14 rfl
theorem isr0 : ∀ i, i < 11 → isr (Int32.ofNat (lenS.getD i 0)) 0 = Int32.ofNat (lenS.getD i 0) := by decide +kernel
theorem ct_length {l : Launch} {E : En} (hE : Dj E) {i : Nat} {σ : Sto} (hi : i < 11) : Ct l E y_JString_length (wsM y_JString_length b_JString_length 1 (some .int)) 2 [.ref (E.2.1 (1000 + i))] σ (some (.int (Int32.ofNat (lenS.getD i 0)))) σ := by
  rw [← isr0 i hi]
  refine ct_of (R := Unit) (emb := fun _ => some (.int (isr (Int32.ofNat (lenS.getD i 0)) 0))) (f := some ((), σ)) hE (by decide +kernel) (Nat.le_of_ble_eq_true rfl) (fun _ => Or.inl ⟨rfl, _, rfl⟩) (fun X _ g => ?_) () σ rfl
  have hlv : lv_args 0 [.ref (E.2.1 (1000 + i))] = [(0, .ref (E.2.1 (1000 + i)))] := rfl
  rw [hlv]
  refine v_aload_n 0 g d_JString_length_0 rfl ?_
  refine v_value g hi (m1 1568 (by decide +kernel) (by decide +kernel)) d_JString_length_1 ?_
  refine v_slenB g hi d_JString_length_4 ?_
  refine v_aload_n 0 g d_JString_length_5 rfl ?_
  refine v_eq (T1 := (some ((), σ) : Option (Unit × Sto)).bind fun q => some ((), q.2)) rfl ?_
  refine v_call (emb1 := fun _ => some (.int 0)) (r_VT (rest := [.int (Int32.ofNat (lenS.getD i 0))]) [] g (m1 874 (by decide +kernel) (by decide +kernel)) yt_JString_coder hi (fun r σ1 h => by cases h; exact ct_coder g.2.2.1 hi) rfl rfl (by decide) (Nat.le_of_ble_eq_true rfl) d_JString_length_6) (fun q => ?_)
  show VV X E b_JString_length 1 _ _ _ [.int 0, .int (Int32.ofNat (lenS.getD i 0))] _ _
  refine v_ishr g d_JString_length_9 ?_
  exact v_ret d_JString_length_10 rfl
theorem ct_charAt {l : Launch} {E : En} (hE : Dj E) {i : Nat} {j : Int32} {σ : Sto} (hi : i < 11) (hj : inb j (lenS.getD i 0) = true) : Ct l E y_JString_charAt (wsM y_JString_charAt b_JString_charAt 2 (some .char)) 4 [.ref (E.2.1 (1000 + i)), .int j] σ (some (.int ((bytS.getD i []).getD j.toNatClampNeg 0))) σ := by
  have hb := bytes_small i hi j.toNatClampNeg (Nat.lt_of_lt_of_le (inb_lt hj) (len_le5 i hi))
  rw [← hb.2]
  refine ct_ofN (R := Unit) (emb := fun _ => some (.int (i2c ((bytS.getD i []).getD j.toNatClampNeg 0 &&& 255)))) (f := some ((), σ)) hE (by decide +kernel) (Nat.le_of_ble_eq_true rfl) (fun _ => ⟨_, rfl, hb.1⟩) (fun X _ g => ?_) () σ rfl
  have hlv : lv_args 0 [.ref (E.2.1 (1000 + i)), .int j] = [(0, .ref (E.2.1 (1000 + i))), (1, .int j)] := rfl
  rw [hlv]
  refine v_aload_n 0 g d_JString_charAt_0 rfl ?_
  refine v_eq (T1 := (some (true, σ) : Option (Bool × Sto)).bind fun q => if b2i q.1 = 0 then none else some ((), q.2)) rfl ?_
  refine v_callB (r_VT (rest := []) [] g (m1 884 (by decide +kernel) (by decide +kernel)) yt_JString_isLatin1 hi (fun r σ1 h => by cases h; exact ct_isLatin g.2.2.1 hi) rfl rfl (by decide) (Nat.le_of_ble_eq_true rfl) d_JString_charAt_1) (fun q => ?_)
  refine v_if_eq 16 g d_JString_charAt_4 (by decide) (fun _ => v_none) (fun _ => ?_)
  refine v_aload_n 0 g d_JString_charAt_7 rfl ?_
  refine v_value g hi (m1 1568 (by decide +kernel) (by decide +kernel)) d_JString_charAt_8 ?_
  refine v_iload_n 1 g d_JString_charAt_11 rfl ?_
  refine v_eq (T1 := (some ((), q.2) : Option (Unit × Sto)).bind fun q => some ((), q.2)) rfl ?_
  refine v_call (emb1 := fun _ => some (.int (i2c ((bytS.getD i []).getD j.toNatClampNeg 0 &&& 255)))) (r_S (rest := []) [.ref (E.2.1 (1100 + i)), .int j] g (m1 888 (by decide +kernel) (by decide +kernel)) ys_JLatin_charAt (fun r σ1 h => by cases h; exact ct_lat g.2.2.1 hi hj) rfl rfl (by decide) (Nat.le_of_ble_eq_true rfl) d_JString_charAt_12) (fun q => ?_)
  exact v_ret d_JString_charAt_15 rfl
section Str2
variable {X : Xt} {E : En} {hh nL pc : Nat} {cc : ByteArray} {own : String} {lv : List (Nat × Value)} {rest : List Value} {σ : Sto}
theorem str_len_run {idx : Nat} (id : Nat) (g : GG X E hh cc own nL) (hlk : Cond.methodLink own idx y_JString_length ∈ lw_gd) (hd : 12 + 1 ≤ hh) (hw : (rest.map fun v => v.category).sum ≤ 8) (d : decode cc pc = .ok (.invokevirtual idx, 3)) : Ru X E nL pc lv (.ref (E.2.1 id) :: rest) rest σ eI (str_len id σ) := by
  by_cases h : 1000 ≤ id ∧ id < 1011
  · obtain ⟨i, rfl⟩ : ∃ i, id = 1000 + i := ⟨id - 1000, by omega⟩
    have hi : i < 11 := by omega
    refine r_VT (hc := 2) [] g hlk yt_JString_length hi (fun r σ1 hf => ?_) rfl rfl (by omega) hw d
    simp only [str_len, h, and_self, if_true, Nat.add_sub_cancel_left, Option.some.injEq, Prod.mk.injEq] at hf
    obtain ⟨rfl, rfl⟩ := hf
    exact ct_length g.2.2.1 hi
  · intro r σ1 hf
    simp [str_len, h] at hf
theorem str_at_run {idx : Nat} (id : Nat) (j : Int32) (g : GG X E hh cc own nL) (hlk : Cond.methodLink own idx y_JString_charAt ∈ lw_gd) (hd : 12 + 1 ≤ hh) (hw : (rest.map fun v => v.category).sum ≤ 8) (d : decode cc pc = .ok (.invokevirtual idx, 3)) : Ru X E nL pc lv (.int j :: .ref (E.2.1 id) :: rest) rest σ eI (str_at id j σ) := by
  by_cases h : (1000 ≤ id ∧ id < 1011) ∧ inb j (lenS.getD (id - 1000) 0) = true
  · obtain ⟨i, rfl⟩ : ∃ i, id = 1000 + i := ⟨id - 1000, by omega⟩
    have hi : i < 11 := by omega
    have hj : inb j (lenS.getD i 0) = true := by have := h.2; rwa [Nat.add_sub_cancel_left] at this
    refine r_VT (hc := 4) [.int j] g hlk yt_JString_charAt hi (fun r σ1 hf => ?_) rfl rfl (by omega) hw d
    unfold str_at at hf
    rw [if_pos h, Nat.add_sub_cancel_left] at hf
    simp only [Option.some.injEq, Prod.mk.injEq] at hf
    obtain ⟨rfl, rfl⟩ := hf
    exact ct_charAt g.2.2.1 hi hj
  · intro r σ1 hf
    unfold str_at at hf
    rw [if_neg h] at hf
    cases hf
end Str2
