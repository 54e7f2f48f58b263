/-! CONTRACTS AND CALLS -/
def PreE (E : En) (σ : Sto) (U : State) : Prop := KK E U ∧ va_P E.1 vwC (wld E σ) U.heap
abbrev wsM (y : MethodName) (cc : ByteArray) (maxL : Nat) (ret : Option FieldType) : List Cond := Cond.code y cc maxL ret :: lw_gd
def rmD (d : Nat) : Room := { frames := d, cells := 0, slots := 0, locals := 64 * d }
def QcE (E : En) (v : Option Value) (σ' : Sto) : Array Value → State → Outcome → State → Prop := fun _ st oc t => (oc = .returned v ∧ va_P E.1 vwC (wld E σ') t.heap) ∧ va_F (AA E) st t
/-- the method y, called with As on the store σ, answers v and leaves σ' -/
def Ct (l : Launch) (E : En) (y : MethodName) (ws : List Cond) (d : Nat) (As : List Value) (σ : Sto) (v : Option Value) (σ' : Sto) : Prop := Met l y ws (rmD d) (va_Pc As (PreE E σ)) (QcE E v σ') 0 0 (AA E)
theorem PreE.blind {E : En} {σ : Sto} {As : List Value} : FrameBlind (va_Pc As (PreE E σ)) := fun a U g mk h => ⟨h.1, h.2.1.same rfl rfl, h.2.2⟩
def YS (y : MethodName) (bytes : ByteArray) (maxL : Nat) (ret : Option FieldType) (n : Nat) : Prop :=
  Cond.static y ∈ lw_gd ∧ Cond.initialized y.cls ∈ lw_gd ∧ Cond.code y bytes maxL ret ∈ lw_gd ∧ (y.cls ≠ "java/lang/invoke/MethodHandle" ∧ y.cls ≠ "java/lang/invoke/VarHandle" ∧ (parseMethodDescriptor y.desc).map (fun d => d.parameters.length) = some n) ∧ maxL ≤ 45
def YV (y : MethodName) (bytes : ByteArray) (maxL : Nat) (ret : Option FieldType) (n ci : Nat) : Prop :=
  Cond.instanceMethod y ∈ lw_gd ∧ Cond.selects y.cls y y ∈ lw_gd ∧ Cond.initialized y.cls ∈ lw_gd ∧ Cond.code y bytes maxL ret ∈ lw_gd ∧ (y.cls ≠ "java/lang/invoke/MethodHandle" ∧ y.cls ≠ "java/lang/invoke/VarHandle" ∧ (parseMethodDescriptor y.desc).map (fun d => d.parameters.length) = some n) ∧ maxL ≤ 45 ∧ ci < 99 ∧ ∃ T N, vwC[ci]? = some (y.cls, T, N)
theorem good_M {y : MethodName} {bytes : ByteArray} {maxL : Nat} {ret : Option FieldType} (h : Cond.code y bytes maxL ret ∈ lw_gd) : GoodIn lw_gd (wsM y bytes maxL ret) := by
  intro w hw
  rcases List.mem_cons.mp hw with rfl | hw
  · exact ⟨h, good_of_word (List.mem_filter.mp h).2⟩
  · exact gd_good (fun _ h => h) w hw
section Calls1
variable {X : Xt} {E : En} {hh nL pc : Nat} {cc : ByteArray} {own : String} {R R1 : Type} {emb : R → Option Value} {emb1 : R1 → Option Value} {lv lv' : List (Nat × Value)} {st rest st0 : List Value} {σ : Sto} {f : Option (R1 × Sto)} {kk : R1 × Sto → Option (R × Sto)}
/-- a call does what f says -/
def Ru (X : Xt) (E : En) (nL pc : Nat) (lv : List (Nat × Value)) (st0 rest : List Value) (σ : Sto) {R1 : Type} (emb1 : R1 → Option Value) (f : Option (R1 × Sto)) : Prop :=
  ∀ (r : R1) (σ1 : Sto), f = some (r, σ1) → ∀ (H : Heap) (locs : List Loc) (ls : Array Slot), va_P E.1 vwC (wld E σ) H → va_S (AA E) (x_s X).heap H locs → lv_has ls nL lv → ∃ a : Array Value,
    va_Run (x_p X) (x_l X) (x_e X) (x_R X) (x_s X) (x_m X) (x_a X) (x_b X) (x_h X) (x_c X) H locs (x_k X) (x_n X) 0 0 (F0 (x_m X) pc ls st0) rest (QcE E (emb1 r) σ1 a) (AA E)
theorem v_call (hr : Ru X E nL pc lv st0 rest σ emb1 f) (k : ∀ q : R1 × Sto, VV X E cc nL emb (pc + 3) lv ((emb1 q.1).toList ++ rest) q.2 (kk q)) : VV X E cc nL emb pc lv st0 σ (f.bind kk) := by
  intro r σ' hT hF H locs ls hP hS hl
  cases hf : f with
  | none => rw [hf] at hT; cases hT
  | some q =>
    rw [hf] at hT
    obtain ⟨a, hrun⟩ := hr q.1 q.2 hf H locs ls hP hS hl
    intro T0 hT0 X0
    obtain ⟨v, st₀, t, T', L, h0, X', hL, e1, e2, ⟨⟨hv, hb⟩, hz, hk⟩, stp⟩ := hrun T0 hT0 X0
    cases hv
    rw [h0] at hz hk
    obtain ⟨t2, a1, b1⟩ := k q r σ' hT hF T'.heap (locs ++ L) ls (by rw [e1]; exact hb)
      ⟨Nat.le_trans hS.1 (by rw [e1]; exact hz), fun q h1 h2 => by rw [e1, hk q (Nat.lt_of_lt_of_le h1 hS.1) h2]; exact hS.2.1 q h1 h2, fun q hq => by
        rcases List.mem_append.mp hq with h | h
        · exact hS.2.2 q h
        · exact hL q h⟩ hl T' rfl X'
    exact ⟨t2, stp t2 a1, b1⟩
theorem pre_S (g : GG X E hh cc own nL) {As : List Value} {H : Heap} {locs : List Loc} (hP : va_P E.1 vwC (wld E σ) H) (hS : va_S (AA E) (x_s X).heap H locs) : PreS (x_s X) H (va_Pc As (PreE E σ)) As :=
  ⟨PreE.blind, fun U hU hW => ⟨rfl, g.2.1.moved hW (fun a h1 h2 => by rw [hU]; exact hS.2.1 a h1 h2), by rw [hU]; exact hP⟩⟩
theorem r_S {y : MethodName} {bytes : ByteArray} {maxL n hc idx : Nat} {ret : Option FieldType} (As : List Value) (g : GG X E hh cc own nL) (hlk : Cond.methodLink own idx y ∈ lw_gd) (hy : YS y bytes maxL ret n) (hm : ∀ (r : R1) (σ1 : Sto), f = some (r, σ1) → Ct (x_l X) E y (wsM y bytes maxL ret) hc As σ (emb1 r) σ1) (hst : As.reverse ++ rest = st0) (hn : As.length = n) (hd : hc + 1 ≤ hh) (hw : (rest.map fun v => v.category).sum ≤ 8) (d : decode cc pc = .ok (.invokestatic idx, 3)) : Ru X E nL pc lv st0 rest σ emb1 f := by
  obtain ⟨h1, h2, h3, h4, h5⟩ := hy
  obtain ⟨C0, hK, hDj, hf, hlo, hce, hsl⟩ := id g
  subst hst
  intro r σ1 hfr H locs ls hP hS hl
  refine ⟨As.toArray, va_runS (As := As) (rest := rest) C0 (hm r σ1 hfr) ⟨callB_of n C0.2.2.2.2 (good_M h3) rfl rfl rfl (C0.2.2.2.2 _ h2) (C0.2.2.2.2 _ hlk) h4 ⟨by show hc + 1 ≤ _; omega, by show 8 + (maxL + 11) + 64 * hc ≤ _; omega⟩, C0.2.2.2.2 _ h1⟩ (pre_S g hP hS) rfl hn hl.1 rfl (lv_room hw) d ⟨by omega, by omega⟩⟩
theorem r_SN {y : MethodName} {host : String} {bytes : ByteArray} {maxL n hc idx : Nat} {ret : Option FieldType} (As : List Value) (g : GG X E hh cc own nL) (hlk : (own, idx, y, host) ∈ nstL) (hy : YS y bytes maxL ret n) (hm : ∀ (r : R1) (σ1 : Sto), f = some (r, σ1) → Ct (x_l X) E y (wsM y bytes maxL ret) hc As σ (emb1 r) σ1) (hst : As.reverse ++ rest = st0) (hn : As.length = n) (hd : hc + 1 ≤ hh) (hw : (rest.map fun v => v.category).sum ≤ 8) (d : decode cc pc = .ok (.invokestatic idx, 3)) : Ru X E nL pc lv st0 rest σ emb1 f := by
  obtain ⟨h1, h2, h3, h4, h5⟩ := hy
  obtain ⟨C0, hK, hDj, hf, hlo, hce, hsl⟩ := id g
  subst hst
  intro r σ1 hfr H locs ls hP hS hl
  refine ⟨As.toArray, va_runSN (As := As) (rest := rest) C0 (hm r σ1 hfr) ⟨va_cnB n C0.2.2.2.2 (good_M h3) rfl rfl rfl (hK.2.1 _ hlk) (C0.2.2.2.2 _ h2) h4 ⟨by show hc + 1 ≤ _; omega, by show 8 + (maxL + 11) + 64 * hc ≤ _; omega⟩, C0.2.2.2.2 _ h1, trivial⟩ (pre_S g hP hS) rfl hn hl.1 rfl (lv_room hw) d ⟨by omega, by omega⟩⟩
theorem r_V {y : MethodName} {bytes : ByteArray} {maxL n hc idx ci o : Nat} {ret : Option FieldType} (As : List Value) (g : GG X E hh cc own nL) (hlk : Cond.methodLink own idx y ∈ lw_gd) (hy : YV y bytes maxL ret n ci) (hco : cls o = ci) (hm : ∀ (r : R1) (σ1 : Sto), f = some (r, σ1) → Ct (x_l X) E y (wsM y bytes maxL ret) hc (.ref (E.2.1 o) :: As) σ (emb1 r) σ1) (hst : As.reverse ++ .ref (E.2.1 o) :: rest = st0) (hn : As.length = n) (hd : hc + 1 ≤ hh) (hw : (rest.map fun v => v.category).sum ≤ 8) (d : decode cc pc = .ok (.invokevirtual idx, 3)) : Ru X E nL pc lv st0 rest σ emb1 f := by
  obtain ⟨h1, h1b, h2, h3, h4, h5, h6, T, N, h7⟩ := hy
  obtain ⟨C0, hK, hDj, hf, hlo, hce, hsl⟩ := id g
  subst hst
  intro r σ1 hfr H locs ls hP hS hl
  have hrc := va_recv hK.1 hP h7 (q0 := o) (a := E.2.1 o) (fs := (List.range (nf ci)).map (fv E σ o)) (by rw [wld_get (cls_lt hco (by omega)), ent_obj hco (by omega)])
  refine ⟨(Value.ref (E.2.1 o) :: As).toArray, va_runV (C := y.cls) (b := E.2.1 o) (As := As) (rest := rest) C0 (hm r σ1 hfr) ⟨callB_of n C0.2.2.2.2 (good_M h3) rfl rfl rfl (C0.2.2.2.2 _ h2) (C0.2.2.2.2 _ hlk) h4 ⟨by show hc + 1 ≤ _; omega, by show 8 + (maxL + 11) + 64 * hc ≤ _; omega⟩, C0.2.2.2.2 _ h1, C0.2.2.2.2 _ h1b⟩ ⟨PreE.blind, hrc, (pre_S g hP hS).2⟩ rfl hn hl.1 rfl (lv_room hw) d ⟨by omega, by omega⟩⟩
end Calls1
/-- what a method may return -/
def RetOk (ret : Option FieldType) (v : Option Value) : Prop := (ret = some .int ∧ ∃ x, v = some (.int x)) ∨ (ret = some .boolean ∧ ∃ b, v = some (.int (b2i b))) ∨ (ret = some .long ∧ ∃ x, v = some (.long x)) ∨ (ret = none ∧ v = none) ∨ ((∃ n, ret = some (.object n)) ∧ ∃ a, v = some (.ref a))
theorem ct_of {l : Launch} {E : En} {y : MethodName} {bytes : ByteArray} {maxL d : Nat} {ret : Option FieldType} {As : List Value} {σ : Sto} {R : Type} {emb : R → Option Value} {f : Option (R × Sto)} (hE : Dj E) (hy : plainName y.cls = true) (hA : (lg_sl As).length ≤ maxL) (hro : ∀ r : R, RetOk ret (emb r))
    (hv : ∀ X : Xt, x_l X = l → GG X E d bytes y.cls maxL → VV X E bytes maxL emb 0 (lv_args 0 As) [] σ f) : ∀ (r : R) (σ' : Sto), f = some (r, σ') → Ct l E y (wsM y bytes maxL ret) d As σ (emb r) σ' := by
  intro r σ' hf
  refine Met.ofW (cc := bytes) (maxL := maxL) (ret := ret) hy rfl ?_
  intro p e s m args below meth c s₁ B hml hpre
  obtain ⟨rfl, hK, hP⟩ := hpre
  have hx := B.exec
  have hb := B.bytes
  have hr := B.returns
  have hts := atoms_spec (ws := wsM y bytes maxL ret) B.pre
  have hown : s.vm.findClass y.cls = some m.cls := findClass_of_methodNamed B.named
  have hlocks := B.notSynchronized
  have hl := lv_entry As hA
  rw [lg_entry_eq]
  generalize (lg_sl As ++ List.replicate (maxL - (lg_sl As).length) Slot.unset).toArray = ls at hl ⊢
  have key := hv (p, l, e, (headSpec (wsM y bytes maxL ret) (rmD d)).room, s, m, As.toArray, below, meth, c, 0, 0, MQ below (QcE E (emb r) σ') As.toArray s 0 0 (AA E)) rfl ⟨⟨hx, hb, hml, hown, fun w hw => hts w (List.mem_cons_of_mem _ hw)⟩, hK, hE, Nat.le_refl _, Nat.le_refl _, Nat.zero_le _, Nat.zero_le _⟩ r σ' hf ?_ s.heap [] ls hP va_S.rf hl
  · exact key
  · intro H locs ls pc hP' hS' hd
    have hQ : ∀ t : State, t.heap = H → s.WarmedH t.vm → QcE E (emb r) σ' As.toArray s (.returned (emb r)) t := fun t ht _ => ⟨⟨rfl, by rw [ht]; exact hP'⟩, hS'.F ht⟩
    rcases hro r with ⟨e1, x, e2⟩ | ⟨e1, x, e2⟩ | ⟨e1, x, e2⟩ | ⟨e1, e2⟩ | ⟨⟨n, e1⟩, x, e2⟩
    · rw [e2] at hd hQ ⊢
      exact W.iret hx hb (hr.trans e1) hQ hS'.2.2 hd hlocks
    · rw [e2] at hd hQ ⊢
      exact W.zret hx hb (hr.trans e1) (by cases x <;> rfl) hQ hS'.2.2 hd hlocks
    · rw [e2] at hd hQ ⊢
      exact W.lret hx hb (hr.trans e1) hQ hS'.2.2 hd hlocks
    · rw [e2] at hd hQ ⊢
      exact W.vret hx hb (hr.trans e1) hQ hS'.2.2 hd hlocks
    · rw [e2] at hd hQ ⊢
      exact W.aret hx hb (hr.trans e1) (Or.inl ⟨n, rfl⟩) (Or.inr ⟨x, rfl⟩) hQ hS'.2.2 hd hlocks
