/-! CONSTRUCTORS: a world of cells that stand one behind the other from an address on -/
def wldL : Nat → List va_E → va_W
  | _, [] => []
  | b, e :: es => (b, e) :: wldL (b + 1) es
theorem wldL_get : ∀ (es : List va_E) (b i : Nat), (wldL b es)[i]? = (es[i]?).map (fun e => (b + i, e))
  | [], b, i => by simp [wldL]
  | e :: es, b, 0 => by simp [wldL]
  | e :: es, b, i + 1 => by
    simp only [wldL, List.getElem?_cons_succ]
    rw [wldL_get es (b + 1) i]
    simp [Nat.add_assoc, Nat.add_comm 1 i]
theorem wldL_at {es : List va_E} {b i : Nat} {e : va_E} (h : es[i]? = some e) : (wldL b es)[i]? = some (b + i, e) := by
  rw [wldL_get, h]; rfl
theorem wldL_set : ∀ (es : List va_E) (b i : Nat) (e : va_E), (wldL b es).set i (b + i, e) = wldL b (es.set i e)
  | [], b, i, e => by simp [wldL]
  | e0 :: es, b, 0, e => by simp [wldL]
  | e0 :: es, b, i + 1, e => by
    simp only [wldL, List.set_cons_succ]
    rw [← wldL_set es (b + 1) i e]
    simp [Nat.add_assoc, Nat.add_comm 1 i]
theorem wldL_app : ∀ (es fs : List va_E) (b : Nat), wldL b (es ++ fs) = wldL b es ++ wldL (b + es.length) fs
  | [], fs, b => by simp [wldL]
  | e :: es, fs, b => by
    simp only [List.cons_append, wldL, List.length_cons]
    rw [wldL_app es fs (b + 1)]
    simp [Nat.add_assoc, Nat.add_comm 1 es.length]
theorem wldL_len : ∀ (es : List va_E) (b : Nat), (wldL b es).length = es.length
  | [], _ => rfl
  | _ :: es, b => by simp [wldL, wldL_len es (b + 1)]
theorem wldL_key {es : List va_E} {b k : Nat} {q : Nat × va_E} (h : (wldL b es)[k]? = some q) : k < es.length ∧ q.1 = b + k := by
  rw [wldL_get] at h
  cases he : es[k]? with
  | none => rw [he] at h; cases h
  | some e => rw [he] at h; cases h; exact ⟨(List.getElem?_eq_some_iff.mp he).1, rfl⟩
theorem wldL_D {es : List va_E} {b a : Nat} (hab : a ≤ b) : va_D (fun q => a ≤ q) (wldL b es) := by
  refine ⟨fun i j p q hi hj hpq => ?_, fun k q hk => ?_⟩
  · have h1 := (wldL_key hi).2
    have h2 := (wldL_key hj).2
    omega
  · have h1 := (wldL_key hk).2
    show a ≤ q.1
    omega
def nstC : List (String × Nat × MethodName × String) := [(R_FR, 9, y_Net_init, R_FR), (R_Judge, 11, y_Ranking_init, R_FR), (R_FR, 53, y_Tape_init, R_FR), (R_FR, 60, y_Lot_init, R_FR), (R_FR, 77, y_Sheet_init, R_FR), (R_FR, 78, y_Hand_init, R_FR)]
def KC (E : En) (U : State) : Prop := va_K E.1 vwC (tysE E) U ∧ (∀ q ∈ nstC, va_Nw (.methodLinkNest q.1 q.2.1 q.2.2.1 q.2.2.2) U) ∧ va_AO R_Sheet U ∧ va_AO R_Hand U
theorem KC.moved {E : En} {s U : State} (hW : s.WarmedH U.vm) (h : KC E s) : KC E U :=
  ⟨h.1.moved hW.alike, fun q hq => va_Nw.warmM hW (h.2.1 q hq), h.2.2.1.moved hW.alike, h.2.2.2.moved hW.alike⟩
theorem KC.same {E : En} {u U : State} (hv : U.vm = u.vm) (h : KC E u) : KC E U := by
  have hvm : u.vm.Alike U.vm := by rw [hv]; exact Vm.Alike.refl u.vm
  exact ⟨h.1.moved hvm, fun q hq => va_Nw.same rfl hv.symm (h.2.1 q hq), h.2.2.1.moved hvm, h.2.2.2.moved hvm⟩
/-- the world of a constructor: cells from a0 on, up to the heap's end -/
def PC (E : En) (a0 : Nat) (es : List va_E) (H : Heap) : Prop := H.size = a0 + es.length ∧ va_P E.1 vwC (wldL a0 es) H
def GC (X : Xt) (E : En) (a0 hh : Nat) (cc : ByteArray) (own : String) (nL : Nat) : Prop :=
  CallFix (x_p X) (x_m X) (x_c X) cc nL (x_s X) (x_a X) lw_gd own ∧ KC E (x_s X) ∧ a0 ≤ (x_s X).heap.size ∧ hh ≤ (x_R X).frames ∧ 64 * hh ≤ (x_R X).locals
def WC (X : Xt) (H : Heap) (locs : List Loc) (kc ns : Nat) (g : JFrame) : Prop := W (x_p X) (x_l X) (x_e X) (x_R X) (x_s X) (x_m X) (x_a X) (x_b X) (x_h X) (x_c X) H locs kc ns (x_Q X) g
def VC (X : Xt) (E : En) (a0 : Nat) (nL kc ns pc : Nat) (lv : List (Nat × Value)) (st : List Value) (es : List va_E) : Prop :=
  ∀ (H : Heap) (locs : List Loc) (ls : Array Slot), PC E a0 es H → va_S (fun q => a0 ≤ q) (x_s X).heap H locs → lv_has ls nL lv → WC X H locs kc ns (F0 (x_m X) pc ls st)
def rmC (d mc ms : Nat) : Room := { frames := d, cells := mc, slots := ms, locals := 64 * d }
def QcC (E : En) (a0 : Nat) (es : List va_E) : Array Value → State → Outcome → State → Prop := fun _ st oc t => (oc = .returned none ∧ PC E a0 es t.heap) ∧ va_F (fun q => a0 ≤ q) st t
/-- the constructor y: from the cell at a0, as it was made, to the cells es from a0 on -/
def CtC (l : Launch) (E : En) (y : MethodName) (bytes : ByteArray) (maxL d mc ms a0 : Nat) (As : List Value) (e0 : va_E) (es : List va_E) : Prop :=
  Met l y (wsM y bytes maxL none) (rmC d mc ms) (va_Pc As (fun U => KC E U ∧ PC E a0 [e0] U.heap)) (QcC E a0 es) mc ms (fun q => a0 ≤ q)
section CRules
variable {X : Xt} {E : En} {a0 hh nL kc ns pc : Nat} {cc : ByteArray} {own : String} {lv lv' : List (Nat × Value)} {st rest : List Value} {es : List va_E}
theorem c_iconst {n : Int} {v : Int32} (g : GC X E a0 hh cc own nL) (d : decode cc pc = .ok (.iconst n, 1)) (hv : Int32.ofInt n = v) (k : VC X E a0 nL kc ns (pc + 1) lv (.int v :: st) es) : VC X E a0 nL kc ns pc lv st es :=
  fun H locs ls hP hS hl => lv_iconst g.1.1 g.1.2.1 d hv (k H locs ls hP hS hl)
theorem c_lconst {n : Fin 2} {v : Int64} (g : GC X E a0 hh cc own nL) (d : decode cc pc = .ok (.lconst n, 1)) (hv : Int64.ofNat (n : Nat) = v) (k : VC X E a0 nL kc ns (pc + 1) lv (.long v :: st) es) : VC X E a0 nL kc ns pc lv st es :=
  fun H locs ls hP hS hl => lv_lconst g.1.1 g.1.2.1 d hv (k H locs ls hP hS hl)
theorem c_bipush {n : Int} {v : Int32} (g : GC X E a0 hh cc own nL) (d : decode cc pc = .ok (.bipush n, 2)) (hv : (Int8.ofInt n).toInt32 = v) (k : VC X E a0 nL kc ns (pc + 2) lv (.int v :: st) es) : VC X E a0 nL kc ns pc lv st es :=
  fun H locs ls hP hS hl => lv_bipush g.1.1 g.1.2.1 d hv (k H locs ls hP hS hl)
theorem c_sipush {n : Int} {v : Int32} (g : GC X E a0 hh cc own nL) (d : decode cc pc = .ok (.sipush n, 3)) (hv : (Int16.ofInt n).toInt32 = v) (k : VC X E a0 nL kc ns (pc + 3) lv (.int v :: st) es) : VC X E a0 nL kc ns pc lv st es :=
  fun H locs ls hP hS hl => lv_sipush g.1.1 g.1.2.1 d hv (k H locs ls hP hS hl)
theorem c_iload_n (q : Nat) {n : Fin 4} {x : Int32} (g : GC X E a0 hh cc own nL) (d : decode cc pc = .ok (.iload_n n, 1)) (hq : lv[q]? = some ((n : Nat), .int x)) (k : VC X E a0 nL kc ns (pc + 1) lv (.int x :: st) es) : VC X E a0 nL kc ns pc lv st es :=
  fun H locs ls hP hS hl => lv_iload_n g.1.1 g.1.2.1 d rfl (lv_at hl q hq) (k H locs ls hP hS hl)
theorem c_aload_n (q : Nat) {n : Fin 4} {x : Nat} (g : GC X E a0 hh cc own nL) (d : decode cc pc = .ok (.aload_n n, 1)) (hq : lv[q]? = some ((n : Nat), .ref x)) (k : VC X E a0 nL kc ns (pc + 1) lv (.ref x :: st) es) : VC X E a0 nL kc ns pc lv st es :=
  fun H locs ls hP hS hl => lv_aload_n g.1.1 g.1.2.1 d rfl (lv_at hl q hq) (k H locs ls hP hS hl)
theorem c_istore_n (lv' : List (Nat × Value)) {n : Fin 4} {x : Int32} (g : GC X E a0 hh cc own nL) (d : decode cc pc = .ok (.istore_n n, 1)) (hn : (n : Nat) < nL) (hl' : ((n : Nat), Value.int x) :: lv.filter (fun q => !(q.1 == (n : Nat)) && !(q.1 + 1 == (n : Nat) && q.2.category == 2)) = lv') (k : VC X E a0 nL kc ns (pc + 1) lv' st es) : VC X E a0 nL kc ns pc lv (.int x :: st) es :=
  fun H locs ls hP hS hl => lv_istore_n g.1.1 g.1.2.1 d rfl hl hn hl' (fun ls' h' => k H locs ls' hP hS h')
theorem c_astore_n (lv' : List (Nat × Value)) {n : Fin 4} {x : Nat} (g : GC X E a0 hh cc own nL) (d : decode cc pc = .ok (.astore_n n, 1)) (hn : (n : Nat) < nL) (hl' : ((n : Nat), Value.ref x) :: lv.filter (fun q => !(q.1 == (n : Nat)) && !(q.1 + 1 == (n : Nat) && q.2.category == 2)) = lv') (k : VC X E a0 nL kc ns (pc + 1) lv' st es) : VC X E a0 nL kc ns pc lv (.ref x :: st) es :=
  fun H locs ls hP hS hl => lv_astore_n g.1.1 g.1.2.1 d rfl hl hn hl' (fun ls' h' => k H locs ls' hP hS h')
theorem c_iinc (q : Nat) (lv' : List (Nat × Value)) {i : Nat} {n : Int} {x v : Int32} (g : GC X E a0 hh cc own nL) (d : decode cc pc = .ok (.iinc i n, 3)) (hq : lv[q]? = some (i, .int x)) (hv : x + Int32.ofInt n = v) (hn : i < nL) (hl' : (i, Value.int v) :: lv.filter (fun q => !(q.1 == i) && !(q.1 + 1 == i && q.2.category == 2)) = lv') (k : VC X E a0 nL kc ns (pc + 3) lv' st es) : VC X E a0 nL kc ns pc lv st es :=
  fun H locs ls hP hS hl => lv_iinc g.1.1 g.1.2.1 d hl hq hv hn hl' (fun ls' h' => k H locs ls' hP hS h')
theorem c_dup {va : Value} (g : GC X E a0 hh cc own nL) (d : decode cc pc = .ok (.dup, 1)) (hc : va.category = 1) (k : VC X E a0 nL kc ns (pc + 1) lv (va :: va :: st) es) : VC X E a0 nL kc ns pc lv (va :: st) es :=
  fun H locs ls hP hS hl => lv_dup g.1.1 g.1.2.1 d hc (k H locs ls hP hS hl)
theorem c_goto {off : Int} (tgt : Nat) (g : GC X E a0 hh cc own nL) (d : decode cc pc = .ok (.goto off, 3)) (ht : (pc : Int) + off = (tgt : Int)) (k : VC X E a0 nL kc ns tgt lv st es) : VC X E a0 nL kc ns pc lv st es :=
  fun H locs ls hP hS hl => lv_goto g.1.1 g.1.2.1 d ht (k H locs ls hP hS hl)
theorem c_geY {x y : Int32} {off : Int} (tgt : Nat) (g : GC X E a0 hh cc own nL) (d : decode cc pc = .ok (.if_icmp .ge off, 3)) (ht : (pc : Int) + off = (tgt : Int)) (hc : y ≤ x) (k : VC X E a0 nL kc ns tgt lv st es) : VC X E a0 nL kc ns pc lv (.int y :: .int x :: st) es :=
  fun H locs ls hP hS hl => lv_icmp_ge g.1.1 g.1.2.1 d ht (fun _ => k H locs ls hP hS hl) (fun h => absurd hc h)
theorem c_geN {x y : Int32} {off : Int} (tgt : Nat) (g : GC X E a0 hh cc own nL) (d : decode cc pc = .ok (.if_icmp .ge off, 3)) (ht : (pc : Int) + off = (tgt : Int)) (hc : ¬ y ≤ x) (k : VC X E a0 nL kc ns (pc + 3) lv st es) : VC X E a0 nL kc ns pc lv (.int y :: .int x :: st) es :=
  fun H locs ls hP hS hl => lv_icmp_ge g.1.1 g.1.2.1 d ht (fun h => absurd h hc) (fun _ => k H locs ls hP hS hl)
theorem c_objInit {idx a : Nat} (g : GC X E a0 hh cc own nL) (hlk : Cond.methodLink own idx Lib.objectInit ∈ lw_gd) (h1 : Cond.instanceMethod Lib.objectInit ∈ lw_gd) (h2 : Cond.code Lib.objectInit ⟨#[0xb1]⟩ 1 none ∈ lw_gd) (hh1 : 1 ≤ hh) (d : decode cc pc = .ok (.invokespecial idx, 3)) (k : VC X E a0 nL kc ns (pc + 3) lv [] es) : VC X E a0 nL kc ns pc lv [.ref a] es := by
  intro H locs ls hP hS hl
  obtain ⟨C0, hK, ha, hf, hlo⟩ := id g
  refine W.objInit C0.1 C0.2.1 C0.2.2.2.1 (C0.2.2.2.2 _ hlk) (C0.2.2.2.2 _ h1) (C0.2.2.2.2 _ h2) rfl (hl.1.trans C0.2.2.1.symm) rfl d (by omega) ?_ (k H locs ls hP hS hl)
  have h0 := lv_room (m := x_m X) (pc := pc) (ls := ls) (rest := [.ref a]) (st := ([] : List Value)) (by simp)
  omega
theorem PC.lt {H : Heap} (h : PC E a0 es H) {i : Nat} (hi : i < es.length) : a0 + i < H.size := by rw [h.1]; omega
theorem PC.set {H H1 : Heap} {i : Nat} {e e0 : va_E} (h : PC E a0 es H) (he : es[i]? = some e0) (h1 : va_at E.1 vwC (a0 + i, e) H1) (hz : H1.size = H.size) (ho : ∀ q : Nat, q ≠ a0 + i → H1[q]? = H[q]?) : PC E a0 (es.set i e) H1 := by
  refine ⟨by rw [hz, h.1, List.length_set], ?_⟩
  rw [← wldL_set]
  exact h.2.set (wldL_D (Nat.le_refl a0)) (wldL_at he) h1 ho
theorem PC.push {H H1 : Heap} {e : va_E} (h : PC E a0 es H) (h1 : va_at E.1 vwC (H.size, e) H1) (hz : H1.size = H.size + 1) (ho : ∀ q : Nat, q < H.size → H1[q]? = H[q]?) : PC E a0 (es ++ [e]) H1 := by
  refine ⟨by rw [hz, h.1, List.length_append]; simp; omega, ?_⟩
  rw [wldL_app]
  refine (h.2.kept (fun k q hk => ho q.1 ?_)).app (fun k q hk => ?_)
  · have := wldL_key hk
    rw [h.1]; omega
  · have hz : k < 1 := (List.getElem?_eq_some_iff.mp hk).1
    rw [show k = 0 by omega] at hk
    cases hk
    rw [← h.1]
    exact h1
/-- a field that may be written anywhere -/
theorem c_put {i ci k idx : Nat} {fs : List Value} {v : Value} {ty : FieldType} (es' : List va_E) (g : GC X E a0 hh cc own nL) (ff : FP own idx ci k ty) (he : es[i]? = some (.inr (ci, fs))) (hfl : k < fs.length) (hes : es.set i (.inr (ci, fs.set k v)) = es') (hn : narrow ty v = v) (hfit : fits ty v = true) (d : decode cc pc = .ok (.putfield idx, 3)) (kk : VC X E a0 nL kc ns (pc + 3) lv st es') : VC X E a0 nL kc ns pc lv (v :: .ref (a0 + i) :: st) es := by
  obtain ⟨C, T', N, hc, h2, hk, h4, h5, h6, ⟨ty0, h7⟩, h8, hfin, hd⟩ := ff
  intro H locs ls hP hS hl
  have hK := g.2.1.1
  have hts := g.1.2.2.2.2
  have hap := va_apart (own := own) hts h2 ty0 h7 h8 hK hc
  obtain ⟨r, h1, cell, q1, q2, q3, q4⟩ := hP.2 i _ (wldL_at he)
  have hr : r = (C, T', N) := Option.some.inj (h1.symm.trans hc)
  subst hr
  obtain ⟨hSl, hfc, kC, hkC, hkind⟩ := hK.1 ci _ hc
  obtain ⟨cf, kf, fi, f, hi, hsl⟩ := hSl k hk
  have hlay := hts _ (h2 _ (u_in_lay hk))
  unfold u_lay at hlay
  rw [if_neg (by rw [hfin]; decide)] at hlay
  have hst := (u_facts hfc hkC (u_lays hts h2 hk) hi).1
  have hstore := u_store hfc hkC hkind hlay hi hd hn hfit
  refine W.putK g.1.1 g.1.2.1 (f := f) ⟨g.1.2.2.2.1, hts _ h6, ⟨_, _, _, hi⟩, hst⟩ (by rw [q2]; exact hstore) q1 q3 (by rw [hsl]; exact k2_hasslot (q4 k hk)) rfl rfl d fun H' e1 e2 e3 => ?_
  rw [hsl] at e1 ⊢
  subst hes
  exact kk H' _ ls (hP.set he ⟨_, hc, t_OB.to (V := updV (vp_V fs) k v) ⟨_, e1, q2, q3, t_set q4 hap hk v⟩ (fun j _ => vp_updV_set hfl v j)⟩ e2 e3) (hS.put e2 e3 (Nat.le_add_right _ _)) hl
/-- a final field, in its constructor -/
def FC (own : String) (idx ci k : Nat) (ty : FieldType) : Prop := ∃ (C : String) (T : u_T) (N : Nat), vwC[ci]? = some (C, T, N) ∧ (∀ w ∈ u_ws C T N, w ∈ lw_gd) ∧ k < N ∧ Cond.fieldLink own idx (T k).1 (T k).2.1 (T k).2.2.1 ∈ lw_gd ∧ (∃ ty0 : Nat → FieldType, ∀ k, k < N → parseFieldDescriptor (T k).2.2.1 = some (ty0 k)) ∧ (∀ a, a < N → ∀ b, b < N → a ≠ b → (T a).2.1 ≠ (T b).2.1) ∧ (T k).2.2.2 = true ∧ (T k).1 = own ∧ parseFieldDescriptor (T k).2.2.1 = some ty
theorem c_putF {i ci k idx : Nat} {fs : List Value} {v : Value} {ty : FieldType} (es' : List va_E) (hin : (x_h X).name = "<init>") (g : GC X E a0 hh cc own nL) (ff : FC own idx ci k ty) (he : es[i]? = some (.inr (ci, fs))) (hfl : k < fs.length) (hes : es.set i (.inr (ci, fs.set k v)) = es') (hn : narrow ty v = v) (hfit : fits ty v = true) (d : decode cc pc = .ok (.putfield idx, 3)) (kk : VC X E a0 nL kc ns (pc + 3) lv st es') : VC X E a0 nL kc ns pc lv (v :: .ref (a0 + i) :: st) es := by
  obtain ⟨C, T', N, hc, h2, hk, h6, ⟨ty0, h7⟩, h8, hfin, hdecl, hd⟩ := ff
  intro H locs ls hP hS hl
  have hK := g.2.1.1
  have hts := g.1.2.2.2.2
  have hap := va_apart (own := own) hts h2 ty0 h7 h8 hK hc
  obtain ⟨r, h1, cell, q1, q2, q3, q4⟩ := hP.2 i _ (wldL_at he)
  have hr : r = (C, T', N) := Option.some.inj (h1.symm.trans hc)
  subst hr
  obtain ⟨hSl, hfc, kC, hkC, hkind⟩ := hK.1 ci _ hc
  obtain ⟨cf, kf, fi, f, hi, hsl⟩ := hSl k hk
  have hlay := hts _ (h2 _ (u_in_lay hk))
  unfold u_lay at hlay
  rw [if_pos hfin] at hlay
  have hst := (u_facts hfc hkC (u_lays hts h2 hk) hi).1
  have hcf : (x_m X).cls = cf := by
    obtain ⟨_, _, c', _, _, _, -, -, hf', -, -, -, hown2, -⟩ := Cond.laysFinal_spec hlay
    have e1 : c' = cf := by have := hi.symm.trans hf'; simp at this; exact this.1.symm
    rw [hdecl] at hown2
    rw [← e1]; exact Option.some.inj (g.1.2.2.2.1.symm.trans hown2)
  have hfits := u_fits hfc hkC hkind (Or.inr hlay) hi hd hn hfit
  refine W.putFinK g.1.1 g.1.2.1 g.1.2.2.2.1 (hts _ h6) hi hst hcf hin (by rw [q2]; exact hfits) q1 q3 (by rw [hsl]; exact k2_hasslot (q4 k hk)) rfl rfl d fun H' e1 e2 e3 => ?_
  rw [hsl] at e1 ⊢
  subst hes
  exact kk H' _ ls (hP.set he ⟨_, hc, t_OB.to (V := updV (vp_V fs) k v) ⟨_, e1, q2, q3, t_set q4 hap hk v⟩ (fun j _ => vp_updV_set hfl v j)⟩ e2 e3) (hS.put e2 e3 (Nat.le_add_right _ _)) hl
/-- a field read: here only of references -/
theorem c_get {i ci k idx : Nat} {fs : List Value} {v : Value} (g : GC X E a0 hh cc own nL) (ff : FF own idx ci k) (he : es[i]? = some (.inr (ci, fs))) (hv : fs[k]? = some v) (d : decode cc pc = .ok (.getfield idx, 3)) (kk : VC X E a0 nL kc ns (pc + 3) lv (v :: st) es) : VC X E a0 nL kc ns pc lv (.ref (a0 + i) :: st) es := by
  obtain ⟨C, T', N, h1, h2, h3, h4, h5, h6⟩ := ff
  intro H locs ls hP hS hl
  exact va_get g.1.1 g.1.2.1 g.1.2.2.2.2 h2 g.1.2.2.2.1 g.2.1.1 hP.2 i (wldL_at he) h1 k h3 (g.1.2.2.2.2 _ h6) (fun _ h => h) hv d (kk H locs ls hP hS hl)
theorem va_S.grow {A : Nat → Prop} {H0 H H1 : Heap} {locs : List Loc} (hS : va_S A H0 H locs) (hz : H1.size = H.size + 1) (ho : ∀ q : Nat, q < H.size → H1[q]? = H[q]?) : va_S A H0 H1 locs :=
  ⟨Nat.le_trans hS.1 (by omega), fun x h1 h2 => (ho x (Nat.lt_of_lt_of_le h1 hS.1)).trans (hS.2.1 x h1 h2), hS.2.2⟩
/-- a class that can be made -/
def NW (own : String) (idx ci : Nat) (fs : List Value) : Prop := ∃ (C : String) (T : u_T) (N : Nat) (ty : Nat → FieldType), vwC[ci]? = some (C, T, N) ∧ (∀ w ∈ u_ws C T N, w ∈ lw_gd) ∧ (∀ k, k < N → parseFieldDescriptor (T k).2.2.1 = some (ty k)) ∧ Cond.classLink own idx C ∈ lw_gd ∧ Cond.instantiable C N ∈ lw_gd ∧ Cond.initialized C ∈ lw_gd ∧ (∀ j, j < N → defaultValue (ty j) = vp_V fs j) ∧ N = fs.length
theorem c_new {ci idx : Nat} {fs : List Value} {i : Nat} (g : GC X E a0 hh cc own nL) (nw : NW own idx ci fs) (hi : es.length = i) (hkc : kc + 1 ≤ (x_R X).cells) (hns : ns + fs.length ≤ (x_R X).slots) (d : decode cc pc = .ok (.new idx, 3)) (kk : VC X E a0 nL (kc + 1) (ns + fs.length) (pc + 3) lv (.ref (a0 + i) :: st) (es ++ [.inr (ci, fs)])) : VC X E a0 nL kc ns pc lv st es := by
  obtain ⟨C, T', N, ty, hc, hin, hty, w1, w2, w3, hfs, hN⟩ := nw
  intro H locs ls hP hS hl
  have hts := g.1.2.2.2.2
  have hKn := g.2.1.1.1 ci _ hc
  have hsz := hP.1
  subst hN
  refine W.newcK g.1.1 g.1.2.1 g.1.2.2.2.1 (hts _ w1) (hts _ w2) (hts _ w3) rfl d hkc hns hKn.2.1 rfl fun H1 kC hkC e1 z1 o1 => ?_
  have := kk H1 locs ls (hP.push ⟨_, hc, (u_born ty hts hin hKn hkC e1 hty).to hfs⟩ z1 o1) (hS.grow z1 o1) hl
  rw [← hi, ← hsz] at this
  exact this
theorem c_newI {idx n : Nat} {v : Int32} {i : Nat} (g : GC X E a0 hh cc own nL) (hi : es.length = i) (hw : Cond.arrayClass .int ∈ lw_gd) (hn : ¬ v < 0) (hN : v.toNatClampNeg = n) (hb : n * 4 ≤ 536870912) (hkc : kc + 1 ≤ (x_R X).cells) (hns : ns + n ≤ (x_R X).slots) (d : decode cc pc = .ok (.newarray .int, 2)) (kk : VC X E a0 nL (kc + 1) (ns + n) (pc + 2) lv (.ref (a0 + i) :: st) (es ++ [.inl (E.2.2 100, n, .inl (fun _ => 0))])) : VC X E a0 nL kc ns pc lv (.int v :: st) es := by
  intro H locs ls hP hS hl
  have hsz := hP.1
  refine va_newaK g.1.1 g.1.2.1 (atype := .int) (g.1.2.2.2.2 _ hw) rfl d rfl hn hN hb hkc hns rfl fun H1 cA e1 z1 o1 hAr hNm => ?_
  have hcA : cA = E.2.2 100 := Option.some.inj (hNm.symm.trans (g.2.1.1.2 0 _ rfl).2)
  subst hcA
  have := kk H1 locs ls (hP.push (show H1[H.size]? = some (vp_cell _ _) from e1) z1 o1) (hS.grow z1 o1) hl
  rw [← hi, ← hsz] at this
  exact this
theorem c_newL {idx n : Nat} {v : Int32} {i : Nat} (g : GC X E a0 hh cc own nL) (hi : es.length = i) (hw : Cond.arrayClass .long ∈ lw_gd) (hn : ¬ v < 0) (hN : v.toNatClampNeg = n) (hb : n * 8 ≤ 536870912) (hkc : kc + 1 ≤ (x_R X).cells) (hns : ns + n ≤ (x_R X).slots) (d : decode cc pc = .ok (.newarray .long, 2)) (kk : VC X E a0 nL (kc + 1) (ns + n) (pc + 2) lv (.ref (a0 + i) :: st) (es ++ [.inl (E.2.2 101, n, .inr (.inl (fun _ => 0)))])) : VC X E a0 nL kc ns pc lv (.int v :: st) es := by
  intro H locs ls hP hS hl
  have hsz := hP.1
  refine va_newaK g.1.1 g.1.2.1 (atype := .long) (g.1.2.2.2.2 _ hw) rfl d rfl hn hN hb hkc hns rfl fun H1 cA e1 z1 o1 hAr hNm => ?_
  have hcA : cA = E.2.2 101 := Option.some.inj (hNm.symm.trans (g.2.1.1.2 1 _ rfl).2)
  subst hcA
  have := kk H1 locs ls (hP.push (show H1[H.size]? = some (vp_cell _ _) from e1) z1 o1) (hS.grow z1 o1) hl
  rw [← hi, ← hsz] at this
  exact this
theorem c_newB {idx n : Nat} {v : Int32} {i : Nat} (g : GC X E a0 hh cc own nL) (hi : es.length = i) (hw : Cond.arrayClass .byte ∈ lw_gd) (hn : ¬ v < 0) (hN : v.toNatClampNeg = n) (hb : n * 1 ≤ 536870912) (hkc : kc + 1 ≤ (x_R X).cells) (hns : ns + n ≤ (x_R X).slots) (d : decode cc pc = .ok (.newarray .byte, 2)) (kk : VC X E a0 nL (kc + 1) (ns + n) (pc + 2) lv (.ref (a0 + i) :: st) (es ++ [.inl (E.2.2 102, n, .inl (fun _ => 0))])) : VC X E a0 nL kc ns pc lv (.int v :: st) es := by
  intro H locs ls hP hS hl
  have hsz := hP.1
  refine va_newaK g.1.1 g.1.2.1 (atype := .byte) (g.1.2.2.2.2 _ hw) rfl d rfl hn hN hb hkc hns rfl fun H1 cA e1 z1 o1 hAr hNm => ?_
  have hcA : cA = E.2.2 102 := Option.some.inj (hNm.symm.trans (g.2.1.1.2 2 _ rfl).2)
  subst hcA
  have := kk H1 locs ls (hP.push (show H1[H.size]? = some (vp_cell _ _) from e1) z1 o1) (hS.grow z1 o1) hl
  rw [← hi, ← hsz] at this
  exact this
/-- a row of references: of Sheets (t 3, code 103) or Hands (t 4, code 104) -/
theorem c_anew {C : String} {idx t cd n : Nat} {v : Int32} {i : Nat} (g : GC X E a0 hh cc own nL) (hi : es.length = i) (hao : va_AO C (x_s X)) (ht : (tysE E)[t]? = some (E.2.2 cd, .object C)) (hw : Cond.classLink own idx C ∈ lw_gd) (hn : ¬ v < 0) (hN : v.toNatClampNeg = n) (hb : n * 4 ≤ 536870912) (hkc : kc + 1 ≤ (x_R X).cells) (hns : ns + n ≤ (x_R X).slots) (d : decode cc pc = .ok (.anewarray idx, 3)) (kk : VC X E a0 nL (kc + 1) (ns + n) (pc + 3) lv (.ref (a0 + i) :: st) (es ++ [.inl (E.2.2 cd, n, .inr (.inr (.inr (.inr (fun _ => none)))))])) : VC X E a0 nL kc ns pc lv (.int v :: st) es := by
  intro H locs ls hP hS hl
  have hsz := hP.1
  subst hN
  refine W.anew g.1.1 g.1.2.1 g.1.2.2.2.1 (g.1.2.2.2.2 _ hw) (va_AO.use hao) rfl d rfl hn hb hkc hns fun cA kA comp f1 f2 f3 f4 => ?_
  obtain ⟨kA', comp', g1, g2, g3, g4⟩ := (g.2.1.1.2 t _ ht).2
  have hcA : cA = E.2.2 cd := Option.some.inj (f1.symm.trans g4)
  subst hcA
  generalize hH1 : H.push ({ cls := E.2.2 cd, slots := Array.replicate v.toNatClampNeg .null, vm := .none } : Cell) = H1
  have z1 : H1.size = H.size + 1 := by rw [← hH1, Array.size_push]
  have e1 : H1[H.size]? = some (arrV (E.2.2 cd) v.toNatClampNeg (fun _ => .null)) := by rw [← hH1, Array.getElem?_push_size, ← arrV_new]
  have o1 : ∀ q : Nat, q < H.size → H1[q]? = H[q]? := fun q hq => by rw [← hH1, Array.getElem?_push, if_neg (Nat.ne_of_lt hq)]
  have := kk H1 locs ls (hP.push (show H1[H.size]? = some (vp_cell _ _) from e1) z1 o1) (hS.grow z1 o1) hl
  rw [← hi, ← hsz] at this
  exact this
theorem c_iast {i n : Nat} {ix x : Int32} {f : Nat → Int32} (es' : List va_E) (g : GC X E a0 hh cc own nL) (he : es[i]? = some (.inl (E.2.2 100, n, .inl f))) (hin : vp_in ix n) (hes : es.set i (.inl (E.2.2 100, n, .inl (upd f ix.toNatClampNeg x))) = es') (d : decode cc pc = .ok (.iastore, 1)) (kk : VC X E a0 nL kc ns (pc + 1) lv st es') : VC X E a0 nL kc ns pc lv (.int x :: .int ix :: .ref (a0 + i) :: st) es := by
  intro H locs ls hP hS hl
  refine W.iast g.1.1 g.1.2.1 (hP.2 i _ (wldL_at he)) ((g.2.1.1.2 0 _ rfl).1 n (fun j => .int (f j))) (fun q => by cases q) (by show ¬ (ix < 0 ∨ (arrV _ _ _).slots.size ≤ _); rw [arrV_size]; exact hin) rfl rfl d fun H1 e z oq => ?_
  subst hes
  refine kk H1 _ ls (hP.set he ?_ z oq) (hS.put z oq (Nat.le_add_right _ _)) hl
  show H1[a0 + i]? = some (vp_cell _ _)
  rw [e]
  show some ((vp_cell (E.2.2 100) (n, .inl f)).setSlot ix.toNatClampNeg (Value.int x)) = some (vp_cell (E.2.2 100) (n, .inl (upd f ix.toNatClampNeg x)))
  rw [vp_cell_i, vp_cell_i, arrV_store]
  congr 2
  funext q
  by_cases hq : q = ix.toNatClampNeg
  · subst hq
    simp [updV, upd]
  · simp [updV, upd, hq]
theorem c_aast {C : String} {i k t cd ci n : Nat} {ix : Int32} {f : Nat → Option Nat} {r : vw_C} {vs : List Value} (es' : List va_E) (g : GC X E a0 hh cc own nL) (ht : (tysE E)[t]? = some (E.2.2 cd, .object r.1)) (hc : vwC[ci]? = some r) (he : es[i]? = some (.inl (E.2.2 cd, n, .inr (.inr (.inr (.inr f)))))) (hv : es[k]? = some (.inr (ci, vs))) (hin : vp_in ix n) (hes : es.set i (.inl (E.2.2 cd, n, .inr (.inr (.inr (.inr (va_up f ix.toNatClampNeg (some (a0 + k)))))))) = es') (d : decode cc pc = .ok (.aastore, 1)) (kk : VC X E a0 nL kc ns (pc + 1) lv st es') : VC X E a0 nL kc ns pc lv (.ref (a0 + k) :: .int ix :: .ref (a0 + i) :: st) es := by
  intro H locs ls hP hS hl
  have hlt : ix.toNatClampNeg < n := Nat.not_le.mp fun q => hin (Or.inr q)
  have h0 : ¬ ix < 0 := fun q => hin (Or.inl q)
  have hK := g.2.1.1
  obtain ⟨r', hr', cellV, g1, g2, g3, -⟩ := hP.2 k _ (wldL_at hv)
  have hcls := (hK.1 ci r hc).2
  obtain ⟨kA, comp, k1, k2, k3, -⟩ := (hK.2 t _ ht).2
  have hcomp : comp = E.1.1 ci := Option.some.inj (k3.symm.trans hcls.1)
  subst hcomp
  obtain ⟨kC, hkC, -⟩ := hcls.2
  refine W.aast g.1.1 g.1.2.1 (hP.2 i _ (wldL_at he)) (fun q h => by cases h) (fun h => by cases h) k1 k2 rfl hkC ⟨h0, by show _ < (arrV _ _ _).slots.size; rw [arrV_size]; exact hlt⟩ g1 (fun q h => by rw [g3] at h; cases h) (by rw [g2]; exact hkC) (by rw [g2]; exact va_assign hcls) rfl rfl d fun H1 e z oq => ?_
  subst hes
  refine kk H1 _ ls (hP.set he ?_ z oq) (hS.put z oq (Nat.le_add_right _ _)) hl
  show H1[a0 + i]? = some (vp_cell _ _)
  rw [e]
  show some ((vp_cell (E.2.2 cd) (n, .inr (.inr (.inr (.inr f))))).setSlot ix.toNatClampNeg (Value.ref (a0 + k))) = some (vp_cell (E.2.2 cd) (n, .inr (.inr (.inr (.inr (va_up f ix.toNatClampNeg (some (a0 + k))))))))
  rw [vp_cell_q, vp_cell_q, arrV_store]
  congr 2
  funext q
  by_cases hq : q = ix.toNatClampNeg
  · subst hq
    simp [updV, va_up, va_rf]
  · simp [updV, va_up, hq]
/-- a constructor's call: the cell at a0 + i, the last one, becomes the cells fs -/
theorem c_call {y : MethodName} {idx i n : Nat} {s0 fs : List va_E} {e0 : va_E} {As : List Value} {bytes : ByteArray} {maxL hc mc ms : Nat} (g : GC X E a0 hh cc own nL) (hlk : Cond.methodLink own idx y ∈ lw_gd ∨ ∃ host, (own, idx, y, host) ∈ nstC) (hy1 : y.name = "<init>") (h1 : Cond.instanceMethod y ∈ lw_gd) (h2 : Cond.initialized y.cls ∈ lw_gd) (h3 : Cond.code y bytes maxL none ∈ lw_gd) (h4 : y.cls ≠ "java/lang/invoke/MethodHandle" ∧ y.cls ≠ "java/lang/invoke/VarHandle" ∧ (parseMethodDescriptor y.desc).map (fun d => d.parameters.length) = some n) (hmx : maxL ≤ 45) (hM : CtC (x_l X) E y bytes maxL hc mc ms (a0 + i) (.ref (a0 + i) :: As) e0 fs) (hi : s0.length = i) (hes : es = s0 ++ [e0]) (hn : As.length = n) (hd : hc + 1 ≤ hh) (hw : (rest.map fun v => v.category).sum ≤ 8) (hkc : kc + mc ≤ (x_R X).cells) (hns : ns + ms ≤ (x_R X).slots) (d : decode cc pc = .ok (.invokespecial idx, 3)) (kk : VC X E a0 nL (kc + mc) (ns + ms) (pc + 3) lv rest (s0 ++ fs)) : VC X E a0 nL kc ns pc lv (As.reverse ++ .ref (a0 + i) :: rest) es := by
  obtain ⟨C0, hK, ha, hf, hlo⟩ := id g
  subst hes
  intro H locs ls hP hS hl
  have hb : FrameBlind (va_Pc (.ref (a0 + i) :: As) (fun U => KC E U ∧ PC E (a0 + i) [e0] U.heap)) := fun a U g mk h => ⟨h.1, h.2.1.same rfl, h.2.2⟩
  have hPe : PC E (a0 + i) [e0] H := by
    refine ⟨by rw [hP.1]; simp; omega, fun k q hk => ?_⟩
    have hk0 : k = 0 := by have := (wldL_key hk).1; simp at this; exact this
    subst hk0
    cases hk
    have := hP.2 s0.length (a0 + s0.length, e0) (wldL_at (by simp))
    rw [hi] at this
    exact this
  have hpre : PreS (x_s X) H (va_Pc (.ref (a0 + i) :: As) (fun U => KC E U ∧ PC E (a0 + i) [e0] U.heap)) (.ref (a0 + i) :: As) := ⟨hb, fun U hU hW => ⟨rfl, hK.moved hW, by rw [hU]; exact hPe⟩⟩
  have hrun : va_Run (x_p X) (x_l X) (x_e X) (x_R X) (x_s X) (x_m X) (x_a X) (x_b X) (x_h X) (x_c X) H locs kc ns mc ms (F0 (x_m X) pc ls (As.reverse ++ .ref (a0 + i) :: rest)) rest (QcC E (a0 + i) fs (Value.ref (a0 + i) :: As).toArray) (fun q => a0 + i ≤ q) := by
    rcases hlk with hlk | ⟨host, hlk⟩
    · exact va_runI (b := a0 + i) (As := As) (rest := rest) C0 hM ⟨callB_of n C0.2.2.2.2 (good_M h3) rfl rfl rfl (C0.2.2.2.2 _ h2) (C0.2.2.2.2 _ hlk) h4 ⟨by show hc + 1 ≤ _; omega, by show 8 + (maxL + 11) + 64 * hc ≤ _; omega⟩, hy1, C0.2.2.2.2 _ h1⟩ hpre rfl hn hl.1 rfl (lv_room hw) d ⟨hkc, hns⟩
    · exact va_runIN (b := a0 + i) (As := As) (rest := rest) C0 hM ⟨va_cnB n C0.2.2.2.2 (good_M h3) rfl rfl rfl (hK.2.1 _ hlk) (C0.2.2.2.2 _ h2) h4 ⟨by show hc + 1 ≤ _; omega, by show 8 + (maxL + 11) + 64 * hc ≤ _; omega⟩, hy1, C0.2.2.2.2 _ h1⟩ hpre rfl hn hl.1 rfl (lv_room hw) d ⟨hkc, hns⟩
  intro T0 hT0 X0
  obtain ⟨v, st₀, t, T', L, h0, X', hL, e1, e2, ⟨⟨hv, hz0, hb'⟩, hz, hkk⟩, stp⟩ := hrun T0 hT0 X0
  cases hv
  rw [h0] at hz hkk
  have hP' : PC E a0 (s0 ++ fs) T'.heap := by
    refine ⟨by rw [e1, hz0, List.length_append, hi]; omega, ?_⟩
    rw [wldL_app, hi]
    refine va_P.app (fun k q hk => ?_) (by rw [e1]; exact hb')
    have hkey := wldL_key hk
    have h00 : va_P E.1 vwC (wldL a0 s0) H := fun k q hk => hP.2 k q (by rw [wldL_app, List.getElem?_append_left (by rw [wldL_len]; exact (wldL_key hk).1)]; exact hk)
    refine (h00 k q hk).kept ?_
    rw [e1]
    refine hkk q.1 ?_ ?_
    · rw [hP.1]; simp; omega
    · show ¬ a0 + i ≤ q.1
      omega
  obtain ⟨t2, a1, b1⟩ := kk T'.heap (locs ++ L) ls hP'
    ⟨Nat.le_trans hS.1 (by rw [e1]; exact hz), fun q h1 h2 => by
      rw [e1, hkk q (Nat.lt_of_lt_of_le h1 hS.1) (fun z => h2 (Nat.le_trans (Nat.le_add_right a0 i) z))]; exact hS.2.1 q h1 h2, fun q hq => by
      rcases List.mem_append.mp hq with h | h
      · exact hS.2.2 q h
      · exact Nat.le_trans (Nat.le_add_right a0 i) (hL q h)⟩ hl T' rfl X'
  exact ⟨t2, stp t2 a1, b1⟩
end CRules
theorem ctC_of {l : Launch} {E : En} {y : MethodName} {bytes : ByteArray} {maxL dd mc ms a0 : Nat} {As : List Value} {e0 : va_E} {es : List va_E} (hy : plainName y.cls = true) (hyn : y.name = "<init>") (hA : (lg_sl As).length ≤ maxL)
    (hv : ∀ X : Xt, x_l X = l → (x_h X).name = "<init>" → (x_R X).cells = mc → (x_R X).slots = ms → GC X E a0 dd bytes y.cls maxL → (∀ pc lv, decode bytes pc = .ok (.return_, 1) → VC X E a0 maxL mc ms pc lv [] es) → VC X E a0 maxL 0 0 0 (lv_args 0 As) [] [e0]) : CtC l E y bytes maxL dd mc ms a0 As e0 es := by
  refine Met.ofW (cc := bytes) (maxL := maxL) (ret := none) hy rfl ?_
  intro p e s m args below meth c s₁ B hml hpre
  obtain ⟨rfl, hK, hP⟩ := hpre
  have hx := B.exec
  have hb := B.bytes
  have hr := B.returns
  have hts := atoms_spec (ws := wsM y bytes maxL none) B.pre
  have hown : s.vm.findClass y.cls = some m.cls := findClass_of_methodNamed B.named
  have hlocks := B.notSynchronized
  have hnm : meth.name = "<init>" := (name_of_methodNamed B.named B.method).1.trans hyn
  have hl := lv_entry As hA
  rw [lg_entry_eq]
  generalize (lg_sl As ++ List.replicate (maxL - (lg_sl As).length) Slot.unset).toArray = ls at hl ⊢
  refine hv (p, l, e, (headSpec (wsM y bytes maxL none) (rmC dd mc ms)).room, s, m, As.toArray, below, meth, c, 0, 0, MQ below (QcC E a0 es) As.toArray s mc ms (fun q => a0 ≤ q)) rfl hnm rfl rfl ⟨⟨hx, hb, hml, hown, fun w hw => hts w (List.mem_cons_of_mem _ hw)⟩, hK, by show a0 ≤ s.heap.size; rw [hP.1]; omega, Nat.le_refl _, Nat.le_refl _⟩ (fun pc lv d => ?_) s.heap [] ls hP va_S.rf hl
  intro H locs ls' hP' hS' hl'
  exact W.vret hx hb hr (fun t ht _ => ⟨⟨rfl, by rw [ht]; exact hP'⟩, hS'.F ht⟩) hS'.2.2 d hlocks
