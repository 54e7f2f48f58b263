/-! a call with up to 16 words below it on the stack -/
theorem r_VW {X : Xt} {E : En} {hh nL pc : Nat} {cc : ByteArray} {own : String} {R1 : Type} {emb1 : R1 → Option Value} {lv : List (Nat × Value)} {rest st0 : List Value} {σ : Sto} {f : Option (R1 × Sto)} {y : MethodName} {bytes : ByteArray} {maxL n hc idx ci o : Nat} {ret : Option FieldType} (As : List Value) (g : GG X E hh cc own nL) (hlk : Cond.methodLink own idx y ∈ lw_gd) (hy : YV y bytes maxL ret n ci) (hco : cls o = ci) (hm : ∀ (r : R1) (σ1 : Sto), f = some (r, σ1) → Ct (x_l X) E y (wsM y bytes maxL ret) hc (.ref (E.2.1 o) :: As) σ (emb1 r) σ1) (hst : As.reverse ++ .ref (E.2.1 o) :: rest = st0) (hn : As.length = n) (hd : hc + 1 ≤ hh) (hmx : maxL ≤ 37) (hw : (rest.map fun v => v.category).sum ≤ 16) (d : decode cc pc = .ok (.invokevirtual idx, 3)) : Ru X E nL pc lv st0 rest σ emb1 f := by
  obtain ⟨h1, h1b, h2, h3, h4, h5, h6, T, N, h7⟩ := hy
  obtain ⟨C0, hK, hDj, hf, hlo, hce, hsl⟩ := id g
  subst hst
  intro r σ1 hfr H locs ls hP hS hl
  have hrc := va_recv hK.1 hP h7 (q0 := o) (a := E.2.1 o) (fs := (List.range (nf ci)).map (fv E σ o)) (by rw [wld_get (cls_lt hco (by omega)), ent_obj hco (by omega)])
  refine ⟨(Value.ref (E.2.1 o) :: As).toArray, ?_⟩
  have hM := hm r σ1 hfr
  have hws := pay_in C0.2.2.2.2 (good_M (y := y) (bytes := bytes) (maxL := maxL) (ret := ret) h3)
  have hB : Back (x_l X) (x_R X) (x_p X) (x_e X) (x_b X) (x_s X) (x_a X) y 3 16 (PreOf (x_R X) 0 0 (va_Pc (.ref (E.2.1 o) :: As) (PreE E σ))) (PostOf (QcE E (emb1 r) σ1) 0 0 (AA E)) :=
    back_of (bytes := bytes) (maxL := maxL) (ret := ret) hM PreE.blind rfl rfl (by show hc + 1 ≤ _; omega) (by show 16 + (maxL + 11) + 64 * hc ≤ _; omega) hws List.mem_cons_self (fun a' U hW => word_at hW (Or.inl (by first | rfl | simp [Cond.onTables, Cond.keeps, Cond.steady])) (C0.2.2.2.2 _ h2))
  obtain ⟨cellB, hcB, hoB, hclB⟩ := hrc
  have hpre := (pre_S g (As := .ref (E.2.1 o) :: As) hP hS).2
  have hx := C0.1
  have hb := C0.2.1
  have hml := C0.2.2.1
  intro T0 hT0 X0
  obtain ⟨v, vm₁, ⟨U', l2, c2, s2⟩, hW₁, X', ⟨g', mk, t, L, e1, e2, hq, z1, hL, z2, z3⟩, stp⟩ := callV X0 hx (own := own) (C := y.cls) (index := idx) (y := y) (bytes := bytes) (maxL := maxL) (ret := ret) C0.2.2.2.1 (C0.2.2.2.2 _ hlk) (C0.2.2.2.2 _ h1) (C0.2.2.2.2 _ h1b) (C0.2.2.2.2 _ h3) ⟨h4.1, h4.2.1⟩ hB (by rw [hT0]; exact hcB) hoB hclB (g := F0 (x_m X) pc ls (As.reverse ++ .ref (E.2.1 o) :: rest)) rfl (hl.1.trans hml.symm) (argsL := As) (rest := rest) (fun sig h => by
      have h2 := h4.2.2
      rw [h] at h2
      exact hn.trans (Option.some.inj h2).symm) rfl (by
        have h0 := lv_room (m := x_m X) (pc := pc) (ls := ls) (rest := As.reverse ++ .ref (E.2.1 o) :: rest) (st := ([] : List Value)) (by simp)
        have h00 : 2 * (F0 (x_m X) pc ls (As.reverse ++ .ref (E.2.1 o) :: rest)).monitorRoom = 0 := by
          first | rfl | simp [F0, JFrame.monitorRoom]
        omega) (by rw [hb]; exact d)
    (fun vm₁ hW₁ => ⟨by omega, by omega, hpre (T0.setVm vm₁) hT0 hW₁⟩)
  dsimp only [Pt.U, Pt.locs, Pt.cells, Pt.slots] at X' e1 e2 z1 z2 z3 stp
  subst z1; subst z2; subst z3
  exact ⟨v, (T0.setVm vm₁).calling g' mk (Value.ref (E.2.1 o) :: As).toArray, t, U', L, hT0, X', hL, e1, e2, hq, stp⟩
