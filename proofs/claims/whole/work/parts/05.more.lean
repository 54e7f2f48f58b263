/-! what the printed functions use besides: results, arrays of arrays, copies, the table of kinds, String constants -/
def LF : Nat := 1000000
def eC (E : En) (o : Nat) (_ : Unit) : Option Value := some (.ref (E.2.1 o))
theorem sw_ne {x c : Int32} {k : Int} (h : ¬ x = c) (hc : c.toInt = k) : x.toInt ≠ k := fun e => h (Int32.toInt_inj.mp (e.trans hc.symm))
theorem cls_sh {i : Int32} (h : inb i 4 = true) : cls (36 + 2 * i.toNatClampNeg) = 7 := by
  simp only [inb, Bool.and_eq_true, decide_eq_true_eq] at h
  have key : ∀ k, k < 4 → cls (36 + 2 * k) = 7 := by decide +kernel
  exact key _ h.2
theorem cls_ha {i : Int32} (h : inb i 4 = true) : cls (44 + i.toNatClampNeg) = 1 := by
  simp only [inb, Bool.and_eq_true, decide_eq_true_eq] at h
  have key : ∀ k, k < 4 → cls (44 + k) = 1 := by decide +kernel
  exact key _ h.2
theorem rf_Net_1 {n : Nat} (h : cls n = 4) : rf n 1 = n + 1 := by simp [rf, h, rfL]
theorem ar_Net_1 {n : Nat} (h : cls n = 4) : cls (n + 1) = 100 ∧ ln (n + 1) = 40 := by
  have key : ∀ n, n < oN → cls n = 4 → cls (n + 1) = 100 ∧ ln (n + 1) = 40 := by decide +kernel
  exact key n (cls_lt h (by omega)) h
theorem rf_Net_2 {n : Nat} (h : cls n = 4) : rf n 2 = n + 2 := by simp [rf, h, rfL]
theorem ar_Net_2 {n : Nat} (h : cls n = 4) : cls (n + 2) = 100 ∧ ln (n + 2) = 40 := by
  have key : ∀ n, n < oN → cls n = 4 → cls (n + 2) = 100 ∧ ln (n + 2) = 40 := by decide +kernel
  exact key n (cls_lt h (by omega)) h
theorem rf_Net_3 {n : Nat} (h : cls n = 4) : rf n 3 = n + 3 := by simp [rf, h, rfL]
theorem ar_Net_3 {n : Nat} (h : cls n = 4) : cls (n + 3) = 101 ∧ ln (n + 3) = 40 := by
  have key : ∀ n, n < oN → cls n = 4 → cls (n + 3) = 101 ∧ ln (n + 3) = 40 := by decide +kernel
  exact key n (cls_lt h (by omega)) h
theorem rf_Net_4 {n : Nat} (h : cls n = 4) : rf n 4 = n + 4 := by simp [rf, h, rfL]
theorem ar_Net_4 {n : Nat} (h : cls n = 4) : cls (n + 4) = 100 ∧ ln (n + 4) = 40 := by
  have key : ∀ n, n < oN → cls n = 4 → cls (n + 4) = 100 ∧ ln (n + 4) = 40 := by decide +kernel
  exact key n (cls_lt h (by omega)) h
theorem rf_Sheet_2 {n : Nat} (h : cls n = 7) : rf n 2 = n + 1 := by simp [rf, h, rfL]
theorem ar_Sheet_2 {n : Nat} (h : cls n = 7) : cls (n + 1) = 100 ∧ ln (n + 1) = 60 := by
  have key : ∀ n, n < oN → cls n = 7 → cls (n + 1) = 100 ∧ ln (n + 1) = 60 := by decide +kernel
  exact key n (cls_lt h (by omega)) h
def cpk (sp : Int32) (n0 : Nat) (dp : Int32) (n1 : Nat) (n : Int32) : Bool := decide (0 ≤ sp) && decide (0 ≤ dp) && decide (0 ≤ n) && decide (sp.toNatClampNeg + n.toNatClampNeg ≤ n0) && decide (dp.toNatClampNeg + n.toNatClampNeg ≤ n1)
def str_len (id : Nat) (σ : Sto) : Option (Int32 × Sto) := if 1000 ≤ id ∧ id < 1011 then some (Int32.ofNat (lenS.getD (id - 1000) 0), σ) else none
def str_at (id : Nat) (i : Int32) (σ : Sto) : Option (Int32 × Sto) := if (1000 ≤ id ∧ id < 1011) ∧ inb i (lenS.getD (id - 1000) 0) = true then some ((bytS.getD (id - 1000) []).getD i.toNatClampNeg 0, σ) else none
def mxI (x y : Int32) : Int32 := if x < y then y else x
def mnI (x y : Int32) : Int32 := if y < x then y else x
def abI (x : Int32) : Int32 := if 0 ≤ x then x else 0 - x
section More
variable {X : Xt} {E : En} {hh nL pc : Nat} {cc : ByteArray} {own : String} {R : Type} {emb : R → Option Value} {lv lv' : List (Nat × Value)} {st rest st0 : List Value} {σ : Sto} {T : Option (R × Sto)}
theorem v_callI {f : Option (Int32 × Sto)} {kk : Int32 × Sto → Option (R × Sto)} (hr : Ru X E nL pc lv st0 rest σ eI f) (k : ∀ q : Int32 × Sto, VV X E cc nL emb (pc + 3) lv (.int q.1 :: rest) q.2 (kk q)) : VV X E cc nL emb pc lv st0 σ (f.bind kk) := v_call hr k
theorem v_callL {f : Option (Int64 × Sto)} {kk : Int64 × Sto → Option (R × Sto)} (hr : Ru X E nL pc lv st0 rest σ eL f) (k : ∀ q : Int64 × Sto, VV X E cc nL emb (pc + 3) lv (.long q.1 :: rest) q.2 (kk q)) : VV X E cc nL emb pc lv st0 σ (f.bind kk) := v_call hr k
theorem v_callB {f : Option (Bool × Sto)} {kk : Bool × Sto → Option (R × Sto)} (hr : Ru X E nL pc lv st0 rest σ eB f) (k : ∀ q : Bool × Sto, VV X E cc nL emb (pc + 3) lv (.int (b2i q.1) :: rest) q.2 (kk q)) : VV X E cc nL emb pc lv st0 σ (f.bind kk) := v_call hr k
theorem v_callU {f : Option (Unit × Sto)} {kk : Unit × Sto → Option (R × Sto)} (hr : Ru X E nL pc lv st0 rest σ eU f) (k : ∀ q : Unit × Sto, VV X E cc nL emb (pc + 3) lv rest q.2 (kk q)) : VV X E cc nL emb pc lv st0 σ (f.bind kk) := v_call hr k
theorem v_callR {f : Option (Nat × Sto)} {kk : Nat × Sto → Option (R × Sto)} (hr : Ru X E nL pc lv st0 rest σ (eR E) f) (k : ∀ q : Nat × Sto, VV X E cc nL emb (pc + 3) lv (.ref (E.2.1 q.1) :: rest) q.2 (kk q)) : VV X E cc nL emb pc lv st0 σ (f.bind kk) := v_call hr k
theorem v_callC {o : Nat} {f : Option (Unit × Sto)} {kk : Unit × Sto → Option (R × Sto)} (hr : Ru X E nL pc lv st0 rest σ (eC E o) f) (k : ∀ q : Unit × Sto, VV X E cc nL emb (pc + 3) lv (.ref (E.2.1 o) :: rest) q.2 (kk q)) : VV X E cc nL emb pc lv st0 σ (f.bind kk) := v_call hr k
theorem v_copyI {a b n0 n1 idx : Nat} {sp dp n : Int32} (g : GG X E hh cc own nL) (hlk : Cond.methodLink own idx arraycopyName ∈ lw_gd) (ha : cls a = 100) (hn0 : ln a = n0) (hb : cls b = 100) (hn1 : ln b = n1) (hh1 : 1 ≤ hh) (d : decode cc pc = .ok (.invokestatic idx, 3)) (kk : cpk sp n0 dp n1 n = true → VV X E cc nL emb (pc + 3) lv [] (cpI σ a sp.toNatClampNeg b dp.toNatClampNeg n.toNatClampNeg) T) : VV X E cc nL emb pc lv (.int n :: .int dp :: .ref (E.2.1 b) :: .int sp :: .ref (E.2.1 a) :: []) σ (if cpk sp n0 dp n1 n = true then T else none) := by
  subst hn0; subst hn1
  refine v_grd _ fun hc => ?_
  have hc' := hc
  simp only [cpk, Bool.and_eq_true, decide_eq_true_eq] at hc
  obtain ⟨⟨⟨⟨c1, c2⟩, c3⟩, c4⟩, c5⟩ := hc
  intro r σ' hT hF H locs ls hP hS hl
  obtain ⟨C0, hK, hDj, hf, hlo, hce, hsl⟩ := id g
  refine va_copyi (ty := .int) C0.1 C0.2.1 (C0.2.2.1.trans hl.1.symm) C0.2.2.2.1 (C0.2.2.2.2 _ hlk) (C0.2.2.2.2 _ (m1 736 (by decide +kernel) (by decide +kernel))) (C0.2.2.2.2 _ (m1 735 (by decide +kernel) (by decide +kernel))) (C0.2.2.2.2 _ ini_JSystem) hK.1 hP hDj.D hS a b 0 0 (by rw [wld_get (cls_lt ha (by omega)), ent_I ha]) (by rw [wld_get (cls_lt hb (by omega)), ent_I hb]) rfl rfl rfl (Int32.not_lt.mpr c1) (Int32.not_lt.mpr c2) (Int32.not_lt.mpr c3) c4 c5 (fun _ _ => rfl) (by omega) (Nat.le_trans (show _ ≤ 64 by decide +kernel) (by omega)) d (fun H1 locs1 p1 d1 s1 => ?_)
  rw [wld_set (E := E) (σ := σ) (o := b) (σ' := cpI σ a sp.toNatClampNeg b dp.toNatClampNeg n.toNatClampNeg) (by rw [ent_I hb]; congr 3; congr 1; funext j; simp [cpI, gI]; rfl) (fun q hq => ent_congr (fun j => by simp [cpI, gI, hq]) (fun j => rfl) rfl)] at p1
  exact kk hc' r σ' hT hF H1 locs1 ls p1 s1 hl
theorem v_copyL {a b n0 n1 idx : Nat} {sp dp n : Int32} (g : GG X E hh cc own nL) (hlk : Cond.methodLink own idx arraycopyName ∈ lw_gd) (ha : cls a = 101) (hn0 : ln a = n0) (hb : cls b = 101) (hn1 : ln b = n1) (hh1 : 1 ≤ hh) (d : decode cc pc = .ok (.invokestatic idx, 3)) (kk : cpk sp n0 dp n1 n = true → VV X E cc nL emb (pc + 3) lv [] (cpL σ a sp.toNatClampNeg b dp.toNatClampNeg n.toNatClampNeg) T) : VV X E cc nL emb pc lv (.int n :: .int dp :: .ref (E.2.1 b) :: .int sp :: .ref (E.2.1 a) :: []) σ (if cpk sp n0 dp n1 n = true then T else none) := by
  subst hn0; subst hn1
  refine v_grd _ fun hc => ?_
  have hc' := hc
  simp only [cpk, Bool.and_eq_true, decide_eq_true_eq] at hc
  obtain ⟨⟨⟨⟨c1, c2⟩, c3⟩, c4⟩, c5⟩ := hc
  intro r σ' hT hF H locs ls hP hS hl
  obtain ⟨C0, hK, hDj, hf, hlo, hce, hsl⟩ := id g
  refine va_copyl (ty := .long) C0.1 C0.2.1 (C0.2.2.1.trans hl.1.symm) C0.2.2.2.1 (C0.2.2.2.2 _ hlk) (C0.2.2.2.2 _ (m1 736 (by decide +kernel) (by decide +kernel))) (C0.2.2.2.2 _ (m1 735 (by decide +kernel) (by decide +kernel))) (C0.2.2.2.2 _ ini_JSystem) hK.1 hP hDj.D hS a b 1 1 (by rw [wld_get (cls_lt ha (by omega)), ent_L ha]) (by rw [wld_get (cls_lt hb (by omega)), ent_L hb]) rfl rfl rfl (Int32.not_lt.mpr c1) (Int32.not_lt.mpr c2) (Int32.not_lt.mpr c3) c4 c5 (fun _ _ => rfl) (by omega) (Nat.le_trans (show _ ≤ 64 by decide +kernel) (by omega)) d (fun H1 locs1 p1 d1 s1 => ?_)
  rw [wld_set (E := E) (σ := σ) (o := b) (σ' := cpL σ a sp.toNatClampNeg b dp.toNatClampNeg n.toNatClampNeg) (by rw [ent_L hb]; congr 4; congr 1; funext j; simp [cpL, gL]; rfl) (fun q hq => ent_congr (fun j => rfl) (fun j => by simp [cpL, gL, hq]) rfl)] at p1
  exact kk hc' r σ' hT hF H1 locs1 ls p1 s1 hl
theorem v_mmax {idx : Nat} {x y : Int32} (g : GG X E hh cc own nL) (hlk : Cond.methodLink own idx Lib.Math.max.name ∈ lw_gd) (hh1 : 1 ≤ hh) (hw : (st.map fun v => v.category).sum ≤ 40) (d : decode cc pc = .ok (.invokestatic idx, 3)) (kk : VV X E cc nL emb (pc + 3) lv (.int (mxI x y) :: st) σ T) : VV X E cc nL emb pc lv (.int y :: .int x :: st) σ T := by
  intro r σ' hT hF H locs ls hP hS hl
  obtain ⟨C0, hK, hDj, hf, hlo, hce, hsl⟩ := id g
  exact va_mmax C0.1 C0.2.1 (C0.2.2.1.trans hl.1.symm) C0.2.2.2.1 (C0.2.2.2.2 _ hlk) (C0.2.2.2.2 _ (m1 393 (by decide +kernel) (by decide +kernel))) (C0.2.2.2.2 _ ini_JMath) (C0.2.2.2.2 _ (m1 394 (by decide +kernel) (by decide +kernel))) (by omega) (by omega) hce hsl d (kk r σ' hT hF H locs ls hP hS hl)
theorem v_mmin {idx : Nat} {x y : Int32} (g : GG X E hh cc own nL) (hlk : Cond.methodLink own idx Lib.Math.min.name ∈ lw_gd) (hh1 : 1 ≤ hh) (hw : (st.map fun v => v.category).sum ≤ 40) (d : decode cc pc = .ok (.invokestatic idx, 3)) (kk : VV X E cc nL emb (pc + 3) lv (.int (mnI x y) :: st) σ T) : VV X E cc nL emb pc lv (.int y :: .int x :: st) σ T := by
  intro r σ' hT hF H locs ls hP hS hl
  obtain ⟨C0, hK, hDj, hf, hlo, hce, hsl⟩ := id g
  exact va_mmin C0.1 C0.2.1 (C0.2.2.1.trans hl.1.symm) C0.2.2.2.1 (C0.2.2.2.2 _ hlk) (C0.2.2.2.2 _ (m1 574 (by decide +kernel) (by decide +kernel))) (C0.2.2.2.2 _ ini_JMath) (C0.2.2.2.2 _ (m1 575 (by decide +kernel) (by decide +kernel))) (by omega) (by omega) hce hsl d (kk r σ' hT hF H locs ls hP hS hl)
theorem v_mabs {idx : Nat} {x : Int32} (g : GG X E hh cc own nL) (hlk : Cond.methodLink own idx Lib.Math.abs.name ∈ lw_gd) (hh1 : 1 ≤ hh) (hw : (st.map fun v => v.category).sum ≤ 40) (d : decode cc pc = .ok (.invokestatic idx, 3)) (kk : VV X E cc nL emb (pc + 3) lv (.int (abI x) :: st) σ T) : VV X E cc nL emb pc lv (.int x :: st) σ T := by
  intro r σ' hT hF H locs ls hP hS hl
  obtain ⟨C0, hK, hDj, hf, hlo, hce, hsl⟩ := id g
  exact va_mabs C0.1 C0.2.1 (C0.2.2.1.trans hl.1.symm) C0.2.2.2.1 (C0.2.2.2.2 _ hlk) (C0.2.2.2.2 _ (m1 450 (by decide +kernel) (by decide +kernel))) (C0.2.2.2.2 _ ini_JMath) (C0.2.2.2.2 _ (m1 451 (by decide +kernel) (by decide +kernel))) (by omega) (by omega) hce hsl d (kk r σ' hT hF H locs ls hP hS hl)
theorem v_getKab {idx : Nat} (g : GG X E hh cc R_FR nL) (hlk : Cond.fieldLink R_FR idx "FittingRings" "KIND_ABOVE" "[I" ∈ lw_gd) (d : decode cc pc = .ok (.getstatic idx, 3)) (kk : VV X E cc nL emb (pc + 3) lv (.ref (E.2.1 998) :: st) σ T) : VV X E cc nL emb pc lv st σ T := by
  intro r σ' hT hF H locs ls hP hS hl
  exact va_gets g.1.1 g.1.2.1 g.2.1.2.2.1.1 hS g.1.2.2.2.1 (g.1.2.2.2.2 _ hlk) (fun _ h => h) d (kk r σ' hT hF H locs ls hP hS hl)
theorem v_kab {i : Int32} (g : GG X E hh cc own nL) (d : decode cc pc = .ok (.iaload, 1)) (kk : inb i 6 = true → VV X E cc nL emb (pc + 1) lv (.int (kabL.getD i.toNatClampNeg 0) :: st) σ T) : VV X E cc nL emb pc lv (.int i :: .ref (E.2.1 998) :: st) σ (if inb i 6 = true then T else none) := by
  refine v_grd _ fun hi => ?_
  intro r σ' hT hF H locs ls hP hS hl
  exact va_ti g.1.1 g.1.2.1 g.2.1.2.2.1.2.1 hS (inb_in hi) rfl d (kk hi r σ' hT hF H locs ls hP hS hl)
theorem v_ldcS {idx : Nat} (i : Nat) (g : GG X E hh cc R_Tape nL) (hi : i < 11 ∧ (strL.getD i (0, "")).1 = idx) (d : decode cc pc = .ok (.ldc idx, 2)) (kk : VV X E cc nL emb (pc + 2) lv (.ref (E.2.1 (1000 + i)) :: st) σ T) : VV X E cc nL emb pc lv st σ T := by
  intro r σ' hT hF H locs ls hP hS hl
  obtain ⟨hi1, rfl⟩ := hi
  exact va_ldcS g.1.1 g.1.2.1 g.1.2.2.2.1 (g.2.1.2.2.2 i hi1) d (kk r σ' hT hF H locs ls hP hS hl)
theorem v_ldc_w {idx : Nat} {v : Int32} (g : GG X E hh cc own nL) (hc : Cond.constant own idx v ∈ lw_gd) (d : decode cc pc = .ok (.ldc_w idx, 3)) (k : VV X E cc nL emb (pc + 3) lv (.int v :: st) σ T) : VV X E cc nL emb pc lv st σ T :=
  fun r σ' hT hF H locs ls hP hS hl => lv_ldcw g.1.1 g.1.2.1 g.1.2.2.2.1 (g.1.2.2.2.2 _ hc) d (k r σ' hT hF H locs ls hP hS hl)
end More
