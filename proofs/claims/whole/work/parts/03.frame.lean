/-! THE STORE: what the cells of the system and of the reference hold, by number of the cell and place -/
abbrev Sto : Type := (Nat → Nat → Int32) × (Nat → Nat → Int64) × Nat
def gI (σ : Sto) (o j : Nat) : Int32 := σ.1 o j
def gL (σ : Sto) (o j : Nat) : Int64 := σ.2.1 o j
def gN (σ : Sto) : Nat := σ.2.2
def sI (σ : Sto) (o j : Nat) (v : Int32) : Sto := (fun a b => if a = o ∧ b = j then v else σ.1 a b, σ.2)
def sL (σ : Sto) (o j : Nat) (v : Int64) : Sto := (σ.1, fun a b => if a = o ∧ b = j then v else σ.2.1 a b, σ.2.2)
def sN (σ : Sto) (n : Nat) : Sto := (σ.1, σ.2.1, n)
def cpI (σ : Sto) (a sp b dp n : Nat) : Sto := (fun o => if o = b then va_cpy (σ.1 a) (σ.1 b) sp dp n else σ.1 o, σ.2)
def cpL (σ : Sto) (a sp b dp n : Nat) : Sto := (σ.1, fun o => if o = b then va_cpy (σ.2.1 a) (σ.2.1 b) sp dp n else σ.2.1 o, σ.2.2)
def cls (o : Nat) : Nat := clsL.getD o 99
def ln (o : Nat) : Nat := lnL.getD o 0
def nf (c : Nat) : Nat := nfL.getD c 0
def fk (c j : Nat) : Nat := (fkL.getD c []).getD j 0
def rf (o j : Nat) : Nat := if ((rfL.getD (cls o) []).getD j (false, 0)).1 = true then o + ((rfL.getD (cls o) []).getD j (false, 0)).2 else ((rfL.getD (cls o) []).getD j (false, 0)).2
/-- tables' numbers, the cells' addresses, the array classes -/
abbrev En : Type := va_G × (Nat → Nat) × (Nat → ClassId)
def fv (E : En) (σ : Sto) (o j : Nat) : Value := if fk (cls o) j = 0 then .int (gI σ o j) else if fk (cls o) j = 1 then .long (gL σ o j) else if fk (cls o) j = 2 then .ref (E.2.1 (rf o j)) else .ref (E.2.1 (gN σ))
def arE (E : En) (σ : Sto) (o : Nat) : (Nat → Int32) ⊕ (Nat → Int64) ⊕ (Nat → UInt32) ⊕ (Nat → UInt64) ⊕ (Nat → Option Nat) :=
  if cls o = 101 then .inr (.inl (gL σ o)) else if cls o = 103 then .inr (.inr (.inr (.inr (fun i => some (E.2.1 (36 + 2 * i)))))) else if cls o = 104 then .inr (.inr (.inr (.inr (fun i => some (E.2.1 (44 + i)))))) else .inl (gI σ o)
def ent (E : En) (σ : Sto) (o : Nat) : va_E := if cls o < 100 then .inr (cls o, (List.range (nf (cls o))).map (fv E σ o)) else .inl (E.2.2 (cls o), ln o, arE E σ o)
def wld (E : En) (σ : Sto) : va_W := (List.range oN).map (fun o => (E.2.1 o, ent E σ o))
theorem wld_get {E : En} {σ : Sto} {o : Nat} (h : o < oN) : (wld E σ)[o]? = some (E.2.1 o, ent E σ o) := by
  simp [wld, h]
theorem wld_set {E : En} {σ σ' : Sto} {o : Nat} {e : va_E} (he : ent E σ' o = e) (hx : ∀ q, q ≠ o → ent E σ' q = ent E σ q) : (wld E σ).set o (E.2.1 o, e) = wld E σ' := by
  apply List.ext_getElem?
  intro i
  by_cases hi : i < oN
  · rw [wld_get hi]
    by_cases ho : i = o
    · subst ho
      rw [List.getElem?_set_self (by simp [wld]; exact hi), he]
    · rw [List.getElem?_set_ne (Ne.symm ho), wld_get hi, hx i ho]
  · rw [List.getElem?_eq_none (by simp [wld]; omega), List.getElem?_eq_none (by simp [wld]; omega)]
theorem cls_lt {o c : Nat} (h : cls o = c) (hc : c ≠ 99) : o < oN := by
  rcases Nat.lt_or_ge o oN with q | q
  · exact q
  · exact absurd (by rw [← h]; simp [cls, List.getD]; rw [List.getElem?_eq_none (by exact q)]; rfl) hc
theorem ent_obj {E : En} {σ : Sto} {o c : Nat} (h : cls o = c) (hc : c < 100) : ent E σ o = .inr (c, (List.range (nf c)).map (fv E σ o)) := by
  subst h; simp [ent, hc]
theorem ent_I {E : En} {σ : Sto} {o : Nat} (h : cls o = 100) : ent E σ o = .inl (E.2.2 100, ln o, .inl (gI σ o)) := by
  simp [ent, arE, h]
theorem ent_B {E : En} {σ : Sto} {o : Nat} (h : cls o = 102) : ent E σ o = .inl (E.2.2 102, ln o, .inl (gI σ o)) := by
  simp [ent, arE, h]
theorem ent_L {E : En} {σ : Sto} {o : Nat} (h : cls o = 101) : ent E σ o = .inl (E.2.2 101, ln o, .inr (.inl (gL σ o))) := by
  simp [ent, arE, h]
theorem ent_S {E : En} {σ : Sto} {o : Nat} (h : cls o = 103) : ent E σ o = .inl (E.2.2 103, ln o, .inr (.inr (.inr (.inr (fun i => some (E.2.1 (36 + 2 * i))))))) := by
  simp [ent, arE, h]
theorem ent_H {E : En} {σ : Sto} {o : Nat} (h : cls o = 104) : ent E σ o = .inl (E.2.2 104, ln o, .inr (.inr (.inr (.inr (fun i => some (E.2.1 (44 + i))))))) := by
  simp [ent, arE, h]
theorem gI_sI (σ : Sto) (o j : Nat) (v : Int32) (a b : Nat) : gI (sI σ o j v) a b = if a = o ∧ b = j then v else gI σ a b := rfl
theorem gL_sI (σ : Sto) (o j : Nat) (v : Int32) (a b : Nat) : gL (sI σ o j v) a b = gL σ a b := rfl
theorem gN_sI (σ : Sto) (o j : Nat) (v : Int32) : gN (sI σ o j v) = gN σ := rfl
theorem gI_sL (σ : Sto) (o j : Nat) (v : Int64) (a b : Nat) : gI (sL σ o j v) a b = gI σ a b := rfl
theorem gL_sL (σ : Sto) (o j : Nat) (v : Int64) (a b : Nat) : gL (sL σ o j v) a b = if a = o ∧ b = j then v else gL σ a b := rfl
theorem gN_sL (σ : Sto) (o j : Nat) (v : Int64) : gN (sL σ o j v) = gN σ := rfl
theorem gI_sN (σ : Sto) (n a b : Nat) : gI (sN σ n) a b = gI σ a b := rfl
theorem gL_sN (σ : Sto) (n a b : Nat) : gL (sN σ n) a b = gL σ a b := rfl
theorem gN_sN (σ : Sto) (n : Nat) : gN (sN σ n) = n := rfl
/-- entries that a write elsewhere leaves -/
theorem ent_congr {E : En} {σ σ' : Sto} {o : Nat} (h1 : ∀ j, gI σ' o j = gI σ o j) (h2 : ∀ j, gL σ' o j = gL σ o j) (h3 : gN σ' = gN σ) : ent E σ' o = ent E σ o := by
  have e1 : gI σ' o = gI σ o := funext h1
  have e2 : gL σ' o = gL σ o := funext h2
  have e3 : fv E σ' o = fv E σ o := funext fun j => by simp [fv, h1, h2, h3]
  simp [ent, arE, e1, e2, e3]
theorem ent_sI {E : En} {σ : Sto} {o j : Nat} {v : Int32} {q : Nat} (h : q ≠ o) : ent E (sI σ o j v) q = ent E σ q :=
  ent_congr (fun b => by simp [gI_sI, h]) (fun b => rfl) rfl
theorem ent_sL {E : En} {σ : Sto} {o j : Nat} {v : Int64} {q : Nat} (h : q ≠ o) : ent E (sL σ o j v) q = ent E σ q :=
  ent_congr (fun b => rfl) (fun b => by simp [gL_sL, h]) rfl
theorem map_set {N : Nat} (f g : Nat → Value) (k : Nat) (v : Value) (hk : g k = v) (h : ∀ j, j ≠ k → g j = f j) : ((List.range N).map f).set k v = (List.range N).map g := by
  apply List.ext_getElem?
  intro i
  by_cases hi : i < N
  · by_cases hik : i = k
    · subst hik
      rw [List.getElem?_set_self (by simp; exact hi)]
      simp [hi, hk]
    · rw [List.getElem?_set_ne (Ne.symm hik)]
      simp [hi, h i hik]
  · rw [List.getElem?_eq_none (by simp; omega), List.getElem?_eq_none (by simp; omega)]
/-! what the cells are apart from the store: nobody's but ours -/
def AA (E : En) : Nat → Prop := fun q => ∃ o, o < oN ∧ q = E.2.1 o
def Dj (E : En) : Prop := ∀ i j, i < oN → j < oN → E.2.1 i = E.2.1 j → i = j
theorem Dj.D {E : En} {σ : Sto} (h : Dj E) : va_D (AA E) (wld E σ) := by
  have key : ∀ (k : Nat) (q : Nat × va_E), (wld E σ)[k]? = some q → k < oN ∧ q.1 = E.2.1 k := by
    intro k q hk
    have hl : k < oN := by
      have := (List.getElem?_eq_some_iff.mp hk).1
      simpa [wld] using this
    rw [wld_get hl] at hk
    cases hk
    exact ⟨hl, rfl⟩
  refine ⟨fun i j p q hi hj hpq => ?_, fun k q hk => ?_⟩
  · obtain ⟨a1, a2⟩ := key i p hi
    obtain ⟨b1, b2⟩ := key j q hj
    exact h i j a1 b1 (by rw [← a2, ← b2]; exact hpq)
  · obtain ⟨a1, a2⟩ := key k q hk
    exact ⟨k, a1, a2⟩
def tysE (E : En) : List (ClassId × FieldType) := [(E.2.2 100, .int), (E.2.2 101, .long), (E.2.2 102, .byte), (E.2.2 103, .object R_Sheet), (E.2.2 104, .object R_Hand)]
def kabL : List Int32 := [-1, 0, 0, 1, 2, 0]
def strL : List (Nat × String) := [(113, "point"), (103, "loud"), (105, "shy"), (107, "proud"), (109, "meek"), (111, "lone"), (123, "join"), (115, "cut"), (117, "all"), (119, "ring"), (121, "flip")]
def lenS : List Nat := [5, 4, 3, 5, 4, 4, 4, 3, 3, 4, 4]
def bytS : List (List Int32) := [[112, 111, 105, 110, 116], [108, 111, 117, 100], [115, 104, 121], [112, 114, 111, 117, 100], [109, 101, 101, 107], [108, 111, 110, 101], [106, 111, 105, 110], [99, 117, 116], [97, 108, 108], [114, 105, 110, 103], [102, 108, 105, 112]]
/-- what nobody writes: the table of kinds, the String constants -/
def RO (E : En) (U : State) (H : Heap) : Prop :=
  va_Z "FittingRings" "KIND_ABOVE" "[I" (.ref (E.2.1 998)) (AA E) U H ∧ va_T .int (E.2.1 998) 6 (fun j => .int (kabL.getD j 0)) (AA E) U H ∧
  va_Z "java/lang/String" "COMPACT_STRINGS" "Z" (.int 1) (AA E) U H ∧ va_Zq "jdk/internal/util/Preconditions" "SIOOBE_FORMATTER" "Ljava/util/function/BiFunction;" (AA E) U H ∧
  vk_S 11 lenS bytS (fun i => E.2.1 (1000 + i)) (fun i => E.2.1 (1100 + i)) (AA E) U H
def nstL : List (String × Nat × MethodName × String) := [(R_Net, 49, y_FR_isOf, R_FR), (R_Ranking, 62, y_FR_isOf, R_FR), (R_Judge, 89, y_FR_isOf, R_FR), (R_Finder, 54, y_FR_lastOf, R_FR), (R_Finder, 68, y_FR_isOf, R_FR), (R_Prover, 83, y_FR_isOf, R_FR), (R_Sheet, 41, y_FR_isOf, R_FR)]
def KK (E : En) (U : State) : Prop := va_K E.1 vwC (tysE E) U ∧ (∀ q ∈ nstL, va_Nw (.methodLinkNest q.1 q.2.1 q.2.2.1 q.2.2.2) U) ∧ RO E U U.heap ∧ ∀ i < 11, vk_R R_Tape (strL.getD i (0, "")).1 (strL.getD i (0, "")).2 (E.2.1 (1000 + i)) U
theorem RO.moved {E : En} {u U : State} {H H1 : Heap} (hvm : u.vm.Alike U.vm) (hq : ∀ a : Nat, a < H.size → ¬ AA E a → H1[a]? = H[a]?) (h : RO E u H) : RO E U H1 := by
  obtain ⟨h1, h2, h3, h4, h5⟩ := h
  exact ⟨(h1.moved hvm).kept hq, (h2.moved hvm).kept hq, (h3.moved hvm).kept hq, (h4.moved hvm).kept hq, (h5.moved hvm).kept hq⟩
theorem KK.moved {E : En} {s U : State} (hW : s.WarmedH U.vm) (hq : ∀ a : Nat, a < s.heap.size → ¬ AA E a → U.heap[a]? = s.heap[a]?) (h : KK E s) : KK E U := by
  obtain ⟨h1, h2, h3, h4⟩ := h
  exact ⟨h1.moved hW.alike, fun q hq => va_Nw.warmM hW (h2 q hq), h3.moved hW.alike hq, fun i hi => vk_R.warm hW (h4 i hi)⟩
theorem KK.same {E : En} {u U : State} (hv : U.vm = u.vm) (hh : U.heap = u.heap) (h : KK E u) : KK E U := by
  obtain ⟨h1, h2, h3, h4⟩ := h
  have hvm : u.vm.Alike U.vm := by rw [hv]; exact Vm.Alike.refl u.vm
  exact ⟨h1.moved hvm, fun q hq => va_Nw.same rfl hv.symm (h2 q hq), by rw [hh]; exact h3.moved hvm (fun _ _ _ => rfl), fun i hi => vk_R.same hv (h4 i hi)⟩
/-! THE JUDGEMENT: a frame of the machine does what a function says -/
abbrev Xt : Type := Program × Launch × Env × Room × State × MethodId × Array Value × List Frame × Method × Code × Nat × Nat × (State → Prop)
abbrev x_p (X : Xt) : Program := X.1
abbrev x_l (X : Xt) : Launch := X.2.1
abbrev x_e (X : Xt) : Env := X.2.2.1
abbrev x_R (X : Xt) : Room := X.2.2.2.1
abbrev x_s (X : Xt) : State := X.2.2.2.2.1
abbrev x_m (X : Xt) : MethodId := X.2.2.2.2.2.1
abbrev x_a (X : Xt) : Array Value := X.2.2.2.2.2.2.1
abbrev x_b (X : Xt) : List Frame := X.2.2.2.2.2.2.2.1
abbrev x_h (X : Xt) : Method := X.2.2.2.2.2.2.2.2.1
abbrev x_c (X : Xt) : Code := X.2.2.2.2.2.2.2.2.2.1
abbrev x_k (X : Xt) : Nat := X.2.2.2.2.2.2.2.2.2.2.1
abbrev x_n (X : Xt) : Nat := X.2.2.2.2.2.2.2.2.2.2.2.1
abbrev x_Q (X : Xt) : State → Prop := X.2.2.2.2.2.2.2.2.2.2.2.2
def XW (X : Xt) (H : Heap) (locs : List Loc) (g : JFrame) : Prop := W (x_p X) (x_l X) (x_e X) (x_R X) (x_s X) (x_m X) (x_a X) (x_b X) (x_h X) (x_c X) H locs (x_k X) (x_n X) (x_Q X) g
def GG (X : Xt) (E : En) (hh : Nat) (cc : ByteArray) (own : String) (nL : Nat) : Prop :=
  CallFix (x_p X) (x_m X) (x_c X) cc nL (x_s X) (x_a X) lw_gd own ∧ KK E (x_s X) ∧ Dj E ∧ hh ≤ (x_R X).frames ∧ 64 * hh ≤ (x_R X).locals ∧ x_k X ≤ (x_R X).cells ∧ x_n X ≤ (x_R X).slots
def retI : Option Value → Instr
  | none => .return_
  | some (.int _) => .ireturn
  | some (.long _) => .lreturn
  | some _ => .areturn
def Fin1 (X : Xt) (E : En) (cc : ByteArray) (v : Option Value) (σ : Sto) : Prop :=
  ∀ (H : Heap) (locs : List Loc) (ls : Array Slot) (pc : Nat), va_P E.1 vwC (wld E σ) H → va_S (AA E) (x_s X).heap H locs → decode cc pc = .ok (retI v, 1) → XW X H locs (F0 (x_m X) pc ls v.toList)
def VV (X : Xt) (E : En) (cc : ByteArray) (nL : Nat) {R : Type} (emb : R → Option Value) (pc : Nat) (lv : List (Nat × Value)) (st : List Value) (σ : Sto) (T : Option (R × Sto)) : Prop :=
  ∀ (r : R) (σ' : Sto), T = some (r, σ') → Fin1 X E cc (emb r) σ' → ∀ (H : Heap) (locs : List Loc) (ls : Array Slot), va_P E.1 vwC (wld E σ) H → va_S (AA E) (x_s X).heap H locs → lv_has ls nL lv → XW X H locs (F0 (x_m X) pc ls st)
/-- what a computation without a store answers, given a name -/
def lt1 {α β : Type} (x : α) (f : α → β) : β := f x
def b2i (b : Bool) : Int32 := if b = true then 1 else 0
def eI (x : Int32) : Option Value := some (.int x)
def eL (x : Int64) : Option Value := some (.long x)
def eB (b : Bool) : Option Value := some (.int (b2i b))
def eU (_ : Unit) : Option Value := none
def eR (E : En) (o : Nat) : Option Value := some (.ref (E.2.1 o))
def inb (i : Int32) (n : Nat) : Bool := decide (0 ≤ i) && decide (i.toNatClampNeg < n)
theorem inb_in {i : Int32} {n : Nat} (h : inb i n = true) : vp_in i n := by
  simp only [inb, Bool.and_eq_true, decide_eq_true_eq] at h
  rintro (q | q)
  · exact absurd h.1 (Int32.not_le.mpr q)
  · omega
def lsh (x : Int64) (y : Int32) : Int64 := x <<< (y.toInt64 &&& 63)
def lur (x : Int64) (y : Int32) : Int64 := (x.toUInt64 >>> (y.toInt64.toUInt64 &&& Int64.toUInt64 63)).toInt64
def ish (x y : Int32) : Int32 := x <<< (y &&& 31)
def isr (x y : Int32) : Int32 := x >>> (y &&& 31)
def iur (x y : Int32) : Int32 := (x.toUInt32 >>> (y.toUInt32 &&& Int32.toUInt32 31)).toInt32
def irm (x y : Int32) : Int32 := x - x / y * y
def lrm (x y : Int64) : Int64 := x - x / y * y
def i2b (x : Int32) : Int32 := x.toInt8.toInt32
def i2s (x : Int32) : Int32 := x.toInt16.toInt32
def i2c (x : Int32) : Int32 := (x.toUInt32 % 65536).toInt32
section Rules
variable {X : Xt} {E : En} {hh nL pc : Nat} {cc : ByteArray} {own : String} {R : Type} {emb : R → Option Value} {lv lv' : List (Nat × Value)} {st rest : List Value} {σ : Sto} {T T1 T2 : Option (R × Sto)}
theorem v_none : VV X E cc nL emb pc lv st σ none := fun r σ' h => by cases h
theorem v_eq (h : T = T1) (k : VV X E cc nL emb pc lv st σ T1) : VV X E cc nL emb pc lv st σ T := h ▸ k
theorem v_sub (ks : List Nat) (hl : lv_pick lv ks = lv') (k : VV X E cc nL emb pc lv' st σ T) : VV X E cc nL emb pc lv st σ T :=
  fun r σ' hT hF H locs ls hP hS hv => k r σ' hT hF H locs ls hP hS (lv_sub hv ks hl)
theorem v_grd {c : Prop} (dc : Decidable c) (k : c → VV X E cc nL emb pc lv st σ T) : VV X E cc nL emb pc lv st σ (if c then T else none) := by
  by_cases h : c
  · rw [if_pos h]; exact k h
  · rw [if_neg h]; exact v_none
theorem v_nlet {α : Type} {x : α} {f : α → Option (R × Sto)} (k : ∀ y : α, y = x → VV X E cc nL emb pc lv st σ (f y)) : VV X E cc nL emb pc lv st σ (lt1 x f) := k x rfl
theorem v_ret {r : R} (d : decode cc pc = .ok (retI (emb r), 1)) (hst : (emb r).toList = st) : VV X E cc nL emb pc lv st σ (some (r, σ)) := by
  intro r' σ' hT hF H locs ls hP hS hv
  cases hT
  subst hst
  exact hF H locs ls pc hP hS d
-- constants, locals
theorem v_iconst {n : Int} {v : Int32} (g : GG X E hh cc own nL) (d : decode cc pc = .ok (.iconst n, 1)) (hv : Int32.ofInt n = v) (k : VV X E cc nL emb (pc + 1) lv (.int v :: st) σ T) : VV X E cc nL emb pc lv st σ T :=
  fun r σ' hT hF H locs ls hP hS hl => lv_iconst g.1.1 g.1.2.1 d hv (k r σ' hT hF H locs ls hP hS hl)
theorem v_bipush {n : Int} {v : Int32} (g : GG X E hh cc own nL) (d : decode cc pc = .ok (.bipush n, 2)) (hv : (Int8.ofInt n).toInt32 = v) (k : VV X E cc nL emb (pc + 2) lv (.int v :: st) σ T) : VV X E cc nL emb pc lv st σ T :=
  fun r σ' hT hF H locs ls hP hS hl => lv_bipush g.1.1 g.1.2.1 d hv (k r σ' hT hF H locs ls hP hS hl)
theorem v_sipush {n : Int} {v : Int32} (g : GG X E hh cc own nL) (d : decode cc pc = .ok (.sipush n, 3)) (hv : (Int16.ofInt n).toInt32 = v) (k : VV X E cc nL emb (pc + 3) lv (.int v :: st) σ T) : VV X E cc nL emb pc lv st σ T :=
  fun r σ' hT hF H locs ls hP hS hl => lv_sipush g.1.1 g.1.2.1 d hv (k r σ' hT hF H locs ls hP hS hl)
theorem v_lconst {n : Fin 2} {v : Int64} (g : GG X E hh cc own nL) (d : decode cc pc = .ok (.lconst n, 1)) (hv : Int64.ofNat (n : Nat) = v) (k : VV X E cc nL emb (pc + 1) lv (.long v :: st) σ T) : VV X E cc nL emb pc lv st σ T :=
  fun r σ' hT hF H locs ls hP hS hl => lv_lconst g.1.1 g.1.2.1 d hv (k r σ' hT hF H locs ls hP hS hl)
theorem v_ldc {idx : Nat} {v : Int32} (g : GG X E hh cc own nL) (hc : Cond.constant own idx v ∈ lw_gd) (d : decode cc pc = .ok (.ldc idx, 2)) (k : VV X E cc nL emb (pc + 2) lv (.int v :: st) σ T) : VV X E cc nL emb pc lv st σ T :=
  fun r σ' hT hF H locs ls hP hS hl => lv_ldc g.1.1 g.1.2.1 g.1.2.2.2.1 (g.1.2.2.2.2 _ hc) d (k r σ' hT hF H locs ls hP hS hl)
theorem v_ldc2 {idx : Nat} {v : Int64} (g : GG X E hh cc own nL) (hc : Cond.constantLong own idx v ∈ lw_gd) (d : decode cc pc = .ok (.ldc2_w idx, 3)) (k : VV X E cc nL emb (pc + 3) lv (.long v :: st) σ T) : VV X E cc nL emb pc lv st σ T :=
  fun r σ' hT hF H locs ls hP hS hl => lv_ldc2 g.1.1 g.1.2.1 g.1.2.2.2.1 (g.1.2.2.2.2 _ hc) d (k r σ' hT hF H locs ls hP hS hl)
theorem v_iload (q : Nat) {i : Nat} {x : Int32} (g : GG X E hh cc own nL) (d : decode cc pc = .ok (.iload i, 2)) (hq : lv[q]? = some (i, .int x)) (k : VV X E cc nL emb (pc + 2) lv (.int x :: st) σ T) : VV X E cc nL emb pc lv st σ T :=
  fun r σ' hT hF H locs ls hP hS hl => lv_iload g.1.1 g.1.2.1 d (lv_at hl q hq) (k r σ' hT hF H locs ls hP hS hl)
theorem v_lload (q : Nat) {i : Nat} {x : Int64} (g : GG X E hh cc own nL) (d : decode cc pc = .ok (.lload i, 2)) (hq : lv[q]? = some (i, .long x)) (k : VV X E cc nL emb (pc + 2) lv (.long x :: st) σ T) : VV X E cc nL emb pc lv st σ T :=
  fun r σ' hT hF H locs ls hP hS hl => lv_lload g.1.1 g.1.2.1 d (lv_at hl q hq) (k r σ' hT hF H locs ls hP hS hl)
theorem v_aload (q : Nat) {i : Nat} {x : Nat} (g : GG X E hh cc own nL) (d : decode cc pc = .ok (.aload i, 2)) (hq : lv[q]? = some (i, .ref x)) (k : VV X E cc nL emb (pc + 2) lv (.ref x :: st) σ T) : VV X E cc nL emb pc lv st σ T :=
  fun r σ' hT hF H locs ls hP hS hl => lv_aload g.1.1 g.1.2.1 d (lv_at hl q hq) (k r σ' hT hF H locs ls hP hS hl)
theorem v_iload_n (q : Nat) {n : Fin 4} {x : Int32} (g : GG X E hh cc own nL) (d : decode cc pc = .ok (.iload_n n, 1)) (hq : lv[q]? = some ((n : Nat), .int x)) (k : VV X E cc nL emb (pc + 1) lv (.int x :: st) σ T) : VV X E cc nL emb pc lv st σ T :=
  fun r σ' hT hF H locs ls hP hS hl => lv_iload_n g.1.1 g.1.2.1 d rfl (lv_at hl q hq) (k r σ' hT hF H locs ls hP hS hl)
theorem v_lload_n (q : Nat) {n : Fin 4} {x : Int64} (g : GG X E hh cc own nL) (d : decode cc pc = .ok (.lload_n n, 1)) (hq : lv[q]? = some ((n : Nat), .long x)) (k : VV X E cc nL emb (pc + 1) lv (.long x :: st) σ T) : VV X E cc nL emb pc lv st σ T :=
  fun r σ' hT hF H locs ls hP hS hl => lv_lload_n g.1.1 g.1.2.1 d rfl (lv_at hl q hq) (k r σ' hT hF H locs ls hP hS hl)
theorem v_aload_n (q : Nat) {n : Fin 4} {x : Nat} (g : GG X E hh cc own nL) (d : decode cc pc = .ok (.aload_n n, 1)) (hq : lv[q]? = some ((n : Nat), .ref x)) (k : VV X E cc nL emb (pc + 1) lv (.ref x :: st) σ T) : VV X E cc nL emb pc lv st σ T :=
  fun r σ' hT hF H locs ls hP hS hl => lv_aload_n g.1.1 g.1.2.1 d rfl (lv_at hl q hq) (k r σ' hT hF H locs ls hP hS hl)
theorem v_istore (lv' : List (Nat × Value)) {i : Nat} {x : Int32} (g : GG X E hh cc own nL) (d : decode cc pc = .ok (.istore i, 2)) (hn : i < nL) (hl' : (i, Value.int x) :: lv.filter (fun q => !(q.1 == i) && !(q.1 + 1 == i && q.2.category == 2)) = lv') (k : VV X E cc nL emb (pc + 2) lv' st σ T) : VV X E cc nL emb pc lv (.int x :: st) σ T :=
  fun r σ' hT hF H locs ls hP hS hl => lv_istore g.1.1 g.1.2.1 d hl hn hl' (fun ls' h' => k r σ' hT hF H locs ls' hP hS h')
theorem v_lstore (lv' : List (Nat × Value)) {i : Nat} {x : Int64} (g : GG X E hh cc own nL) (d : decode cc pc = .ok (.lstore i, 2)) (hn : i + 1 < nL) (hl' : (i, Value.long x) :: lv.filter (fun q => !(q.1 == i) && (!(q.1 == i + 1) && !(q.1 + 1 == i && q.2.category == 2))) = lv') (k : VV X E cc nL emb (pc + 2) lv' st σ T) : VV X E cc nL emb pc lv (.long x :: st) σ T :=
  fun r σ' hT hF H locs ls hP hS hl => lv_lstore g.1.1 g.1.2.1 d hl hn hl' (fun ls' h' => k r σ' hT hF H locs ls' hP hS h')
theorem v_astore (lv' : List (Nat × Value)) {i : Nat} {x : Nat} (g : GG X E hh cc own nL) (d : decode cc pc = .ok (.astore i, 2)) (hn : i < nL) (hl' : (i, Value.ref x) :: lv.filter (fun q => !(q.1 == i) && !(q.1 + 1 == i && q.2.category == 2)) = lv') (k : VV X E cc nL emb (pc + 2) lv' st σ T) : VV X E cc nL emb pc lv (.ref x :: st) σ T :=
  fun r σ' hT hF H locs ls hP hS hl => lv_astore g.1.1 g.1.2.1 d hl hn hl' (fun ls' h' => k r σ' hT hF H locs ls' hP hS h')
theorem v_istore_n (lv' : List (Nat × Value)) {n : Fin 4} {x : Int32} (g : GG X E hh cc own nL) (d : decode cc pc = .ok (.istore_n n, 1)) (hn : (n : Nat) < nL) (hl' : ((n : Nat), Value.int x) :: lv.filter (fun q => !(q.1 == (n : Nat)) && !(q.1 + 1 == (n : Nat) && q.2.category == 2)) = lv') (k : VV X E cc nL emb (pc + 1) lv' st σ T) : VV X E cc nL emb pc lv (.int x :: st) σ T :=
  fun r σ' hT hF H locs ls hP hS hl => lv_istore_n g.1.1 g.1.2.1 d rfl hl hn hl' (fun ls' h' => k r σ' hT hF H locs ls' hP hS h')
theorem v_lstore_n (lv' : List (Nat × Value)) {n : Fin 4} {x : Int64} (g : GG X E hh cc own nL) (d : decode cc pc = .ok (.lstore_n n, 1)) (hn : (n : Nat) + 1 < nL) (hl' : ((n : Nat), Value.long x) :: lv.filter (fun q => !(q.1 == (n : Nat)) && (!(q.1 == (n : Nat) + 1) && !(q.1 + 1 == (n : Nat) && q.2.category == 2))) = lv') (k : VV X E cc nL emb (pc + 1) lv' st σ T) : VV X E cc nL emb pc lv (.long x :: st) σ T :=
  fun r σ' hT hF H locs ls hP hS hl => lv_lstore_n g.1.1 g.1.2.1 d rfl hl hn hl' (fun ls' h' => k r σ' hT hF H locs ls' hP hS h')
theorem v_astore_n (lv' : List (Nat × Value)) {n : Fin 4} {x : Nat} (g : GG X E hh cc own nL) (d : decode cc pc = .ok (.astore_n n, 1)) (hn : (n : Nat) < nL) (hl' : ((n : Nat), Value.ref x) :: lv.filter (fun q => !(q.1 == (n : Nat)) && !(q.1 + 1 == (n : Nat) && q.2.category == 2)) = lv') (k : VV X E cc nL emb (pc + 1) lv' st σ T) : VV X E cc nL emb pc lv (.ref x :: st) σ T :=
  fun r σ' hT hF H locs ls hP hS hl => lv_astore_n g.1.1 g.1.2.1 d rfl hl hn hl' (fun ls' h' => k r σ' hT hF H locs ls' hP hS h')
theorem v_iinc (q : Nat) (lv' : List (Nat × Value)) {i : Nat} {n : Int} {x v : Int32} (g : GG X E hh cc own nL) (d : decode cc pc = .ok (.iinc i n, 3)) (hq : lv[q]? = some (i, .int x)) (hv : Int32.ofInt n = v) (hn : i < nL) (hl' : (i, Value.int (x + v)) :: lv.filter (fun q => !(q.1 == i) && !(q.1 + 1 == i && q.2.category == 2)) = lv') (k : VV X E cc nL emb (pc + 3) lv' st σ T) : VV X E cc nL emb pc lv st σ T :=
  fun r σ' hT hF H locs ls hP hS hl => lv_iinc g.1.1 g.1.2.1 d hl hq (by rw [hv]) hn hl' (fun ls' h' => k r σ' hT hF H locs ls' hP hS h')
-- the stack
theorem v_dup {va : Value} (g : GG X E hh cc own nL) (d : decode cc pc = .ok (.dup, 1)) (hc : va.category = 1) (k : VV X E cc nL emb (pc + 1) lv (va :: va :: st) σ T) : VV X E cc nL emb pc lv (va :: st) σ T :=
  fun r σ' hT hF H locs ls hP hS hl => lv_dup g.1.1 g.1.2.1 d hc (k r σ' hT hF H locs ls hP hS hl)
theorem v_dup2_11 {va vb : Value} (g : GG X E hh cc own nL) (d : decode cc pc = .ok (.dup2, 1)) (hc : va.category = 1) (hb : vb.category = 1) (k : VV X E cc nL emb (pc + 1) lv (va :: vb :: va :: vb :: st) σ T) : VV X E cc nL emb pc lv (va :: vb :: st) σ T :=
  fun r σ' hT hF H locs ls hP hS hl => lv_dup2_11 g.1.1 g.1.2.1 d hc hb (k r σ' hT hF H locs ls hP hS hl)
theorem v_pop {va : Value} (g : GG X E hh cc own nL) (d : decode cc pc = .ok (.pop, 1)) (hc : va.category = 1) (k : VV X E cc nL emb (pc + 1) lv st σ T) : VV X E cc nL emb pc lv (va :: st) σ T :=
  fun r σ' hT hF H locs ls hP hS hl => lv_pop g.1.1 g.1.2.1 d hc (k r σ' hT hF H locs ls hP hS hl)
theorem v_goto {off : Int} (tgt : Nat) (g : GG X E hh cc own nL) (d : decode cc pc = .ok (.goto off, 3)) (ht : (pc : Int) + off = (tgt : Int)) (k : VV X E cc nL emb tgt lv st σ T) : VV X E cc nL emb pc lv st σ T :=
  fun r σ' hT hF H locs ls hP hS hl => lv_goto g.1.1 g.1.2.1 d ht (k r σ' hT hF H locs ls hP hS hl)
-- arithmetic
theorem v_iadd {x y : Int32} (g : GG X E hh cc own nL) (d : decode cc pc = .ok (.iadd, 1)) (k : VV X E cc nL emb (pc + 1) lv (.int (x + y) :: st) σ T) : VV X E cc nL emb pc lv (.int y :: .int x :: st) σ T :=
  fun r σ' hT hF H locs ls hP hS hl => lv_iadd g.1.1 g.1.2.1 d (k r σ' hT hF H locs ls hP hS hl)
theorem v_isub {x y : Int32} (g : GG X E hh cc own nL) (d : decode cc pc = .ok (.isub, 1)) (k : VV X E cc nL emb (pc + 1) lv (.int (x - y) :: st) σ T) : VV X E cc nL emb pc lv (.int y :: .int x :: st) σ T :=
  fun r σ' hT hF H locs ls hP hS hl => lv_isub g.1.1 g.1.2.1 d (k r σ' hT hF H locs ls hP hS hl)
theorem v_imul {x y : Int32} (g : GG X E hh cc own nL) (d : decode cc pc = .ok (.imul, 1)) (k : VV X E cc nL emb (pc + 1) lv (.int (x * y) :: st) σ T) : VV X E cc nL emb pc lv (.int y :: .int x :: st) σ T :=
  fun r σ' hT hF H locs ls hP hS hl => lv_imul g.1.1 g.1.2.1 d (k r σ' hT hF H locs ls hP hS hl)
theorem v_iand {x y : Int32} (g : GG X E hh cc own nL) (d : decode cc pc = .ok (.iand, 1)) (k : VV X E cc nL emb (pc + 1) lv (.int (x &&& y) :: st) σ T) : VV X E cc nL emb pc lv (.int y :: .int x :: st) σ T :=
  fun r σ' hT hF H locs ls hP hS hl => lv_iand g.1.1 g.1.2.1 d (k r σ' hT hF H locs ls hP hS hl)
theorem v_ior {x y : Int32} (g : GG X E hh cc own nL) (d : decode cc pc = .ok (.ior, 1)) (k : VV X E cc nL emb (pc + 1) lv (.int (x ||| y) :: st) σ T) : VV X E cc nL emb pc lv (.int y :: .int x :: st) σ T :=
  fun r σ' hT hF H locs ls hP hS hl => lv_ior g.1.1 g.1.2.1 d (k r σ' hT hF H locs ls hP hS hl)
theorem v_ixor {x y : Int32} (g : GG X E hh cc own nL) (d : decode cc pc = .ok (.ixor, 1)) (k : VV X E cc nL emb (pc + 1) lv (.int (x ^^^ y) :: st) σ T) : VV X E cc nL emb pc lv (.int y :: .int x :: st) σ T :=
  fun r σ' hT hF H locs ls hP hS hl => lv_ixor g.1.1 g.1.2.1 d (k r σ' hT hF H locs ls hP hS hl)
theorem v_ishl {x y : Int32} (g : GG X E hh cc own nL) (d : decode cc pc = .ok (.ishl, 1)) (k : VV X E cc nL emb (pc + 1) lv (.int (ish x y) :: st) σ T) : VV X E cc nL emb pc lv (.int y :: .int x :: st) σ T :=
  fun r σ' hT hF H locs ls hP hS hl => lv_ishl g.1.1 g.1.2.1 d (k r σ' hT hF H locs ls hP hS hl)
theorem v_ishr {x y : Int32} (g : GG X E hh cc own nL) (d : decode cc pc = .ok (.ishr, 1)) (k : VV X E cc nL emb (pc + 1) lv (.int (isr x y) :: st) σ T) : VV X E cc nL emb pc lv (.int y :: .int x :: st) σ T :=
  fun r σ' hT hF H locs ls hP hS hl => lv_ishr g.1.1 g.1.2.1 d (k r σ' hT hF H locs ls hP hS hl)
theorem v_ladd {x y : Int64} (g : GG X E hh cc own nL) (d : decode cc pc = .ok (.ladd, 1)) (k : VV X E cc nL emb (pc + 1) lv (.long (x + y) :: st) σ T) : VV X E cc nL emb pc lv (.long y :: .long x :: st) σ T :=
  fun r σ' hT hF H locs ls hP hS hl => lv_ladd g.1.1 g.1.2.1 d (k r σ' hT hF H locs ls hP hS hl)
theorem v_lsub {x y : Int64} (g : GG X E hh cc own nL) (d : decode cc pc = .ok (.lsub, 1)) (k : VV X E cc nL emb (pc + 1) lv (.long (x - y) :: st) σ T) : VV X E cc nL emb pc lv (.long y :: .long x :: st) σ T :=
  fun r σ' hT hF H locs ls hP hS hl => lv_lsub g.1.1 g.1.2.1 d (k r σ' hT hF H locs ls hP hS hl)
theorem v_land {x y : Int64} (g : GG X E hh cc own nL) (d : decode cc pc = .ok (.land, 1)) (k : VV X E cc nL emb (pc + 1) lv (.long (x &&& y) :: st) σ T) : VV X E cc nL emb pc lv (.long y :: .long x :: st) σ T :=
  fun r σ' hT hF H locs ls hP hS hl => lv_land g.1.1 g.1.2.1 d (k r σ' hT hF H locs ls hP hS hl)
theorem v_lor {x y : Int64} (g : GG X E hh cc own nL) (d : decode cc pc = .ok (.lor, 1)) (k : VV X E cc nL emb (pc + 1) lv (.long (x ||| y) :: st) σ T) : VV X E cc nL emb pc lv (.long y :: .long x :: st) σ T :=
  fun r σ' hT hF H locs ls hP hS hl => lv_lor g.1.1 g.1.2.1 d (k r σ' hT hF H locs ls hP hS hl)
theorem v_lxor {x y : Int64} (g : GG X E hh cc own nL) (d : decode cc pc = .ok (.lxor, 1)) (k : VV X E cc nL emb (pc + 1) lv (.long (x ^^^ y) :: st) σ T) : VV X E cc nL emb pc lv (.long y :: .long x :: st) σ T :=
  fun r σ' hT hF H locs ls hP hS hl => lv_lxor g.1.1 g.1.2.1 d (k r σ' hT hF H locs ls hP hS hl)
theorem v_iushr {x y : Int32} (g : GG X E hh cc own nL) (d : decode cc pc = .ok (.iushr, 1)) (k : VV X E cc nL emb (pc + 1) lv (.int (iur x y) :: st) σ T) : VV X E cc nL emb pc lv (.int y :: .int x :: st) σ T :=
  fun r σ' hT hF H locs ls hP hS hl => lv_iushr g.1.1 g.1.2.1 d rfl (k r σ' hT hF H locs ls hP hS hl)
theorem v_lshl {x : Int64} {y : Int32} (g : GG X E hh cc own nL) (d : decode cc pc = .ok (.lshl, 1)) (k : VV X E cc nL emb (pc + 1) lv (.long (lsh x y) :: st) σ T) : VV X E cc nL emb pc lv (.int y :: .long x :: st) σ T :=
  fun r σ' hT hF H locs ls hP hS hl => lv_lshl g.1.1 g.1.2.1 d rfl (k r σ' hT hF H locs ls hP hS hl)
theorem v_lushr {x : Int64} {y : Int32} (g : GG X E hh cc own nL) (d : decode cc pc = .ok (.lushr, 1)) (k : VV X E cc nL emb (pc + 1) lv (.long (lur x y) :: st) σ T) : VV X E cc nL emb pc lv (.int y :: .long x :: st) σ T :=
  fun r σ' hT hF H locs ls hP hS hl => lv_lushr g.1.1 g.1.2.1 d rfl (k r σ' hT hF H locs ls hP hS hl)
theorem v_ineg {x : Int32} (g : GG X E hh cc own nL) (d : decode cc pc = .ok (.ineg, 1)) (k : VV X E cc nL emb (pc + 1) lv (.int (-x) :: st) σ T) : VV X E cc nL emb pc lv (.int x :: st) σ T :=
  fun r σ' hT hF H locs ls hP hS hl => lv_ineg g.1.1 g.1.2.1 d (k r σ' hT hF H locs ls hP hS hl)
theorem v_lneg {x : Int64} (g : GG X E hh cc own nL) (d : decode cc pc = .ok (.lneg, 1)) (k : VV X E cc nL emb (pc + 1) lv (.long (-x) :: st) σ T) : VV X E cc nL emb pc lv (.long x :: st) σ T :=
  fun r σ' hT hF H locs ls hP hS hl => lv_lneg g.1.1 g.1.2.1 d (k r σ' hT hF H locs ls hP hS hl)
theorem v_i2l {x : Int32} (g : GG X E hh cc own nL) (d : decode cc pc = .ok (.i2l, 1)) (k : VV X E cc nL emb (pc + 1) lv (.long x.toInt64 :: st) σ T) : VV X E cc nL emb pc lv (.int x :: st) σ T :=
  fun r σ' hT hF H locs ls hP hS hl => lv_i2l g.1.1 g.1.2.1 d rfl (k r σ' hT hF H locs ls hP hS hl)
theorem v_l2i {x : Int64} (g : GG X E hh cc own nL) (d : decode cc pc = .ok (.l2i, 1)) (k : VV X E cc nL emb (pc + 1) lv (.int x.toInt32 :: st) σ T) : VV X E cc nL emb pc lv (.long x :: st) σ T :=
  fun r σ' hT hF H locs ls hP hS hl => lv_l2i g.1.1 g.1.2.1 d rfl (k r σ' hT hF H locs ls hP hS hl)
theorem v_i2b {x : Int32} (g : GG X E hh cc own nL) (d : decode cc pc = .ok (.i2b, 1)) (k : VV X E cc nL emb (pc + 1) lv (.int (i2b x) :: st) σ T) : VV X E cc nL emb pc lv (.int x :: st) σ T :=
  fun r σ' hT hF H locs ls hP hS hl => lv_i2b g.1.1 g.1.2.1 d rfl (k r σ' hT hF H locs ls hP hS hl)
theorem v_i2s {x : Int32} (g : GG X E hh cc own nL) (d : decode cc pc = .ok (.i2s, 1)) (k : VV X E cc nL emb (pc + 1) lv (.int (i2s x) :: st) σ T) : VV X E cc nL emb pc lv (.int x :: st) σ T :=
  fun r σ' hT hF H locs ls hP hS hl => lv_i2s g.1.1 g.1.2.1 d rfl (k r σ' hT hF H locs ls hP hS hl)
theorem v_i2c {x : Int32} (g : GG X E hh cc own nL) (d : decode cc pc = .ok (.i2c, 1)) (k : VV X E cc nL emb (pc + 1) lv (.int (i2c x) :: st) σ T) : VV X E cc nL emb pc lv (.int x :: st) σ T :=
  fun r σ' hT hF H locs ls hP hS hl => lv_i2c g.1.1 g.1.2.1 d rfl (k r σ' hT hF H locs ls hP hS hl)
theorem v_idiv {x y : Int32} (g : GG X E hh cc own nL) (d : decode cc pc = .ok (.idiv, 1)) (k : ¬ y = 0 → VV X E cc nL emb (pc + 1) lv (.int (x / y) :: st) σ T) : VV X E cc nL emb pc lv (.int y :: .int x :: st) σ (if ¬ y = 0 then T else none) := by
  by_cases hy : ¬ y = 0
  · rw [if_pos hy]
    exact fun r σ' hT hF H locs ls hP hS hl => lv_idiv g.1.1 g.1.2.1 d hy (k hy r σ' hT hF H locs ls hP hS hl)
  · rw [if_neg hy]; exact v_none
theorem v_irem {x y : Int32} (g : GG X E hh cc own nL) (d : decode cc pc = .ok (.irem, 1)) (k : ¬ y = 0 → VV X E cc nL emb (pc + 1) lv (.int (irm x y) :: st) σ T) : VV X E cc nL emb pc lv (.int y :: .int x :: st) σ (if ¬ y = 0 then T else none) := by
  by_cases hy : ¬ y = 0
  · rw [if_pos hy]
    exact fun r σ' hT hF H locs ls hP hS hl => lv_irem g.1.1 g.1.2.1 d hy (k hy r σ' hT hF H locs ls hP hS hl)
  · rw [if_neg hy]; exact v_none
theorem v_ldiv {x y : Int64} (g : GG X E hh cc own nL) (d : decode cc pc = .ok (.ldiv, 1)) (k : ¬ y = 0 → VV X E cc nL emb (pc + 1) lv (.long (x / y) :: st) σ T) : VV X E cc nL emb pc lv (.long y :: .long x :: st) σ (if ¬ y = 0 then T else none) := by
  by_cases hy : ¬ y = 0
  · rw [if_pos hy]
    exact fun r σ' hT hF H locs ls hP hS hl => lv_ldiv g.1.1 g.1.2.1 d hy (k hy r σ' hT hF H locs ls hP hS hl)
  · rw [if_neg hy]; exact v_none
theorem v_lrem {x y : Int64} (g : GG X E hh cc own nL) (d : decode cc pc = .ok (.lrem, 1)) (k : ¬ y = 0 → VV X E cc nL emb (pc + 1) lv (.long (lrm x y) :: st) σ T) : VV X E cc nL emb pc lv (.long y :: .long x :: st) σ (if ¬ y = 0 then T else none) := by
  by_cases hy : ¬ y = 0
  · rw [if_pos hy]
    exact fun r σ' hT hF H locs ls hP hS hl => lv_lrem g.1.1 g.1.2.1 d hy (k hy r σ' hT hF H locs ls hP hS hl)
  · rw [if_neg hy]; exact v_none
-- branches
theorem v_icmp_ne {x y : Int32} {off : Int} (tgt : Nat) (g : GG X E hh cc own nL) (d : decode cc pc = .ok (.if_icmp .ne off, 3)) (ht : (pc : Int) + off = (tgt : Int)) (kt : ¬ (x = y) → VV X E cc nL emb tgt lv st σ T1) (kf : x = y → VV X E cc nL emb (pc + 3) lv st σ T2) : VV X E cc nL emb pc lv (.int y :: .int x :: st) σ (if x = y then T2 else T1) :=
  fun r σ' hT hF H locs ls hP hS hl => lv_icmp_ne g.1.1 g.1.2.1 d ht (fun q => kt q r σ' (by rw [if_neg q] at hT; exact hT) hF H locs ls hP hS hl) (fun q => kf q r σ' (by rw [if_pos q] at hT; exact hT) hF H locs ls hP hS hl)
theorem v_if_ne {x : Int32} {off : Int} (tgt : Nat) (g : GG X E hh cc own nL) (d : decode cc pc = .ok (.ifCond .ne off, 3)) (ht : (pc : Int) + off = (tgt : Int)) (kt : ¬ (x = 0) → VV X E cc nL emb tgt lv st σ T1) (kf : x = 0 → VV X E cc nL emb (pc + 3) lv st σ T2) : VV X E cc nL emb pc lv (.int x :: st) σ (if x = 0 then T2 else T1) :=
  fun r σ' hT hF H locs ls hP hS hl => lv_if_ne g.1.1 g.1.2.1 d ht (fun q => kt q r σ' (by rw [if_neg q] at hT; exact hT) hF H locs ls hP hS hl) (fun q => kf q r σ' (by rw [if_pos q] at hT; exact hT) hF H locs ls hP hS hl)
theorem v_lcmp_ne {x y : Int64} {off : Int} (tgt : Nat) (g : GG X E hh cc own nL) (d0 : decode cc pc = .ok (.lcmp, 1)) (d : decode cc (pc + 1) = .ok (.ifCond .ne off, 3)) (ht : ((pc + 1 : Nat) : Int) + off = (tgt : Int)) (kt : ¬ (x = y) → VV X E cc nL emb tgt lv st σ T1) (kf : x = y → VV X E cc nL emb (pc + 4) lv st σ T2) : VV X E cc nL emb pc lv (.long y :: .long x :: st) σ (if x = y then T2 else T1) :=
  fun r σ' hT hF H locs ls hP hS hl => W.lcmp g.1.1 g.1.2.1 d0 (lv_if_ne g.1.1 g.1.2.1 d ht (fun q => kt (fun z => q ((lg_cmp_eq x y).mpr z)) r σ' (by rw [if_neg (fun z => q ((lg_cmp_eq x y).mpr z))] at hT; exact hT) hF H locs ls hP hS hl) (fun q => kf ((lg_cmp_eq x y).mp q) r σ' (by rw [if_pos ((lg_cmp_eq x y).mp q)] at hT; exact hT) hF H locs ls hP hS hl))
theorem v_icmp_eq {x y : Int32} {off : Int} (tgt : Nat) (g : GG X E hh cc own nL) (d : decode cc pc = .ok (.if_icmp .eq off, 3)) (ht : (pc : Int) + off = (tgt : Int)) (kt : x = y → VV X E cc nL emb tgt lv st σ T1) (kf : ¬ (x = y) → VV X E cc nL emb (pc + 3) lv st σ T2) : VV X E cc nL emb pc lv (.int y :: .int x :: st) σ (if x = y then T1 else T2) :=
  fun r σ' hT hF H locs ls hP hS hl => lv_icmp_eq g.1.1 g.1.2.1 d ht (fun q => kt q r σ' (by rw [if_pos q] at hT; exact hT) hF H locs ls hP hS hl) (fun q => kf q r σ' (by rw [if_neg q] at hT; exact hT) hF H locs ls hP hS hl)
theorem v_icmp_lt {x y : Int32} {off : Int} (tgt : Nat) (g : GG X E hh cc own nL) (d : decode cc pc = .ok (.if_icmp .lt off, 3)) (ht : (pc : Int) + off = (tgt : Int)) (kt : x < y → VV X E cc nL emb tgt lv st σ T1) (kf : ¬ (x < y) → VV X E cc nL emb (pc + 3) lv st σ T2) : VV X E cc nL emb pc lv (.int y :: .int x :: st) σ (if x < y then T1 else T2) :=
  fun r σ' hT hF H locs ls hP hS hl => lv_icmp_lt g.1.1 g.1.2.1 d ht (fun q => kt q r σ' (by rw [if_pos q] at hT; exact hT) hF H locs ls hP hS hl) (fun q => kf q r σ' (by rw [if_neg q] at hT; exact hT) hF H locs ls hP hS hl)
theorem v_icmp_ge {x y : Int32} {off : Int} (tgt : Nat) (g : GG X E hh cc own nL) (d : decode cc pc = .ok (.if_icmp .ge off, 3)) (ht : (pc : Int) + off = (tgt : Int)) (kt : y ≤ x → VV X E cc nL emb tgt lv st σ T1) (kf : ¬ (y ≤ x) → VV X E cc nL emb (pc + 3) lv st σ T2) : VV X E cc nL emb pc lv (.int y :: .int x :: st) σ (if y ≤ x then T1 else T2) :=
  fun r σ' hT hF H locs ls hP hS hl => lv_icmp_ge g.1.1 g.1.2.1 d ht (fun q => kt q r σ' (by rw [if_pos q] at hT; exact hT) hF H locs ls hP hS hl) (fun q => kf q r σ' (by rw [if_neg q] at hT; exact hT) hF H locs ls hP hS hl)
theorem v_icmp_gt {x y : Int32} {off : Int} (tgt : Nat) (g : GG X E hh cc own nL) (d : decode cc pc = .ok (.if_icmp .gt off, 3)) (ht : (pc : Int) + off = (tgt : Int)) (kt : y < x → VV X E cc nL emb tgt lv st σ T1) (kf : ¬ (y < x) → VV X E cc nL emb (pc + 3) lv st σ T2) : VV X E cc nL emb pc lv (.int y :: .int x :: st) σ (if y < x then T1 else T2) :=
  fun r σ' hT hF H locs ls hP hS hl => lv_icmp_gt g.1.1 g.1.2.1 d ht (fun q => kt q r σ' (by rw [if_pos q] at hT; exact hT) hF H locs ls hP hS hl) (fun q => kf q r σ' (by rw [if_neg q] at hT; exact hT) hF H locs ls hP hS hl)
theorem v_icmp_le {x y : Int32} {off : Int} (tgt : Nat) (g : GG X E hh cc own nL) (d : decode cc pc = .ok (.if_icmp .le off, 3)) (ht : (pc : Int) + off = (tgt : Int)) (kt : x ≤ y → VV X E cc nL emb tgt lv st σ T1) (kf : ¬ (x ≤ y) → VV X E cc nL emb (pc + 3) lv st σ T2) : VV X E cc nL emb pc lv (.int y :: .int x :: st) σ (if x ≤ y then T1 else T2) :=
  fun r σ' hT hF H locs ls hP hS hl => lv_icmp_le g.1.1 g.1.2.1 d ht (fun q => kt q r σ' (by rw [if_pos q] at hT; exact hT) hF H locs ls hP hS hl) (fun q => kf q r σ' (by rw [if_neg q] at hT; exact hT) hF H locs ls hP hS hl)
theorem v_if_eq {x : Int32} {off : Int} (tgt : Nat) (g : GG X E hh cc own nL) (d : decode cc pc = .ok (.ifCond .eq off, 3)) (ht : (pc : Int) + off = (tgt : Int)) (kt : x = 0 → VV X E cc nL emb tgt lv st σ T1) (kf : ¬ (x = 0) → VV X E cc nL emb (pc + 3) lv st σ T2) : VV X E cc nL emb pc lv (.int x :: st) σ (if x = 0 then T1 else T2) :=
  fun r σ' hT hF H locs ls hP hS hl => lv_if_eq g.1.1 g.1.2.1 d ht (fun q => kt q r σ' (by rw [if_pos q] at hT; exact hT) hF H locs ls hP hS hl) (fun q => kf q r σ' (by rw [if_neg q] at hT; exact hT) hF H locs ls hP hS hl)
theorem v_if_lt {x : Int32} {off : Int} (tgt : Nat) (g : GG X E hh cc own nL) (d : decode cc pc = .ok (.ifCond .lt off, 3)) (ht : (pc : Int) + off = (tgt : Int)) (kt : x < 0 → VV X E cc nL emb tgt lv st σ T1) (kf : ¬ (x < 0) → VV X E cc nL emb (pc + 3) lv st σ T2) : VV X E cc nL emb pc lv (.int x :: st) σ (if x < 0 then T1 else T2) :=
  fun r σ' hT hF H locs ls hP hS hl => lv_if_lt g.1.1 g.1.2.1 d ht (fun q => kt q r σ' (by rw [if_pos q] at hT; exact hT) hF H locs ls hP hS hl) (fun q => kf q r σ' (by rw [if_neg q] at hT; exact hT) hF H locs ls hP hS hl)
theorem v_if_ge {x : Int32} {off : Int} (tgt : Nat) (g : GG X E hh cc own nL) (d : decode cc pc = .ok (.ifCond .ge off, 3)) (ht : (pc : Int) + off = (tgt : Int)) (kt : 0 ≤ x → VV X E cc nL emb tgt lv st σ T1) (kf : ¬ (0 ≤ x) → VV X E cc nL emb (pc + 3) lv st σ T2) : VV X E cc nL emb pc lv (.int x :: st) σ (if 0 ≤ x then T1 else T2) :=
  fun r σ' hT hF H locs ls hP hS hl => lv_if_ge g.1.1 g.1.2.1 d ht (fun q => kt q r σ' (by rw [if_pos q] at hT; exact hT) hF H locs ls hP hS hl) (fun q => kf q r σ' (by rw [if_neg q] at hT; exact hT) hF H locs ls hP hS hl)
theorem v_if_gt {x : Int32} {off : Int} (tgt : Nat) (g : GG X E hh cc own nL) (d : decode cc pc = .ok (.ifCond .gt off, 3)) (ht : (pc : Int) + off = (tgt : Int)) (kt : 0 < x → VV X E cc nL emb tgt lv st σ T1) (kf : ¬ (0 < x) → VV X E cc nL emb (pc + 3) lv st σ T2) : VV X E cc nL emb pc lv (.int x :: st) σ (if 0 < x then T1 else T2) :=
  fun r σ' hT hF H locs ls hP hS hl => lv_if_gt g.1.1 g.1.2.1 d ht (fun q => kt q r σ' (by rw [if_pos q] at hT; exact hT) hF H locs ls hP hS hl) (fun q => kf q r σ' (by rw [if_neg q] at hT; exact hT) hF H locs ls hP hS hl)
theorem v_if_le {x : Int32} {off : Int} (tgt : Nat) (g : GG X E hh cc own nL) (d : decode cc pc = .ok (.ifCond .le off, 3)) (ht : (pc : Int) + off = (tgt : Int)) (kt : x ≤ 0 → VV X E cc nL emb tgt lv st σ T1) (kf : ¬ (x ≤ 0) → VV X E cc nL emb (pc + 3) lv st σ T2) : VV X E cc nL emb pc lv (.int x :: st) σ (if x ≤ 0 then T1 else T2) :=
  fun r σ' hT hF H locs ls hP hS hl => lv_if_le g.1.1 g.1.2.1 d ht (fun q => kt q r σ' (by rw [if_pos q] at hT; exact hT) hF H locs ls hP hS hl) (fun q => kf q r σ' (by rw [if_neg q] at hT; exact hT) hF H locs ls hP hS hl)
theorem v_lcmp_eq {x y : Int64} {off : Int} (tgt : Nat) (g : GG X E hh cc own nL) (d0 : decode cc pc = .ok (.lcmp, 1)) (d : decode cc (pc + 1) = .ok (.ifCond .eq off, 3)) (ht : ((pc + 1 : Nat) : Int) + off = (tgt : Int)) (kt : x = y → VV X E cc nL emb tgt lv st σ T1) (kf : ¬ (x = y) → VV X E cc nL emb (pc + 4) lv st σ T2) : VV X E cc nL emb pc lv (.long y :: .long x :: st) σ (if x = y then T1 else T2) :=
  fun r σ' hT hF H locs ls hP hS hl => W.lcmp g.1.1 g.1.2.1 d0 (lv_if_eq g.1.1 g.1.2.1 d ht (fun q => kt ((lg_cmp_eq x y).mp q) r σ' (by rw [if_pos ((lg_cmp_eq x y).mp q)] at hT; exact hT) hF H locs ls hP hS hl) (fun q => kf (fun z => q ((lg_cmp_eq x y).mpr z)) r σ' (by rw [if_neg (fun z => q ((lg_cmp_eq x y).mpr z))] at hT; exact hT) hF H locs ls hP hS hl))
theorem v_lcmp_lt {x y : Int64} {off : Int} (tgt : Nat) (g : GG X E hh cc own nL) (d0 : decode cc pc = .ok (.lcmp, 1)) (d : decode cc (pc + 1) = .ok (.ifCond .lt off, 3)) (ht : ((pc + 1 : Nat) : Int) + off = (tgt : Int)) (kt : x < y → VV X E cc nL emb tgt lv st σ T1) (kf : ¬ (x < y) → VV X E cc nL emb (pc + 4) lv st σ T2) : VV X E cc nL emb pc lv (.long y :: .long x :: st) σ (if x < y then T1 else T2) :=
  fun r σ' hT hF H locs ls hP hS hl => W.lcmp g.1.1 g.1.2.1 d0 (lv_if_lt g.1.1 g.1.2.1 d ht (fun q => kt ((lg_cmp_lt x y).mp q) r σ' (by rw [if_pos ((lg_cmp_lt x y).mp q)] at hT; exact hT) hF H locs ls hP hS hl) (fun q => kf (fun z => q ((lg_cmp_lt x y).mpr z)) r σ' (by rw [if_neg (fun z => q ((lg_cmp_lt x y).mpr z))] at hT; exact hT) hF H locs ls hP hS hl))
theorem v_lcmp_ge {x y : Int64} {off : Int} (tgt : Nat) (g : GG X E hh cc own nL) (d0 : decode cc pc = .ok (.lcmp, 1)) (d : decode cc (pc + 1) = .ok (.ifCond .ge off, 3)) (ht : ((pc + 1 : Nat) : Int) + off = (tgt : Int)) (kt : y ≤ x → VV X E cc nL emb tgt lv st σ T1) (kf : ¬ (y ≤ x) → VV X E cc nL emb (pc + 4) lv st σ T2) : VV X E cc nL emb pc lv (.long y :: .long x :: st) σ (if y ≤ x then T1 else T2) :=
  fun r σ' hT hF H locs ls hP hS hl => W.lcmp g.1.1 g.1.2.1 d0 (lv_if_ge g.1.1 g.1.2.1 d ht (fun q => kt ((lg_cmp_ge x y).mp q) r σ' (by rw [if_pos ((lg_cmp_ge x y).mp q)] at hT; exact hT) hF H locs ls hP hS hl) (fun q => kf (fun z => q ((lg_cmp_ge x y).mpr z)) r σ' (by rw [if_neg (fun z => q ((lg_cmp_ge x y).mpr z))] at hT; exact hT) hF H locs ls hP hS hl))
theorem v_lcmp_gt {x y : Int64} {off : Int} (tgt : Nat) (g : GG X E hh cc own nL) (d0 : decode cc pc = .ok (.lcmp, 1)) (d : decode cc (pc + 1) = .ok (.ifCond .gt off, 3)) (ht : ((pc + 1 : Nat) : Int) + off = (tgt : Int)) (kt : y < x → VV X E cc nL emb tgt lv st σ T1) (kf : ¬ (y < x) → VV X E cc nL emb (pc + 4) lv st σ T2) : VV X E cc nL emb pc lv (.long y :: .long x :: st) σ (if y < x then T1 else T2) :=
  fun r σ' hT hF H locs ls hP hS hl => W.lcmp g.1.1 g.1.2.1 d0 (lv_if_gt g.1.1 g.1.2.1 d ht (fun q => kt ((lg_cmp_gt x y).mp q) r σ' (by rw [if_pos ((lg_cmp_gt x y).mp q)] at hT; exact hT) hF H locs ls hP hS hl) (fun q => kf (fun z => q ((lg_cmp_gt x y).mpr z)) r σ' (by rw [if_neg (fun z => q ((lg_cmp_gt x y).mpr z))] at hT; exact hT) hF H locs ls hP hS hl))
theorem v_lcmp_le {x y : Int64} {off : Int} (tgt : Nat) (g : GG X E hh cc own nL) (d0 : decode cc pc = .ok (.lcmp, 1)) (d : decode cc (pc + 1) = .ok (.ifCond .le off, 3)) (ht : ((pc + 1 : Nat) : Int) + off = (tgt : Int)) (kt : x ≤ y → VV X E cc nL emb tgt lv st σ T1) (kf : ¬ (x ≤ y) → VV X E cc nL emb (pc + 4) lv st σ T2) : VV X E cc nL emb pc lv (.long y :: .long x :: st) σ (if x ≤ y then T1 else T2) :=
  fun r σ' hT hF H locs ls hP hS hl => W.lcmp g.1.1 g.1.2.1 d0 (lv_if_le g.1.1 g.1.2.1 d ht (fun q => kt ((lg_cmp_le x y).mp q) r σ' (by rw [if_pos ((lg_cmp_le x y).mp q)] at hT; exact hT) hF H locs ls hP hS hl) (fun q => kf (fun z => q ((lg_cmp_le x y).mpr z)) r σ' (by rw [if_neg (fun z => q ((lg_cmp_le x y).mpr z))] at hT; exact hT) hF H locs ls hP hS hl))
theorem v_tableIn {dflt lo hi : Int} {offs : Array Int} {len : Nat} {x : Int32} {off : Int} (tgt : Nat) (g : GG X E hh cc own nL) (d : decode cc pc = .ok (.tableswitch dflt lo hi offs, len)) (h1 : ¬ x.toInt < lo) (h2 : ¬ hi < x.toInt) (ho : offs[(x.toInt - lo).toNat]? = some off) (ht : (pc : Int) + off = (tgt : Int)) (k : VV X E cc nL emb tgt lv st σ T) : VV X E cc nL emb pc lv (.int x :: st) σ T :=
  fun r σ' hT hF H locs ls hP hS hl => lv_tableIn g.1.1 g.1.2.1 d h1 h2 ho ht (k r σ' hT hF H locs ls hP hS hl)
theorem v_tableOut {dflt lo hi : Int} {offs : Array Int} {len : Nat} {x : Int32} (tgt : Nat) (g : GG X E hh cc own nL) (d : decode cc pc = .ok (.tableswitch dflt lo hi offs, len)) (h : x.toInt < lo ∨ hi < x.toInt) (ht : (pc : Int) + dflt = (tgt : Int)) (k : VV X E cc nL emb tgt lv st σ T) : VV X E cc nL emb pc lv (.int x :: st) σ T :=
  fun r σ' hT hF H locs ls hP hS hl => lv_tableOut g.1.1 g.1.2.1 d h ht (k r σ' hT hF H locs ls hP hS hl)
/-- a switch's case by case -/
theorem v_ite {c : Prop} (dc : Decidable c) (kt : c → VV X E cc nL emb pc lv st σ T1) (kf : ¬ c → VV X E cc nL emb pc lv st σ T2) : VV X E cc nL emb pc lv st σ (if c then T1 else T2) := by
  by_cases h : c
  · rw [if_pos h]; exact kt h
  · rw [if_neg h]; exact kf h
-- fields
/-- the field k of the class ci, as the class own's pool entry idx spells it -/
def FF (own : String) (idx ci k : Nat) : Prop := ∃ (C : String) (T : u_T) (N : Nat), vwC[ci]? = some (C, T, N) ∧ (∀ w ∈ u_ws C T N, w ∈ lw_gd) ∧ k < N ∧ N = nf ci ∧ ci < 99 ∧ Cond.fieldLink own idx (T k).1 (T k).2.1 (T k).2.2.1 ∈ lw_gd
/-- .. and may be written outside of constructors, as of the type ty -/
def FP (own : String) (idx ci k : Nat) (ty : FieldType) : Prop := ∃ (C : String) (T : u_T) (N : Nat), vwC[ci]? = some (C, T, N) ∧ (∀ w ∈ u_ws C T N, w ∈ lw_gd) ∧ k < N ∧ N = nf ci ∧ ci < 99 ∧ Cond.fieldLink own idx (T k).1 (T k).2.1 (T k).2.2.1 ∈ lw_gd ∧ (∃ ty0 : Nat → FieldType, ∀ k, k < N → parseFieldDescriptor (T k).2.2.1 = some (ty0 k)) ∧ (∀ a, a < N → ∀ b, b < N → a ≠ b → (T a).2.1 ≠ (T b).2.1) ∧ (T k).2.2.2 = false ∧ parseFieldDescriptor (T k).2.2.1 = some ty
theorem v_get {o ci k idx : Nat} {v : Value} (g : GG X E hh cc own nL) (ff : FF own idx ci k) (hc : cls o = ci) (d : decode cc pc = .ok (.getfield idx, 3)) (hv : fv E σ o k = v) (kk : VV X E cc nL emb (pc + 3) lv (v :: st) σ T) : VV X E cc nL emb pc lv (.ref (E.2.1 o) :: st) σ T := by
  obtain ⟨C, T', N, h1, h2, h3, h4, h5, h6⟩ := ff
  intro r σ' hT hF H locs ls hP hS hl
  have ho : o < oN := cls_lt hc (by omega)
  refine va_get g.1.1 g.1.2.1 g.1.2.2.2.2 h2 g.1.2.2.2.1 g.2.1.1 hP o (by rw [wld_get ho, ent_obj hc (Nat.lt_trans h5 (by decide))]) h1 k h3 (g.1.2.2.2.2 _ h6) (fun _ h => h) (v := v) ?_ d (kk r σ' hT hF H locs ls hP hS hl)
  subst hv
  rw [← h4]
  simp [h3]
theorem v_getI {o ci k idx : Nat} (g : GG X E hh cc own nL) (ff : FF own idx ci k) (hc : cls o = ci) (hf : fk ci k = 0) (d : decode cc pc = .ok (.getfield idx, 3)) (kk : VV X E cc nL emb (pc + 3) lv (.int (gI σ o k) :: st) σ T) : VV X E cc nL emb pc lv (.ref (E.2.1 o) :: st) σ T :=
  v_get g ff hc d (by subst hc; simp [fv, hf]) kk
theorem v_getL {o ci k idx : Nat} (g : GG X E hh cc own nL) (ff : FF own idx ci k) (hc : cls o = ci) (hf : fk ci k = 1) (d : decode cc pc = .ok (.getfield idx, 3)) (kk : VV X E cc nL emb (pc + 3) lv (.long (gL σ o k) :: st) σ T) : VV X E cc nL emb pc lv (.ref (E.2.1 o) :: st) σ T :=
  v_get g ff hc d (by subst hc; simp [fv, hf]) kk
theorem v_getR {o ci k idx : Nat} (a : Nat) (g : GG X E hh cc own nL) (ff : FF own idx ci k) (hc : cls o = ci) (hf : fk ci k = 2) (ha : rf o k = a) (d : decode cc pc = .ok (.getfield idx, 3)) (kk : VV X E cc nL emb (pc + 3) lv (.ref (E.2.1 a) :: st) σ T) : VV X E cc nL emb pc lv (.ref (E.2.1 o) :: st) σ T :=
  v_get g ff hc d (by subst hc; subst ha; simp [fv, hf]) kk
theorem v_getN {o ci k idx : Nat} (g : GG X E hh cc own nL) (ff : FF own idx ci k) (hc : cls o = ci) (hf : fk ci k = 3) (d : decode cc pc = .ok (.getfield idx, 3)) (kk : VV X E cc nL emb (pc + 3) lv (.ref (E.2.1 (gN σ)) :: st) σ T) : VV X E cc nL emb pc lv (.ref (E.2.1 o) :: st) σ T :=
  v_get g ff hc d (by subst hc; simp [fv, hf]) kk
theorem v_put {o ci k idx : Nat} {v : Value} {ty : FieldType} (σ1 : Sto) (g : GG X E hh cc own nL) (ff : FP own idx ci k ty) (hc : cls o = ci) (d : decode cc pc = .ok (.putfield idx, 3)) (hn : narrow ty v = v) (hfit : fits ty v = true) (hv : fv E σ1 o k = v) (hj : ∀ j, j ≠ k → fv E σ1 o j = fv E σ o j) (hq : ∀ q, q ≠ o → ent E σ1 q = ent E σ q) (kk : VV X E cc nL emb (pc + 3) lv st σ1 T) : VV X E cc nL emb pc lv (v :: .ref (E.2.1 o) :: st) σ T := by
  obtain ⟨C, T', N, h1, h2, h3, h4, h5, h6, ⟨ty0, h7⟩, h8, h9, h10⟩ := ff
  intro r σ' hT hF H locs ls hP hS hl
  have ho : o < oN := cls_lt hc (by omega)
  refine va_put g.1.1 g.1.2.1 g.1.2.2.2.2 h2 ty0 h7 h8 g.1.2.2.2.1 g.2.1.1 hP g.2.2.1.D hS o (by rw [wld_get ho, ent_obj hc (Nat.lt_trans h5 (by decide))]) h1 k h3 (g.1.2.2.2.2 _ h6) (fun _ h => h) h9 h10 hn hfit (by simp; rw [← h4]; exact h3) d (fun H1 locs1 p1 d1 s1 => ?_)
  rw [wld_set (σ' := σ1) (by rw [ent_obj hc (Nat.lt_trans h5 (by decide))]; rw [map_set (fv E σ o) (fv E σ1 o) k v hv hj]) hq] at p1
  exact kk r σ' hT hF H1 locs1 ls p1 s1 hl
theorem v_putI {o ci k idx : Nat} {x : Int32} (g : GG X E hh cc own nL) (ff : FP own idx ci k .int) (hc : cls o = ci) (hf : fk ci k = 0) (d : decode cc pc = .ok (.putfield idx, 3)) (kk : VV X E cc nL emb (pc + 3) lv st (sI σ o k x) T) : VV X E cc nL emb pc lv (.int x :: .ref (E.2.1 o) :: st) σ T :=
  v_put (sI σ o k x) g ff hc d rfl rfl (by subst hc; simp [fv, hf, gI_sI]) (fun j hj => by simp [fv, gI_sI, hj, gL_sI, gN_sI]) (fun q hq => ent_sI hq) kk
theorem v_putZ {o ci k idx : Nat} {x : Int32} (g : GG X E hh cc own nL) (ff : FP own idx ci k .boolean) (hc : cls o = ci) (hf : fk ci k = 0) (hx : x = 0 ∨ x = 1) (d : decode cc pc = .ok (.putfield idx, 3)) (kk : VV X E cc nL emb (pc + 3) lv st (sI σ o k x) T) : VV X E cc nL emb pc lv (.int x :: .ref (E.2.1 o) :: st) σ T :=
  v_put (sI σ o k x) g ff hc d (by rcases hx with rfl | rfl <;> rfl) (by rcases hx with rfl | rfl <;> rfl) (by subst hc; simp [fv, hf, gI_sI]) (fun j hj => by simp [fv, gI_sI, hj, gL_sI, gN_sI]) (fun q hq => ent_sI hq) kk
theorem v_putL {o ci k idx : Nat} {x : Int64} (g : GG X E hh cc own nL) (ff : FP own idx ci k .long) (hc : cls o = ci) (hf : fk ci k = 1) (d : decode cc pc = .ok (.putfield idx, 3)) (kk : VV X E cc nL emb (pc + 3) lv st (sL σ o k x) T) : VV X E cc nL emb pc lv (.long x :: .ref (E.2.1 o) :: st) σ T :=
  v_put (sL σ o k x) g ff hc d rfl rfl (by subst hc; simp [fv, hf, gL_sL]) (fun j hj => by simp [fv, gL_sL, hj, gI_sL, gN_sL]) (fun q hq => ent_sL hq) kk
theorem getD_le {α : Type} {l : List α} {d : α} {n : Nat} (h : l.length ≤ n) : l.getD n d = d := by simp [List.getD, List.getElem?_eq_none h]
theorem fk3 (c j : Nat) (h : fk c j = 3) : c = 0 ∧ j = 2 := by
  have key : ∀ c, c < 11 → ∀ j, j < 40 → fk c j = 3 → c = 0 ∧ j = 2 := by decide +kernel
  rcases Nat.lt_or_ge c 11 with hc | hc
  · rcases Nat.lt_or_ge j 40 with hj | hj
    · exact key c hc j hj h
    · have hl : ∀ c, c < 11 → (fkL.getD c []).length ≤ 40 := by decide +kernel
      unfold fk at h
      rw [getD_le (Nat.le_trans (hl c hc) hj)] at h
      cases h
  · unfold fk at h
    rw [getD_le (show fkL.length ≤ c from hc)] at h
    simp at h
theorem cls0 (q : Nat) (h : cls q = 0) : q = 26 := by
  have key : ∀ q, q < oN → cls q = 0 → q = 26 := by decide +kernel
  exact key q (cls_lt h (by omega)) h
theorem v_putN {idx n : Nat} (g : GG X E hh cc own nL) (ff : FP own idx 0 2 (.object "FittingRings$Net")) (d : decode cc pc = .ok (.putfield idx, 3)) (kk : VV X E cc nL emb (pc + 3) lv st (sN σ n) T) : VV X E cc nL emb pc lv (.ref (E.2.1 n) :: .ref (E.2.1 26) :: st) σ T := by
  refine v_put (o := 26) (sN σ n) g ff rfl d rfl rfl rfl (fun j hj => ?_) (fun q hq => ?_) kk
  · have hc : cls 26 = 0 := rfl
    by_cases h3 : fk (cls 26) j = 3
    · exact absurd (fk3 _ _ h3).2 hj
    · have hle : ∀ c, c < 11 → ∀ j, j < 40 → fk c j ≤ 3 := by decide +kernel
      simp only [fv]
      rw [hc] at h3 ⊢
      rcases Nat.lt_or_ge j 40 with h | h
      · have := hle 0 (by omega) j h
        rcases (show fk 0 j = 0 ∨ fk 0 j = 1 ∨ fk 0 j = 2 by omega) with e | e | e <;> simp [e, gI_sN, gL_sN]
      · have hl : (fkL.getD 0 []).length ≤ 40 := by decide +kernel
        have : fk 0 j = 0 := by unfold fk; rw [getD_le (Nat.le_trans hl h)]
        simp [this, gI_sN]
  · have hfv : fv E (sN σ n) q = fv E σ q := by
      funext j
      by_cases h3 : fk (cls q) j = 3
      · exact absurd (cls0 q (fk3 _ _ h3).1) hq
      · simp only [fv]
        by_cases h0 : fk (cls q) j = 0
        · simp [h0, gI_sN]
        · by_cases h1 : fk (cls q) j = 1
          · simp [h1, gL_sN]
          · by_cases h2 : fk (cls q) j = 2
            · simp [h2]
            · have hle : ∀ c, c < 11 → ∀ j, j < 40 → fk c j ≤ 3 := by decide +kernel
              exfalso
              rcases Nat.lt_or_ge (cls q) 11 with hc | hc
              · rcases Nat.lt_or_ge j 40 with hj | hj
                · have := hle _ hc _ hj; omega
                · have hl : ∀ c, c < 11 → (fkL.getD c []).length ≤ 40 := by decide +kernel
                  have : fk (cls q) j = 0 := by unfold fk; rw [getD_le (Nat.le_trans (hl _ hc) hj)]
                  omega
              · have : fk (cls q) j = 0 := by
                  unfold fk; rw [getD_le (show fkL.length ≤ cls q from hc)]; simp
                omega
    have e1 : gI (sN σ n) q = gI σ q := rfl
    have e2 : gL (sN σ n) q = gL σ q := rfl
    simp [ent, arE, hfv, e1, e2]
-- arrays
theorem v_iald {a : Nat} {i : Int32} (g : GG X E hh cc own nL) (hc : cls a = 100) {n : Nat} (hn : ln a = n) (d : decode cc pc = .ok (.iaload, 1)) (kk : inb i n = true → VV X E cc nL emb (pc + 1) lv (.int (gI σ a i.toNatClampNeg) :: st) σ T) : VV X E cc nL emb pc lv (.int i :: .ref (E.2.1 a) :: st) σ (if inb i n = true then T else none) := by
  subst hn
  refine v_grd _ fun hi => ?_
  intro r σ' hT hF H locs ls hP hS hl
  exact va_iald g.1.1 g.1.2.1 g.2.1.1 hP a 0 (by rw [wld_get (cls_lt hc (by omega)), ent_I hc]) rfl (inb_in hi) d (kk hi r σ' hT hF H locs ls hP hS hl)
theorem v_bald {a : Nat} {i : Int32} (g : GG X E hh cc own nL) (hc : cls a = 102) {n : Nat} (hn : ln a = n) (d : decode cc pc = .ok (.baload, 1)) (kk : inb i n = true → VV X E cc nL emb (pc + 1) lv (.int (gI σ a i.toNatClampNeg) :: st) σ T) : VV X E cc nL emb pc lv (.int i :: .ref (E.2.1 a) :: st) σ (if inb i n = true then T else none) := by
  subst hn
  refine v_grd _ fun hi => ?_
  intro r σ' hT hF H locs ls hP hS hl
  exact va_bald g.1.1 g.1.2.1 g.2.1.1 hP a 2 (by rw [wld_get (cls_lt hc (by omega)), ent_B hc]) rfl (inb_in hi) d (kk hi r σ' hT hF H locs ls hP hS hl)
theorem v_lald {a : Nat} {i : Int32} (g : GG X E hh cc own nL) (hc : cls a = 101) {n : Nat} (hn : ln a = n) (d : decode cc pc = .ok (.laload, 1)) (kk : inb i n = true → VV X E cc nL emb (pc + 1) lv (.long (gL σ a i.toNatClampNeg) :: st) σ T) : VV X E cc nL emb pc lv (.int i :: .ref (E.2.1 a) :: st) σ (if inb i n = true then T else none) := by
  subst hn
  refine v_grd _ fun hi => ?_
  intro r σ' hT hF H locs ls hP hS hl
  exact va_lald g.1.1 g.1.2.1 g.2.1.1 hP a 1 (by rw [wld_get (cls_lt hc (by omega)), ent_L hc]) rfl (inb_in hi) d (kk hi r σ' hT hF H locs ls hP hS hl)
theorem v_aaldS {i : Int32} (g : GG X E hh cc own nL) (d : decode cc pc = .ok (.aaload, 1)) (kk : inb i 4 = true → VV X E cc nL emb (pc + 1) lv (.ref (E.2.1 (36 + 2 * i.toNatClampNeg)) :: st) σ T) : VV X E cc nL emb pc lv (.int i :: .ref (E.2.1 34) :: st) σ (if inb i 4 = true then T else none) := by
  refine v_grd _ fun hi => ?_
  intro r σ' hT hF H locs ls hP hS hl
  exact va_aldq (n := 4) (f := fun i => some (E.2.1 (36 + 2 * i))) g.1.1 g.1.2.1 g.2.1.1 hP 34 3 (by rw [wld_get (by decide), ent_S rfl]; rfl) rfl (inb_in hi) d (kk hi r σ' hT hF H locs ls hP hS hl)
theorem v_aaldH {i : Int32} (g : GG X E hh cc own nL) (d : decode cc pc = .ok (.aaload, 1)) (kk : inb i 4 = true → VV X E cc nL emb (pc + 1) lv (.ref (E.2.1 (44 + i.toNatClampNeg)) :: st) σ T) : VV X E cc nL emb pc lv (.int i :: .ref (E.2.1 35) :: st) σ (if inb i 4 = true then T else none) := by
  refine v_grd _ fun hi => ?_
  intro r σ' hT hF H locs ls hP hS hl
  exact va_aldq (n := 4) (f := fun i => some (E.2.1 (44 + i))) g.1.1 g.1.2.1 g.2.1.1 hP 35 4 (by rw [wld_get (by decide), ent_H rfl]; rfl) rfl (inb_in hi) d (kk hi r σ' hT hF H locs ls hP hS hl)
theorem v_iast {a : Nat} {i x : Int32} (g : GG X E hh cc own nL) (hc : cls a = 100) {n : Nat} (hn : ln a = n) (d : decode cc pc = .ok (.iastore, 1)) (kk : inb i n = true → VV X E cc nL emb (pc + 1) lv st (sI σ a i.toNatClampNeg x) T) : VV X E cc nL emb pc lv (.int x :: .int i :: .ref (E.2.1 a) :: st) σ (if inb i n = true then T else none) := by
  subst hn
  refine v_grd _ fun hi => ?_
  intro r σ' hT hF H locs ls hP hS hl
  refine va_iast g.1.1 g.1.2.1 g.2.1.1 hP g.2.2.1.D hS a 0 (by rw [wld_get (cls_lt hc (by omega)), ent_I hc]) rfl (inb_in hi) d (fun H1 locs1 p1 d1 s1 => ?_)
  rw [wld_set (σ' := sI σ a i.toNatClampNeg x) (by rw [ent_I hc]; congr 3; congr 1; funext j; simp [gI_sI, upd]) (fun q hq => ent_sI hq)] at p1
  exact kk hi r σ' hT hF H1 locs1 ls p1 s1 hl
theorem v_last {a : Nat} {i : Int32} {x : Int64} (g : GG X E hh cc own nL) (hc : cls a = 101) {n : Nat} (hn : ln a = n) (d : decode cc pc = .ok (.lastore, 1)) (kk : inb i n = true → VV X E cc nL emb (pc + 1) lv st (sL σ a i.toNatClampNeg x) T) : VV X E cc nL emb pc lv (.long x :: .int i :: .ref (E.2.1 a) :: st) σ (if inb i n = true then T else none) := by
  subst hn
  refine v_grd _ fun hi => ?_
  intro r σ' hT hF H locs ls hP hS hl
  refine va_last g.1.1 g.1.2.1 g.2.1.1 hP g.2.2.1.D hS a 1 (by rw [wld_get (cls_lt hc (by omega)), ent_L hc]) rfl (inb_in hi) d (fun H1 locs1 p1 d1 s1 => ?_)
  rw [wld_set (σ' := sL σ a i.toNatClampNeg x) (by rw [ent_L hc]; congr 4; congr 1; funext j; simp [gL_sL, vp_updL]) (fun q hq => ent_sL hq)] at p1
  exact kk hi r σ' hT hF H1 locs1 ls p1 s1 hl
theorem v_bast {a : Nat} {i x : Int32} (g : GG X E hh cc own nL) (hc : cls a = 102) {n : Nat} (hn : ln a = n) (d : decode cc pc = .ok (.bastore, 1)) (kk : inb i n = true → VV X E cc nL emb (pc + 1) lv st (sI σ a i.toNatClampNeg (vp_nar .byte x)) T) : VV X E cc nL emb pc lv (.int x :: .int i :: .ref (E.2.1 a) :: st) σ (if inb i n = true then T else none) := by
  subst hn
  refine v_grd _ fun hi => ?_
  intro r σ' hT hF H locs ls hP hS hl
  refine va_bast g.1.1 g.1.2.1 g.2.1.1 hP g.2.2.1.D hS a 2 (by rw [wld_get (cls_lt hc (by omega)), ent_B hc]) rfl (inb_in hi) d (fun H1 locs1 p1 d1 s1 => ?_)
  rw [wld_set (σ' := sI σ a i.toNatClampNeg (vp_nar .byte x)) (by rw [ent_B hc]; congr 3; congr 1; funext j; simp [gI_sI, upd]) (fun q hq => ent_sI hq)] at p1
  exact kk hi r σ' hT hF H1 locs1 ls p1 s1 hl
theorem v_alen {a : Nat} (g : GG X E hh cc own nL) (hc : cls a = 100) (d : decode cc pc = .ok (.arraylength, 1)) (kk : VV X E cc nL emb (pc + 1) lv (.int (Int32.ofNat (ln a)) :: st) σ T) : VV X E cc nL emb pc lv (.ref (E.2.1 a) :: st) σ T := by
  intro r σ' hT hF H locs ls hP hS hl
  exact va_alen (x := (ln a, .inl (gI σ a))) g.1.1 g.1.2.1 g.2.1.1 hP a 0 (by rw [wld_get (cls_lt hc (by omega)), ent_I hc]) rfl rfl d (kk r σ' hT hF H locs ls hP hS hl)
end Rules
