/-! THE LAW'S ENTRY -/
def sto0 : Sto := (fun o j => if o = 36 ∨ o = 38 ∨ o = 40 ∨ o = 42 then (if j = 0 then -1 else 0) else if o = 69 then (if j < 4 then -1 else 0) else 0, fun _ _ => 0, 1)
def adr (a0 t b : Nat) (adK adV : Nat → Nat) (o : Nat) : Nat := if o < 72 then a0 + o else if o = 998 then t else if o = 999 then b else if o < 1100 then adK (o - 1000) else adV (o - 1100)
theorem vp_extI {cA : ClassId} {n : Nat} {f g : Nat → Int32} (h : ∀ j, j < n → f j = g j) : vp_cell cA (n, .inl f) = vp_cell cA (n, .inl g) := by
  rw [vp_cell_i, vp_cell_i]
  simp only [arrV]
  congr 2
  funext j
  rw [h j.1 j.2]
theorem vp_extQ {cA : ClassId} {n : Nat} {f g : Nat → Option Nat} (h : ∀ j, j < n → f j = g j) : vp_cell cA (n, .inr (.inr (.inr (.inr f)))) = vp_cell cA (n, .inr (.inr (.inr (.inr g)))) := by
  rw [vp_cell_q, vp_cell_q]
  simp only [arrV]
  congr 2
  funext j
  rw [h j.1 j.2]
theorem PC.alter {E : En} {a0 i : Nat} {es : List va_E} {H : Heap} {e e0 : va_E} (h : PC E a0 es H) (he : es[i]? = some e0) (hx : ∀ a, va_at E.1 vwC (a, e0) H → va_at E.1 vwC (a, e) H) : PC E a0 (es.set i e) H :=
  h.set he (hx _ (h.2 i _ (wldL_at he))) rfl (fun _ _ => rfl)
set_option maxHeartbeats 4000000 in
set_option maxRecDepth 100000 in
theorem es_eq {D : va_G} {cA : Nat → ClassId} {a0 t b : Nat} {adK adV : Nat → Nat} {E : En} (hE : E = (D, adr a0 t b adK adV, cA)) : (List.range oN).map (ent E sto0) = [.inr (9, [.ref (a0 + 1), .ref (a0 + 6), .ref (a0 + 11), .int (0 : Int32), .ref (a0 + 16), .ref (a0 + 21), .ref (a0 + 26), .ref (a0 + 31), .ref (a0 + 33), .ref (a0 + 34), .ref (a0 + 35)]),
    .inr (4, [.int (0 : Int32), .ref (a0 + 2), .ref (a0 + 3), .ref (a0 + 4), .ref (a0 + 5)]),
    .inl (E.2.2 100, 40, .inl (fun _ => 0)),
    .inl (E.2.2 100, 40, .inl (fun _ => 0)),
    .inl (E.2.2 101, 40, .inr (.inl (fun _ => 0))),
    .inl (E.2.2 100, 40, .inl (fun _ => 0)),
    .inr (4, [.int (0 : Int32), .ref (a0 + 7), .ref (a0 + 8), .ref (a0 + 9), .ref (a0 + 10)]),
    .inl (E.2.2 100, 40, .inl (fun _ => 0)),
    .inl (E.2.2 100, 40, .inl (fun _ => 0)),
    .inl (E.2.2 101, 40, .inr (.inl (fun _ => 0))),
    .inl (E.2.2 100, 40, .inl (fun _ => 0)),
    .inr (4, [.int (0 : Int32), .ref (a0 + 12), .ref (a0 + 13), .ref (a0 + 14), .ref (a0 + 15)]),
    .inl (E.2.2 100, 40, .inl (fun _ => 0)),
    .inl (E.2.2 100, 40, .inl (fun _ => 0)),
    .inl (E.2.2 101, 40, .inr (.inl (fun _ => 0))),
    .inl (E.2.2 100, 40, .inl (fun _ => 0)),
    .inr (2, [.ref (a0 + 1), .ref (a0 + 17)]),
    .inr (6, [.ref (a0 + 18), .int (0 : Int32), .int (0 : Int32), .ref (a0 + 19), .int (0 : Int32), .ref (a0 + 20)]),
    .inl (E.2.2 100, 40, .inl (fun _ => 0)),
    .inl (E.2.2 101, 40, .inr (.inl (fun _ => 0))),
    .inl (E.2.2 100, 40, .inl (fun _ => 0)),
    .inr (5, [.ref (a0 + 22), .int (0 : Int32), .ref (a0 + 1), .ref (a0 + 16), .ref (a0 + 23), .ref (a0 + 24), .ref (a0 + 25), .int (0 : Int32)]),
    .inl (E.2.2 100, 200, .inl (fun _ => 0)),
    .inl (E.2.2 100, 200, .inl (fun _ => 0)),
    .inl (E.2.2 101, 48, .inr (.inl (fun _ => 0))),
    .inl (E.2.2 100, 48, .inl (fun _ => 0)),
    .inr (0, [.ref (a0 + 27), .int (0 : Int32), .ref (a0 + 1), .int (0 : Int32), .ref (a0 + 28), .ref (a0 + 29), .ref (a0 + 30), .int (0 : Int32), .int (0 : Int32), .int (0 : Int32)]),
    .inl (E.2.2 101, 324, .inr (.inl (fun _ => 0))),
    .inl (E.2.2 100, 40, .inl (fun _ => 0)),
    .inl (E.2.2 100, 10, .inl (fun _ => 0)),
    .inl (E.2.2 101, 10, .inr (.inl (fun _ => 0))),
    .inr (8, [.int (0 : Int32), .ref (a0 + 32), .int (0 : Int32), .int (0 : Int32), .int (0 : Int32)]),
    .inl (E.2.2 102, 160, .inl (fun _ => 0)),
    .inr (3, [.int (0 : Int32)]),
    ent E sto0 34,
    ent E sto0 35,
    .inr (7, [.int (-1 : Int32), .int (0 : Int32), .ref (a0 + 37)]),
    .inl (E.2.2 100, 60, .inl (fun _ => 0)),
    .inr (7, [.int (-1 : Int32), .int (0 : Int32), .ref (a0 + 39)]),
    .inl (E.2.2 100, 60, .inl (fun _ => 0)),
    .inr (7, [.int (-1 : Int32), .int (0 : Int32), .ref (a0 + 41)]),
    .inl (E.2.2 100, 60, .inl (fun _ => 0)),
    .inr (7, [.int (-1 : Int32), .int (0 : Int32), .ref (a0 + 43)]),
    .inl (E.2.2 100, 60, .inl (fun _ => 0)),
    .inr (1, [.int (0 : Int32), .long (0 : Int64), .int (0 : Int32), .int (0 : Int32)]),
    .inr (1, [.int (0 : Int32), .long (0 : Int64), .int (0 : Int32), .int (0 : Int32)]),
    .inr (1, [.int (0 : Int32), .long (0 : Int64), .int (0 : Int32), .int (0 : Int32)]),
    .inr (1, [.int (0 : Int32), .long (0 : Int64), .int (0 : Int32), .int (0 : Int32)]),
    .inr (10, [.int 0, .ref (a0 + 49), .ref (a0 + 50), .ref (a0 + 51), .int 0, .int 0, .ref (a0 + 52), .ref (a0 + 53), .ref (a0 + 54), .ref (a0 + 55), .int 0, .int 0, .ref (a0 + 56), .int 0, .ref (a0 + 57), .int 0, .ref (a0 + 58), .ref (a0 + 59), .ref (a0 + 60), .int 0, .ref (a0 + 61), .int 0, .int 0, .ref (a0 + 62), .int 0, .int 0, .int 0, .int 0, .int 0, .ref (a0 + 63), .ref (a0 + 64), .ref (a0 + 65), .int 0, .ref (a0 + 66), .ref (a0 + 67), .ref (a0 + 68), .ref (a0 + 69), .ref (a0 + 70), .ref (a0 + 71)]),
    .inl (E.2.2 100, 40, .inl (fun _ => 0)),
    .inl (E.2.2 100, 40, .inl (fun _ => 0)),
    .inl (E.2.2 101, 40, .inr (.inl (fun _ => 0))),
    .inl (E.2.2 100, 40, .inl (fun _ => 0)),
    .inl (E.2.2 100, 40, .inl (fun _ => 0)),
    .inl (E.2.2 101, 40, .inr (.inl (fun _ => 0))),
    .inl (E.2.2 100, 40, .inl (fun _ => 0)),
    .inl (E.2.2 101, 40, .inr (.inl (fun _ => 0))),
    .inl (E.2.2 101, 400, .inr (.inl (fun _ => 0))),
    .inl (E.2.2 100, 1024, .inl (fun _ => 0)),
    .inl (E.2.2 100, 10, .inl (fun _ => 0)),
    .inl (E.2.2 100, 200, .inl (fun _ => 0)),
    .inl (E.2.2 100, 200, .inl (fun _ => 0)),
    .inl (E.2.2 100, 160, .inl (fun _ => 0)),
    .inl (E.2.2 100, 40, .inl (fun _ => 0)),
    .inl (E.2.2 100, 40, .inl (fun _ => 0)),
    .inl (E.2.2 101, 40, .inr (.inl (fun _ => 0))),
    .inl (E.2.2 100, 4, .inl (fun _ => 0)),
    .inl (E.2.2 101, 4, .inr (.inl (fun _ => 0))),
    .inl (E.2.2 100, 4, .inl (fun _ => 0)),
    ent E sto0 69,
    .inl (E.2.2 100, 4, .inl (fun _ => 0)),
    .inl (E.2.2 100, 240, .inl (fun _ => 0))] := by
  subst hE
  rfl
set_option maxHeartbeats 4000000 in
set_option maxRecDepth 100000 in
theorem PC.toWld {D : va_G} {cA : Nat → ClassId} {a0 t b : Nat} {adK adV : Nat → Nat} {E : En} (hE : E = (D, adr a0 t b adK adV, cA)) {H : Heap} (h : PC E a0 [.inr (9, [.ref (a0 + 1), .ref (a0 + 6), .ref (a0 + 11), .int (0 : Int32), .ref (a0 + 16), .ref (a0 + 21), .ref (a0 + 26), .ref (a0 + 31), .ref (a0 + 33), .ref (a0 + 34), .ref (a0 + 35)]), .inr (4, [.int (0 : Int32), .ref (a0 + 2), .ref (a0 + 3), .ref (a0 + 4), .ref (a0 + 5)]), .inl (E.2.2 100, 40, .inl (fun _ => 0)), .inl (E.2.2 100, 40, .inl (fun _ => 0)), .inl (E.2.2 101, 40, .inr (.inl (fun _ => 0))), .inl (E.2.2 100, 40, .inl (fun _ => 0)), .inr (4, [.int (0 : Int32), .ref (a0 + 7), .ref (a0 + 8), .ref (a0 + 9), .ref (a0 + 10)]), .inl (E.2.2 100, 40, .inl (fun _ => 0)), .inl (E.2.2 100, 40, .inl (fun _ => 0)), .inl (E.2.2 101, 40, .inr (.inl (fun _ => 0))), .inl (E.2.2 100, 40, .inl (fun _ => 0)), .inr (4, [.int (0 : Int32), .ref (a0 + 12), .ref (a0 + 13), .ref (a0 + 14), .ref (a0 + 15)]), .inl (E.2.2 100, 40, .inl (fun _ => 0)), .inl (E.2.2 100, 40, .inl (fun _ => 0)), .inl (E.2.2 101, 40, .inr (.inl (fun _ => 0))), .inl (E.2.2 100, 40, .inl (fun _ => 0)), .inr (2, [.ref (a0 + 1), .ref (a0 + 17)]), .inr (6, [.ref (a0 + 18), .int (0 : Int32), .int (0 : Int32), .ref (a0 + 19), .int (0 : Int32), .ref (a0 + 20)]), .inl (E.2.2 100, 40, .inl (fun _ => 0)), .inl (E.2.2 101, 40, .inr (.inl (fun _ => 0))), .inl (E.2.2 100, 40, .inl (fun _ => 0)), .inr (5, [.ref (a0 + 22), .int (0 : Int32), .ref (a0 + 1), .ref (a0 + 16), .ref (a0 + 23), .ref (a0 + 24), .ref (a0 + 25), .int (0 : Int32)]), .inl (E.2.2 100, 200, .inl (fun _ => 0)), .inl (E.2.2 100, 200, .inl (fun _ => 0)), .inl (E.2.2 101, 48, .inr (.inl (fun _ => 0))), .inl (E.2.2 100, 48, .inl (fun _ => 0)), .inr (0, [.ref (a0 + 27), .int (0 : Int32), .ref (a0 + 1), .int (0 : Int32), .ref (a0 + 28), .ref (a0 + 29), .ref (a0 + 30), .int (0 : Int32), .int (0 : Int32), .int (0 : Int32)]), .inl (E.2.2 101, 324, .inr (.inl (fun _ => 0))), .inl (E.2.2 100, 40, .inl (fun _ => 0)), .inl (E.2.2 100, 10, .inl (fun _ => 0)), .inl (E.2.2 101, 10, .inr (.inl (fun _ => 0))), .inr (8, [.int (0 : Int32), .ref (a0 + 32), .int (0 : Int32), .int (0 : Int32), .int (0 : Int32)]), .inl (E.2.2 102, 160, .inl (fun _ => 0)), .inr (3, [.int (0 : Int32)]), .inl (E.2.2 103, 4, .inr (.inr (.inr (.inr (va_up (va_up (va_up (va_up (fun _ => none) (Int32.toNatClampNeg (0 : Int32)) (some (a0 + 36))) (Int32.toNatClampNeg (1 : Int32)) (some (a0 + 38))) (Int32.toNatClampNeg (2 : Int32)) (some (a0 + 40))) (Int32.toNatClampNeg (3 : Int32)) (some (a0 + 42))))))), .inl (E.2.2 104, 4, .inr (.inr (.inr (.inr (va_up (va_up (va_up (va_up (fun _ => none) (Int32.toNatClampNeg (0 : Int32)) (some (a0 + 44))) (Int32.toNatClampNeg (1 : Int32)) (some (a0 + 45))) (Int32.toNatClampNeg (2 : Int32)) (some (a0 + 46))) (Int32.toNatClampNeg (3 : Int32)) (some (a0 + 47))))))), .inr (7, [.int (-1 : Int32), .int (0 : Int32), .ref (a0 + 37)]), .inl (E.2.2 100, 60, .inl (fun _ => 0)), .inr (7, [.int (-1 : Int32), .int (0 : Int32), .ref (a0 + 39)]), .inl (E.2.2 100, 60, .inl (fun _ => 0)), .inr (7, [.int (-1 : Int32), .int (0 : Int32), .ref (a0 + 41)]), .inl (E.2.2 100, 60, .inl (fun _ => 0)), .inr (7, [.int (-1 : Int32), .int (0 : Int32), .ref (a0 + 43)]), .inl (E.2.2 100, 60, .inl (fun _ => 0)), .inr (1, [.int (0 : Int32), .long (0 : Int64), .int (0 : Int32), .int (0 : Int32)]), .inr (1, [.int (0 : Int32), .long (0 : Int64), .int (0 : Int32), .int (0 : Int32)]), .inr (1, [.int (0 : Int32), .long (0 : Int64), .int (0 : Int32), .int (0 : Int32)]), .inr (1, [.int (0 : Int32), .long (0 : Int64), .int (0 : Int32), .int (0 : Int32)]), .inr (10, [.int 0, .ref (a0 + 49), .ref (a0 + 50), .ref (a0 + 51), .int 0, .int 0, .ref (a0 + 52), .ref (a0 + 53), .ref (a0 + 54), .ref (a0 + 55), .int 0, .int 0, .ref (a0 + 56), .int 0, .ref (a0 + 57), .int 0, .ref (a0 + 58), .ref (a0 + 59), .ref (a0 + 60), .int 0, .ref (a0 + 61), .int 0, .int 0, .ref (a0 + 62), .int 0, .int 0, .int 0, .int 0, .int 0, .ref (a0 + 63), .ref (a0 + 64), .ref (a0 + 65), .int 0, .ref (a0 + 66), .ref (a0 + 67), .ref (a0 + 68), .ref (a0 + 69), .ref (a0 + 70), .ref (a0 + 71)]), .inl (E.2.2 100, 40, .inl (fun _ => 0)), .inl (E.2.2 100, 40, .inl (fun _ => 0)), .inl (E.2.2 101, 40, .inr (.inl (fun _ => 0))), .inl (E.2.2 100, 40, .inl (fun _ => 0)), .inl (E.2.2 100, 40, .inl (fun _ => 0)), .inl (E.2.2 101, 40, .inr (.inl (fun _ => 0))), .inl (E.2.2 100, 40, .inl (fun _ => 0)), .inl (E.2.2 101, 40, .inr (.inl (fun _ => 0))), .inl (E.2.2 101, 400, .inr (.inl (fun _ => 0))), .inl (E.2.2 100, 1024, .inl (fun _ => 0)), .inl (E.2.2 100, 10, .inl (fun _ => 0)), .inl (E.2.2 100, 200, .inl (fun _ => 0)), .inl (E.2.2 100, 200, .inl (fun _ => 0)), .inl (E.2.2 100, 160, .inl (fun _ => 0)), .inl (E.2.2 100, 40, .inl (fun _ => 0)), .inl (E.2.2 100, 40, .inl (fun _ => 0)), .inl (E.2.2 101, 40, .inr (.inl (fun _ => 0))), .inl (E.2.2 100, 4, .inl (fun _ => 0)), .inl (E.2.2 101, 4, .inr (.inl (fun _ => 0))), .inl (E.2.2 100, 4, .inl (fun _ => 0)), .inl (E.2.2 100, 4, .inl (upd (upd (upd (upd (fun _ => 0) (Int32.toNatClampNeg (0 : Int32)) (-1 : Int32)) (Int32.toNatClampNeg (1 : Int32)) (-1 : Int32)) (Int32.toNatClampNeg (2 : Int32)) (-1 : Int32)) (Int32.toNatClampNeg (3 : Int32)) (-1 : Int32))), .inl (E.2.2 100, 4, .inl (fun _ => 0)), .inl (E.2.2 100, 240, .inl (fun _ => 0))] H) : va_P E.1 vwC (wld E sto0) H := by
  have h1 := h.alter (i := 34) (e := ent E sto0 34) rfl (fun a ha => by
    have e1 : ent E sto0 34 = .inl (E.2.2 103, 4, .inr (.inr (.inr (.inr (fun i => some (E.2.1 (36 + 2 * i))))))) := ent_S rfl
    rw [e1]
    refine (show H[a]? = some (vp_cell _ _) from ha).trans (congrArg some (vp_extQ fun j hj => ?_))
    subst hE
    rcases (show j = 0 ∨ j = 1 ∨ j = 2 ∨ j = 3 by omega) with rfl | rfl | rfl | rfl <;> rfl)
  have h2 := h1.alter (i := 35) (e := ent E sto0 35) rfl (fun a ha => by
    have e1 : ent E sto0 35 = .inl (E.2.2 104, 4, .inr (.inr (.inr (.inr (fun i => some (E.2.1 (44 + i))))))) := ent_H rfl
    rw [e1]
    refine (show H[a]? = some (vp_cell _ _) from ha).trans (congrArg some (vp_extQ fun j hj => ?_))
    subst hE
    rcases (show j = 0 ∨ j = 1 ∨ j = 2 ∨ j = 3 by omega) with rfl | rfl | rfl | rfl <;> rfl)
  have h3 := h2.alter (i := 69) (e := ent E sto0 69) rfl (fun a ha => by
    have e1 : ent E sto0 69 = .inl (E.2.2 100, 4, .inl (gI sto0 69)) := ent_I rfl
    rw [e1]
    refine (show H[a]? = some (vp_cell _ _) from ha).trans (congrArg some (vp_extI fun j hj => ?_))
    rcases (show j = 0 ∨ j = 1 ∨ j = 2 ∨ j = 3 by omega) with rfl | rfl | rfl | rfl <;> rfl)
  have h4 : PC E a0 [.inr (9, [.ref (a0 + 1), .ref (a0 + 6), .ref (a0 + 11), .int (0 : Int32), .ref (a0 + 16), .ref (a0 + 21), .ref (a0 + 26), .ref (a0 + 31), .ref (a0 + 33), .ref (a0 + 34), .ref (a0 + 35)]),
    .inr (4, [.int (0 : Int32), .ref (a0 + 2), .ref (a0 + 3), .ref (a0 + 4), .ref (a0 + 5)]),
    .inl (E.2.2 100, 40, .inl (fun _ => 0)),
    .inl (E.2.2 100, 40, .inl (fun _ => 0)),
    .inl (E.2.2 101, 40, .inr (.inl (fun _ => 0))),
    .inl (E.2.2 100, 40, .inl (fun _ => 0)),
    .inr (4, [.int (0 : Int32), .ref (a0 + 7), .ref (a0 + 8), .ref (a0 + 9), .ref (a0 + 10)]),
    .inl (E.2.2 100, 40, .inl (fun _ => 0)),
    .inl (E.2.2 100, 40, .inl (fun _ => 0)),
    .inl (E.2.2 101, 40, .inr (.inl (fun _ => 0))),
    .inl (E.2.2 100, 40, .inl (fun _ => 0)),
    .inr (4, [.int (0 : Int32), .ref (a0 + 12), .ref (a0 + 13), .ref (a0 + 14), .ref (a0 + 15)]),
    .inl (E.2.2 100, 40, .inl (fun _ => 0)),
    .inl (E.2.2 100, 40, .inl (fun _ => 0)),
    .inl (E.2.2 101, 40, .inr (.inl (fun _ => 0))),
    .inl (E.2.2 100, 40, .inl (fun _ => 0)),
    .inr (2, [.ref (a0 + 1), .ref (a0 + 17)]),
    .inr (6, [.ref (a0 + 18), .int (0 : Int32), .int (0 : Int32), .ref (a0 + 19), .int (0 : Int32), .ref (a0 + 20)]),
    .inl (E.2.2 100, 40, .inl (fun _ => 0)),
    .inl (E.2.2 101, 40, .inr (.inl (fun _ => 0))),
    .inl (E.2.2 100, 40, .inl (fun _ => 0)),
    .inr (5, [.ref (a0 + 22), .int (0 : Int32), .ref (a0 + 1), .ref (a0 + 16), .ref (a0 + 23), .ref (a0 + 24), .ref (a0 + 25), .int (0 : Int32)]),
    .inl (E.2.2 100, 200, .inl (fun _ => 0)),
    .inl (E.2.2 100, 200, .inl (fun _ => 0)),
    .inl (E.2.2 101, 48, .inr (.inl (fun _ => 0))),
    .inl (E.2.2 100, 48, .inl (fun _ => 0)),
    .inr (0, [.ref (a0 + 27), .int (0 : Int32), .ref (a0 + 1), .int (0 : Int32), .ref (a0 + 28), .ref (a0 + 29), .ref (a0 + 30), .int (0 : Int32), .int (0 : Int32), .int (0 : Int32)]),
    .inl (E.2.2 101, 324, .inr (.inl (fun _ => 0))),
    .inl (E.2.2 100, 40, .inl (fun _ => 0)),
    .inl (E.2.2 100, 10, .inl (fun _ => 0)),
    .inl (E.2.2 101, 10, .inr (.inl (fun _ => 0))),
    .inr (8, [.int (0 : Int32), .ref (a0 + 32), .int (0 : Int32), .int (0 : Int32), .int (0 : Int32)]),
    .inl (E.2.2 102, 160, .inl (fun _ => 0)),
    .inr (3, [.int (0 : Int32)]),
    ent E sto0 34,
    ent E sto0 35,
    .inr (7, [.int (-1 : Int32), .int (0 : Int32), .ref (a0 + 37)]),
    .inl (E.2.2 100, 60, .inl (fun _ => 0)),
    .inr (7, [.int (-1 : Int32), .int (0 : Int32), .ref (a0 + 39)]),
    .inl (E.2.2 100, 60, .inl (fun _ => 0)),
    .inr (7, [.int (-1 : Int32), .int (0 : Int32), .ref (a0 + 41)]),
    .inl (E.2.2 100, 60, .inl (fun _ => 0)),
    .inr (7, [.int (-1 : Int32), .int (0 : Int32), .ref (a0 + 43)]),
    .inl (E.2.2 100, 60, .inl (fun _ => 0)),
    .inr (1, [.int (0 : Int32), .long (0 : Int64), .int (0 : Int32), .int (0 : Int32)]),
    .inr (1, [.int (0 : Int32), .long (0 : Int64), .int (0 : Int32), .int (0 : Int32)]),
    .inr (1, [.int (0 : Int32), .long (0 : Int64), .int (0 : Int32), .int (0 : Int32)]),
    .inr (1, [.int (0 : Int32), .long (0 : Int64), .int (0 : Int32), .int (0 : Int32)]),
    .inr (10, [.int 0, .ref (a0 + 49), .ref (a0 + 50), .ref (a0 + 51), .int 0, .int 0, .ref (a0 + 52), .ref (a0 + 53), .ref (a0 + 54), .ref (a0 + 55), .int 0, .int 0, .ref (a0 + 56), .int 0, .ref (a0 + 57), .int 0, .ref (a0 + 58), .ref (a0 + 59), .ref (a0 + 60), .int 0, .ref (a0 + 61), .int 0, .int 0, .ref (a0 + 62), .int 0, .int 0, .int 0, .int 0, .int 0, .ref (a0 + 63), .ref (a0 + 64), .ref (a0 + 65), .int 0, .ref (a0 + 66), .ref (a0 + 67), .ref (a0 + 68), .ref (a0 + 69), .ref (a0 + 70), .ref (a0 + 71)]),
    .inl (E.2.2 100, 40, .inl (fun _ => 0)),
    .inl (E.2.2 100, 40, .inl (fun _ => 0)),
    .inl (E.2.2 101, 40, .inr (.inl (fun _ => 0))),
    .inl (E.2.2 100, 40, .inl (fun _ => 0)),
    .inl (E.2.2 100, 40, .inl (fun _ => 0)),
    .inl (E.2.2 101, 40, .inr (.inl (fun _ => 0))),
    .inl (E.2.2 100, 40, .inl (fun _ => 0)),
    .inl (E.2.2 101, 40, .inr (.inl (fun _ => 0))),
    .inl (E.2.2 101, 400, .inr (.inl (fun _ => 0))),
    .inl (E.2.2 100, 1024, .inl (fun _ => 0)),
    .inl (E.2.2 100, 10, .inl (fun _ => 0)),
    .inl (E.2.2 100, 200, .inl (fun _ => 0)),
    .inl (E.2.2 100, 200, .inl (fun _ => 0)),
    .inl (E.2.2 100, 160, .inl (fun _ => 0)),
    .inl (E.2.2 100, 40, .inl (fun _ => 0)),
    .inl (E.2.2 100, 40, .inl (fun _ => 0)),
    .inl (E.2.2 101, 40, .inr (.inl (fun _ => 0))),
    .inl (E.2.2 100, 4, .inl (fun _ => 0)),
    .inl (E.2.2 101, 4, .inr (.inl (fun _ => 0))),
    .inl (E.2.2 100, 4, .inl (fun _ => 0)),
    ent E sto0 69,
    .inl (E.2.2 100, 4, .inl (fun _ => 0)),
    .inl (E.2.2 100, 240, .inl (fun _ => 0))] H := h3
  rw [← es_eq hE] at h4
  intro k q hk
  have hl : k < oN := by
    have := (List.getElem?_eq_some_iff.mp hk).1
    simpa [wld] using this
  rw [wld_get hl] at hk
  cases hk
  have h5 := h4.2 k (a0 + k, ent E sto0 k) (wldL_at (by simp [hl]))
  have h6 : E.2.1 k = a0 + k := by subst hE; simp [adr, hl]
  rw [h6]
  exact h5
set_option maxHeartbeats 4000000 in
set_option maxRecDepth 100000 in
theorem entry_facts {s : State} {b : Nat} (hts : ∀ w ∈ lw_tbl, w.before #[Value.ref b] s = true) (hgv : (Jvm.Cond.and given_1 narrow_1).before #[Value.ref b] s = true) :
    ∃ (D : va_G) (cA : Nat → ClassId) (t : Nat) (adK adV : Nat → Nat), KK (D, adr s.heap.size t b adK adV, cA) s ∧ KC (D, adr s.heap.size t b adK adV, cA) s := by
  have hs := flat_of_before _ hgv
  have hA : ∀ a : Nat, a < s.heap.size → ¬ (fun q : Nat => s.heap.size ≤ q) a := fun a h => Nat.not_le.mpr h
  -- classes
  have hcl : ∀ k : Nat, ∃ p : ClassId × (Nat → Nat), ∀ q : vw_C, vwC[k]? = some q → u_Kn s q.1 q.2.1 q.2.2 p.1 p.2 := by
    intro k
    match k with
    | 0 =>
      obtain ⟨cc, iS, h⟩ := u_known (C := R_Finder) (T := T_Finder) (N := 10) (n := 10) hts (fun w hw => (List.mem_filter.mp (in_Finder w hw)).1) (hts (.instantiable R_Finder 10) (List.mem_of_getElem? (i := 212) (by decide +kernel)))
      exact ⟨(cc, iS), fun q hq => by cases hq; exact h⟩
    | 1 =>
      obtain ⟨cc, iS, h⟩ := u_known (C := R_Hand) (T := T_Hand) (N := 4) (n := 4) hts (fun w hw => (List.mem_filter.mp (in_Hand w hw)).1) (hts (.instantiable R_Hand 4) (List.mem_of_getElem? (i := 308) (by decide +kernel)))
      exact ⟨(cc, iS), fun q hq => by cases hq; exact h⟩
    | 2 =>
      obtain ⟨cc, iS, h⟩ := u_known (C := R_Judge) (T := T_Judge) (N := 2) (n := 2) hts (fun w hw => (List.mem_filter.mp (in_Judge w hw)).1) (hts (.instantiable R_Judge 2) (List.mem_of_getElem? (i := 132) (by decide +kernel)))
      exact ⟨(cc, iS), fun q hq => by cases hq; exact h⟩
    | 3 =>
      obtain ⟨cc, iS, h⟩ := u_known (C := R_Lot) (T := T_Lot) (N := 1) (n := 1) hts (fun w hw => (List.mem_filter.mp (in_Lot w hw)).1) (hts (.instantiable R_Lot 1) (List.mem_of_getElem? (i := 275) (by decide +kernel)))
      exact ⟨(cc, iS), fun q hq => by cases hq; exact h⟩
    | 4 =>
      obtain ⟨cc, iS, h⟩ := u_known (C := R_Net) (T := T_Net) (N := 5) (n := 5) hts (fun w hw => (List.mem_filter.mp (in_Net w hw)).1) (hts (.instantiable R_Net 5) (List.mem_of_getElem? (i := 99) (by decide +kernel)))
      exact ⟨(cc, iS), fun q hq => by cases hq; exact h⟩
    | 5 =>
      obtain ⟨cc, iS, h⟩ := u_known (C := R_Prover) (T := T_Prover) (N := 8) (n := 8) hts (fun w hw => (List.mem_filter.mp (in_Prover w hw)).1) (hts (.instantiable R_Prover 8) (List.mem_of_getElem? (i := 179) (by decide +kernel)))
      exact ⟨(cc, iS), fun q hq => by cases hq; exact h⟩
    | 6 =>
      obtain ⟨cc, iS, h⟩ := u_known (C := R_Ranking) (T := T_Ranking) (N := 6) (n := 6) hts (fun w hw => (List.mem_filter.mp (in_Ranking w hw)).1) (hts (.instantiable R_Ranking 6) (List.mem_of_getElem? (i := 138) (by decide +kernel)))
      exact ⟨(cc, iS), fun q hq => by cases hq; exact h⟩
    | 7 =>
      obtain ⟨cc, iS, h⟩ := u_known (C := R_Sheet) (T := T_Sheet) (N := 3) (n := 3) hts (fun w hw => (List.mem_filter.mp (in_Sheet w hw)).1) (hts (.instantiable R_Sheet 3) (List.mem_of_getElem? (i := 289) (by decide +kernel)))
      exact ⟨(cc, iS), fun q hq => by cases hq; exact h⟩
    | 8 =>
      obtain ⟨cc, iS, h⟩ := u_known (C := R_Tape) (T := T_Tape) (N := 5) (n := 5) hts (fun w hw => (List.mem_filter.mp (in_Tape w hw)).1) (hts (.instantiable R_Tape 5) (List.mem_of_getElem? (i := 251) (by decide +kernel)))
      exact ⟨(cc, iS), fun q hq => by cases hq; exact h⟩
    | 9 =>
      obtain ⟨cc, iS, h⟩ := u_known (C := R_FR) (T := T_FR) (N := 11) (n := 11) hts (fun w hw => (List.mem_filter.mp (in_FR w hw)).1) (hts (.instantiable R_FR 11) (List.mem_of_getElem? (i := 91) (by decide +kernel)))
      exact ⟨(cc, iS), fun q hq => by cases hq; exact h⟩
    | 10 =>
      obtain ⟨cc, iS, h⟩ := u_known (C := R_Mo) (T := T_Mo) (N := 39) (n := 39) hts (fun w hw => (List.mem_filter.mp (in_Mo w hw)).1) (hts (.instantiable R_Mo 39) (List.mem_of_getElem? (i := 1039) (by decide +kernel)))
      exact ⟨(cc, iS), fun q hq => by cases hq; exact h⟩
    | k + 11 => exact ⟨(0, fun _ => 0), fun q hq => by simp [vwC] at hq⟩
  obtain ⟨dd, hdd⟩ := Classical.axiomOfChoice hcl
  -- arrays
  obtain ⟨c0, k0, p0, i1, i2, i3⟩ := Cond.arrayClass_spec (hts (.arrayClass .int) (List.mem_of_getElem? (i := 129) (by decide +kernel)))
  obtain ⟨c1, k1, p1, j1, j2, j3⟩ := Cond.arrayClass_spec (hts (.arrayClass .long) (List.mem_of_getElem? (i := 130) (by decide +kernel)))
  obtain ⟨c2, k2, p2, l1, l2, l3⟩ := Cond.arrayClass_spec (hts (.arrayClass .byte) (List.mem_of_getElem? (i := 273) (by decide +kernel)))
  have haS := hts (.arrayOver (.object R_Sheet)) (List.mem_of_getElem? (i := 286) (by decide +kernel))
  have haH := hts (.arrayOver (.object R_Hand)) (List.mem_of_getElem? (i := 288) (by decide +kernel))
  obtain ⟨p3, c3, k3, m1', m2', m3', m4', m5'⟩ := Cond.arrayOver_spec haS
  obtain ⟨p4, c4, k4, n1', n2', n3', n4', n5'⟩ := Cond.arrayOver_spec haH
  -- the table of kinds
  obtain ⟨t, ht, hT⟩ := va_Tof (s := s) (args := #[Value.ref b]) (tm := .static "FittingRings" "KIND_ABOVE" "[I") (ty := .int) (N := 6) (f := fun j => .int (kabL.getD j 0)) (A := fun q : Nat => s.heap.size ≤ q) (by decide) (hs _ (by decide +kernel)) (va_eqt (hs _ (by decide +kernel))) (fun j hj => va_eqt (by
    rcases (show j = 0 ∨ j = 1 ∨ j = 2 ∨ j = 3 ∨ j = 4 ∨ j = 5 by omega) with rfl | rfl | rfl | rfl | rfl | rfl <;> exact hs _ (by decide +kernel))) hA
  have hZ := va_Zof (s := s) (args := #[Value.ref b]) (A := fun q : Nat => s.heap.size ≤ q) (hts (.laysStatic "FittingRings" "KIND_ABOVE" "[I") (List.mem_of_getElem? (i := 995) (by decide +kernel))) (hts (.initialized "FittingRings") (List.mem_of_getElem? (i := 71) (by decide +kernel))) ht hA
  have hZc := va_Zof (s := s) (args := #[Value.ref b]) (A := fun q : Nat => s.heap.size ≤ q) (hts (.laysStatic "java/lang/String" "COMPACT_STRINGS" "Z") (List.mem_of_getElem? (i := 879) (by decide +kernel))) (hts (.initialized "java/lang/String") (List.mem_of_getElem? (i := 86) (by decide +kernel))) (va_eqi (hs _ (by decide +kernel)) : _ = some (.int 1)) hA
  have hZq := va_Zqof (s := s) (args := #[Value.ref b]) (A := fun q : Nat => s.heap.size ≤ q) (hts (.laysStatic "jdk/internal/util/Preconditions" "SIOOBE_FORMATTER" "Ljava/util/function/BiFunction;") (List.mem_of_getElem? (i := 895) (by decide +kernel))) (hts (.initialized "jdk/internal/util/Preconditions") (List.mem_of_getElem? (i := 88) (by decide +kernel))) (hs _ (by decide +kernel)) hA
  -- the String constants
  obtain ⟨adK, adV, hS, hSe⟩ := vk_Sof (s := s) (args := #[Value.ref b]) (N := 11) (tm := fun i => .string R_Tape (strL.getD i (0, "")).1) (len := lenS) (byt := bytS) (A := fun q : Nat => s.heap.size ≤ q) (by decide)
    (fun i hi => hs _ ((show ∀ i, i < 11 → (Cond.exactly (.string R_Tape (strL.getD i (0, "")).1) "java/lang/String") ∈ flatC (Jvm.Cond.and given_1 narrow_1) by decide +kernel) i hi))
    (fun i hi => hs _ ((show ∀ i, i < 11 → (Cond.eq (.field (.string R_Tape (strL.getD i (0, "")).1) "java/lang/String" "coder" "B") (.int 0)) ∈ flatC (Jvm.Cond.and given_1 narrow_1) by decide +kernel) i hi))
    (fun i hi => hs _ ((show ∀ i, i < 11 → (Cond.arrayOf (.field (.string R_Tape (strL.getD i (0, "")).1) "java/lang/String" "value" "[B") .byte) ∈ flatC (Jvm.Cond.and given_1 narrow_1) by decide +kernel) i hi))
    (fun i hi => hs _ ((show ∀ i, i < 11 → (Cond.eq (.length (.field (.string R_Tape (strL.getD i (0, "")).1) "java/lang/String" "value" "[B")) (.int (Int32.ofNat (lenS.getD i 0)))) ∈ flatC (Jvm.Cond.and given_1 narrow_1) by decide +kernel) i hi))
    (fun i hi j hj => hs _ ((show ∀ i, i < 11 → ∀ j, j < lenS.getD i 0 → (Cond.eq (.elem (.field (.string R_Tape (strL.getD i (0, "")).1) "java/lang/String" "value" "[B") (.int (Int32.ofNat j))) (.int ((bytS.getD i []).getD j 0))) ∈ flatC (Jvm.Cond.and given_1 narrow_1) by decide +kernel) i hi j hj))
    (fun i j hi hj hne => (show ∀ i, i < 11 → ∀ j, j < 11 → i ≠ j → (Cond.not (Cond.eq (.string R_Tape (strL.getD i (0, "")).1) (.string R_Tape (strL.getD j (0, "")).1))) ∈ flatC (Jvm.Cond.and given_1 narrow_1) ∨ (Cond.not (Cond.eq (.string R_Tape (strL.getD j (0, "")).1) (.string R_Tape (strL.getD i (0, "")).1))) ∈ flatC (Jvm.Cond.and given_1 narrow_1) by decide +kernel) i hi j hj hne |>.imp (fun h => hs _ h) (fun h => hs _ h)) hA
  refine ⟨(fun k => (dd k).1, fun k => (dd k).2), fun k => if k = 100 then c0 else if k = 101 then c1 else if k = 102 then c2 else if k = 103 then c3 else c4, t, adK, adV, ?_⟩
  generalize hE : (((fun k => (dd k).1, fun k => (dd k).2), adr s.heap.size t b adK adV, fun k => if k = 100 then c0 else if k = 101 then c1 else if k = 102 then c2 else if k = 103 then c3 else c4) : En) = E
  have hAA : ∀ q, AA E q → (fun q : Nat => s.heap.size ≤ q) q := by
    rintro q ⟨o, ho, rfl⟩
    subst hE
    show s.heap.size ≤ adr s.heap.size t b adK adV o
    have ho' : o < 72 := ho
    simp [adr, ho']
  have hK : va_K E.1 vwC (tysE E) s := by
    subst hE
    refine ⟨fun k q hq => hdd k q hq, fun k q hq => ?_⟩
    match k, hq with
    | 0, hq => cases hq; exact ⟨fun n z => ⟨fun k h => (by cases h), k0, i2, p0, i3⟩, i1⟩
    | 1, hq => cases hq; exact ⟨fun n z => ⟨fun k h => (by cases h), k1, j2, p1, j3⟩, j1⟩
    | 2, hq => cases hq; exact ⟨fun n z => ⟨fun k h => (by cases h), k2, l2, p2, l3⟩, l1⟩
    | 3, hq => cases hq; exact ⟨fun n z => ⟨fun k h => (by cases h), k3, m3', p3, m4'⟩, k3, p3, m3', m4', m1', m5'⟩
    | 4, hq => cases hq; exact ⟨fun n z => ⟨fun k h => (by cases h), k4, n3', p4, n4'⟩, k4, p4, n3', n4', n1', n5'⟩
    | k + 5, hq => simp [tysE] at hq
  have e998 : E.2.1 998 = t := by subst hE; rfl
  have eK : ∀ i, i < 11 → E.2.1 (1000 + i) = adK i := by
    intro i hi; subst hE; simp [adr, show ¬ (1000 + i < 72) by omega, show ¬ (1000 + i = 998) by omega, show ¬ (1000 + i = 999) by omega, show 1000 + i < 1100 by omega]
  have eV : ∀ i, i < 11 → E.2.1 (1100 + i) = adV i := by
    intro i hi; subst hE; simp [adr, show ¬ (1100 + i < 72) by omega, show ¬ (1100 + i = 998) by omega, show ¬ (1100 + i = 999) by omega, show ¬ (1100 + i < 1100) by omega]
  refine ⟨⟨hK, fun q hq => ?_, ⟨by rw [e998]; exact hZ.narrow hAA, by rw [e998]; exact hT.narrow hAA, hZc.narrow hAA, hZq.narrow hAA, ?_⟩, fun i hi => ?_⟩, hK, fun q hq => ?_, va_AO.of haS, va_AO.of haH⟩
  · refine va_Nw.of rfl (hts _ ?_)
    exact (show ∀ q ∈ nstL, Cond.methodLinkNest q.1 q.2.1 q.2.2.1 q.2.2.2 ∈ lw_tbl by decide +kernel) q hq
  · have h1 := hS.narrow hAA
    refine ⟨fun i hi => ?_, fun i j hi hj h => h1.2 i j hi hj (by rw [← eK i hi, ← eK j hj]; exact h)⟩
    have h2 := h1.1 i hi
    rw [← eK i hi, ← eV i hi] at h2
    exact h2
  · rw [eK i hi]
    refine vk_R.of (hts _ ?_) (hSe i hi)
    exact (show ∀ i, i < 11 → Cond.stringRef R_Tape (strL.getD i (0, "")).1 (strL.getD i (0, "")).2 ∈ lw_tbl by decide +kernel) i hi
  · refine va_Nw.of rfl (hts _ ?_)
    exact (show ∀ q ∈ nstC, Cond.methodLinkNest q.1 q.2.1 q.2.2.1 q.2.2.2 ∈ lw_tbl by decide +kernel) q hq
