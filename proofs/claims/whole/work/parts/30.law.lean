/-! the law's loop -/
def SX (X : Xt) (E : En) (L : Nat) (xs : Nat → Int32) : Prop := va_X (E.2.1 999) L xs (x_s X) (x_s X).heap ∧ E.2.1 999 < (x_s X).heap.size ∧ ¬ AA E (E.2.1 999)
section SXR
variable {X : Xt} {E : En} {hh nL pc L : Nat} {xs : Nat → Int32} {cc : ByteArray} {own : String} {R : Type} {emb : R → Option Value} {lv : List (Nat × Value)} {st : List Value} {σ : Sto} {T : Option (R × Sto)}
theorem v_sld {i : Int32} (hX : SX X E L xs) (g : GG X E hh cc own nL) (d : decode cc pc = .ok (.iaload, 1)) (kk : inb i L = true → VV X E cc nL emb (pc + 1) lv (.int (xs i.toNatClampNeg) :: st) σ T) : VV X E cc nL emb pc lv (.int i :: .ref (E.2.1 999) :: st) σ (if inb i L = true then T else none) := by
  refine v_grd _ fun hi => ?_
  intro r σ' hT hF H locs ls hP hS hl
  exact va_sld g.1.1 g.1.2.1 hX.1 hX.2.1 hX.2.2 hS (inb_in hi) d (kk hi r σ' hT hF H locs ls hP hS hl)
theorem v_slen (hX : SX X E L xs) (g : GG X E hh cc own nL) (d : decode cc pc = .ok (.arraylength, 1)) (kk : VV X E cc nL emb (pc + 1) lv (.int (Int32.ofNat L) :: st) σ T) : VV X E cc nL emb pc lv (.ref (E.2.1 999) :: st) σ T := by
  intro r σ' hT hF H locs ls hP hS hl
  exact va_slen g.1.1 g.1.2.1 hX.1 hX.2.1 hX.2.2 hS d (kk r σ' hT hF H locs ls hP hS hl)
end SXR
theorem d_La_law_2686 : decode code 2686 = .ok (.iinc 3 8, 3) := by decide +kernel
theorem d_La_law_2689 : decode code 2689 = .ok (.goto (-2671), 3) := by decide +kernel
def B_La_law_2686 (L : Nat) (xs : Nat → Int32) (k18 : Int32 → Sto → Option (Bool × Sto)) (v3 : Int32) (σ : Sto) : Option (Bool × Sto) :=
  k18 (v3 + (8 : Int32)) σ
set_option maxHeartbeats 4000000 in
set_option maxRecDepth 100000 in
theorem vB_La_law_2686 {X : Xt} {E : En} {L : Nat} {xs : Nat → Int32} (hX : SX X E L xs) (g : GG X E 200 code R_La 4) {k18 : Int32 → Sto → Option (Bool × Sto)} (hk18 : ∀ (v3 : Int32) (σ : Sto), VV X E code 4 eB 18 [(0, .ref (E.2.1 999)), (1, .ref (E.2.1 0)), (2, .ref (E.2.1 48)), (3, .int v3)] [] σ (k18 v3 σ)) (v3 : Int32) (σ : Sto) : VV X E code 4 eB 2686 [(0, .ref (E.2.1 999)), (1, .ref (E.2.1 0)), (2, .ref (E.2.1 48)), (3, .int v3)] [] σ (B_La_law_2686 L xs k18 v3 σ) := by
  unfold B_La_law_2686
  refine v_iinc 3 [(3, .int (v3 + (8 : Int32))), (0, .ref (E.2.1 999)), (1, .ref (E.2.1 0)), (2, .ref (E.2.1 48))] g d_La_law_2686 rfl (v := (8 : Int32)) (by decide +kernel) (by decide) rfl ?_
  refine v_goto 18 g d_La_law_2689 (by decide) ?_
  exact v_sub [1,2,3,0] rfl (hk18 (v3 + (8 : Int32)) σ)
theorem d_La_law_220 : decode code 220 = .ok (.aload_n 1, 1) := by decide +kernel
theorem d_La_law_221 : decode code 221 = .ok (.aload_n 0, 1) := by decide +kernel
theorem d_La_law_222 : decode code 222 = .ok (.iload_n 3, 1) := by decide +kernel
theorem d_La_law_223 : decode code 223 = .ok (.iconst 1, 1) := by decide +kernel
theorem d_La_law_224 : decode code 224 = .ok (.iadd, 1) := by decide +kernel
theorem d_La_law_225 : decode code 225 = .ok (.iaload, 1) := by decide +kernel
theorem d_La_law_226 : decode code 226 = .ok (.aload_n 0, 1) := by decide +kernel
theorem d_La_law_227 : decode code 227 = .ok (.iload_n 3, 1) := by decide +kernel
theorem d_La_law_228 : decode code 228 = .ok (.iconst 2, 1) := by decide +kernel
theorem d_La_law_229 : decode code 229 = .ok (.iadd, 1) := by decide +kernel
theorem d_La_law_230 : decode code 230 = .ok (.iaload, 1) := by decide +kernel
theorem d_La_law_231 : decode code 231 = .ok (.invokevirtual 13, 3) := by decide +kernel
theorem d_La_law_234 : decode code 234 = .ok (.aload_n 2, 1) := by decide +kernel
theorem d_La_law_235 : decode code 235 = .ok (.aload_n 0, 1) := by decide +kernel
theorem d_La_law_236 : decode code 236 = .ok (.iload_n 3, 1) := by decide +kernel
theorem d_La_law_237 : decode code 237 = .ok (.iconst 1, 1) := by decide +kernel
theorem d_La_law_238 : decode code 238 = .ok (.iadd, 1) := by decide +kernel
theorem d_La_law_239 : decode code 239 = .ok (.iaload, 1) := by decide +kernel
theorem d_La_law_240 : decode code 240 = .ok (.aload_n 0, 1) := by decide +kernel
theorem d_La_law_241 : decode code 241 = .ok (.iload_n 3, 1) := by decide +kernel
theorem d_La_law_242 : decode code 242 = .ok (.iconst 2, 1) := by decide +kernel
theorem d_La_law_243 : decode code 243 = .ok (.iadd, 1) := by decide +kernel
theorem d_La_law_244 : decode code 244 = .ok (.iaload, 1) := by decide +kernel
theorem d_La_law_245 : decode code 245 = .ok (.invokevirtual 17, 3) := by decide +kernel
theorem d_La_law_248 : decode code 248 = .ok (.if_icmp .eq 2438, 3) := by decide +kernel
theorem d_La_law_251 : decode code 251 = .ok (.iconst 0, 1) := by decide +kernel
theorem d_La_law_252 : decode code 252 = .ok (.ireturn, 1) := by decide +kernel
def B_La_law_220 (L : Nat) (xs : Nat → Int32) (k18 : Int32 → Sto → Option (Bool × Sto)) (v3 : Int32) (σ : Sto) : Option (Bool × Sto) :=
  (if inb (v3 + (1 : Int32)) L = true then (if inb (v3 + (2 : Int32)) L = true then ((f_FR_point (xs (Int32.toNatClampNeg (v3 + (1 : Int32)))) (xs (Int32.toNatClampNeg (v3 + (2 : Int32)))) σ).bind fun q1 => (if inb (v3 + (1 : Int32)) L = true then (if inb (v3 + (2 : Int32)) L = true then ((f_Mo_point (xs (Int32.toNatClampNeg (v3 + (1 : Int32)))) (xs (Int32.toNatClampNeg (v3 + (2 : Int32)))) q1.2).bind fun q2 => (if q1.1 = q2.1 then B_La_law_2686 L xs k18 v3 q2.2
 else some (false, q2.2))) else none) else none)) else none) else none)
set_option maxHeartbeats 4000000 in
set_option maxRecDepth 100000 in
theorem vB_La_law_220 {X : Xt} {E : En} {L : Nat} {xs : Nat → Int32} (hX : SX X E L xs) (g : GG X E 200 code R_La 4) {k18 : Int32 → Sto → Option (Bool × Sto)} (hk18 : ∀ (v3 : Int32) (σ : Sto), VV X E code 4 eB 18 [(0, .ref (E.2.1 999)), (1, .ref (E.2.1 0)), (2, .ref (E.2.1 48)), (3, .int v3)] [] σ (k18 v3 σ)) (v3 : Int32) (σ : Sto) : VV X E code 4 eB 220 [(0, .ref (E.2.1 999)), (1, .ref (E.2.1 0)), (2, .ref (E.2.1 48)), (3, .int v3)] [] σ (B_La_law_220 L xs k18 v3 σ) := by
  unfold B_La_law_220
  refine v_aload_n 1 g d_La_law_220 rfl ?_
  refine v_aload_n 0 g d_La_law_221 rfl ?_
  refine v_iload_n 3 g d_La_law_222 rfl ?_
  refine v_iconst (v := (1 : Int32)) g d_La_law_223 (by decide +kernel) ?_
  refine v_iadd g d_La_law_224 ?_
  refine v_sld hX g d_La_law_225 (fun _ => ?_)
  refine v_aload_n 0 g d_La_law_226 rfl ?_
  refine v_iload_n 3 g d_La_law_227 rfl ?_
  refine v_iconst (v := (2 : Int32)) g d_La_law_228 (by decide +kernel) ?_
  refine v_iadd g d_La_law_229 ?_
  refine v_sld hX g d_La_law_230 (fun _ => ?_)
  refine v_callI (r_V (rest := []) [.int (xs (Int32.toNatClampNeg (v3 + (1 : Int32)))), .int (xs (Int32.toNatClampNeg (v3 + (2 : Int32))))] g (m1 364 (by decide +kernel) (by decide +kernel)) yv_FR_point rfl (fun r σ1 h => sp_FR_point g.2.2.1  h) rfl rfl (by decide) (Nat.le_of_ble_eq_true rfl) d_La_law_231) (fun q1 => ?_)
  refine v_aload_n 2 g d_La_law_234 rfl ?_
  refine v_aload_n 0 g d_La_law_235 rfl ?_
  refine v_iload_n 3 g d_La_law_236 rfl ?_
  refine v_iconst (v := (1 : Int32)) g d_La_law_237 (by decide +kernel) ?_
  refine v_iadd g d_La_law_238 ?_
  refine v_sld hX g d_La_law_239 (fun _ => ?_)
  refine v_aload_n 0 g d_La_law_240 rfl ?_
  refine v_iload_n 3 g d_La_law_241 rfl ?_
  refine v_iconst (v := (2 : Int32)) g d_La_law_242 (by decide +kernel) ?_
  refine v_iadd g d_La_law_243 ?_
  refine v_sld hX g d_La_law_244 (fun _ => ?_)
  refine v_callI (r_V (rest := [.int q1.1]) [.int (xs (Int32.toNatClampNeg (v3 + (1 : Int32)))), .int (xs (Int32.toNatClampNeg (v3 + (2 : Int32))))] g (m1 1162 (by decide +kernel) (by decide +kernel)) yv_Mo_point rfl (fun r σ1 h => sp_Mo_point g.2.2.1  h) rfl rfl (by decide) (Nat.le_of_ble_eq_true rfl) d_La_law_245) (fun q2 => ?_)
  refine v_icmp_eq 2686 g d_La_law_248 (by decide) (fun _ => ?_) (fun _ => ?_)
  · exact v_sub [0,1,2,3] rfl (vB_La_law_2686 hX g hk18 v3 q2.2)
  · refine v_iconst (v := (0 : Int32)) g d_La_law_251 (by decide +kernel) ?_
    exact v_ret d_La_law_252 rfl
theorem d_La_law_253 : decode code 253 = .ok (.aload_n 1, 1) := by decide +kernel
theorem d_La_law_254 : decode code 254 = .ok (.aload_n 0, 1) := by decide +kernel
theorem d_La_law_255 : decode code 255 = .ok (.iload_n 3, 1) := by decide +kernel
theorem d_La_law_256 : decode code 256 = .ok (.iconst 1, 1) := by decide +kernel
theorem d_La_law_257 : decode code 257 = .ok (.iadd, 1) := by decide +kernel
theorem d_La_law_258 : decode code 258 = .ok (.iaload, 1) := by decide +kernel
theorem d_La_law_259 : decode code 259 = .ok (.aload_n 0, 1) := by decide +kernel
theorem d_La_law_260 : decode code 260 = .ok (.iload_n 3, 1) := by decide +kernel
theorem d_La_law_261 : decode code 261 = .ok (.iconst 2, 1) := by decide +kernel
theorem d_La_law_262 : decode code 262 = .ok (.iadd, 1) := by decide +kernel
theorem d_La_law_263 : decode code 263 = .ok (.iaload, 1) := by decide +kernel
theorem d_La_law_264 : decode code 264 = .ok (.invokevirtual 18, 3) := by decide +kernel
theorem d_La_law_267 : decode code 267 = .ok (.aload_n 2, 1) := by decide +kernel
theorem d_La_law_268 : decode code 268 = .ok (.aload_n 0, 1) := by decide +kernel
theorem d_La_law_269 : decode code 269 = .ok (.iload_n 3, 1) := by decide +kernel
theorem d_La_law_270 : decode code 270 = .ok (.iconst 1, 1) := by decide +kernel
theorem d_La_law_271 : decode code 271 = .ok (.iadd, 1) := by decide +kernel
theorem d_La_law_272 : decode code 272 = .ok (.iaload, 1) := by decide +kernel
theorem d_La_law_273 : decode code 273 = .ok (.aload_n 0, 1) := by decide +kernel
theorem d_La_law_274 : decode code 274 = .ok (.iload_n 3, 1) := by decide +kernel
theorem d_La_law_275 : decode code 275 = .ok (.iconst 2, 1) := by decide +kernel
theorem d_La_law_276 : decode code 276 = .ok (.iadd, 1) := by decide +kernel
theorem d_La_law_277 : decode code 277 = .ok (.iaload, 1) := by decide +kernel
theorem d_La_law_278 : decode code 278 = .ok (.invokevirtual 21, 3) := by decide +kernel
theorem d_La_law_281 : decode code 281 = .ok (.if_icmp .eq 2405, 3) := by decide +kernel
theorem d_La_law_284 : decode code 284 = .ok (.iconst 0, 1) := by decide +kernel
theorem d_La_law_285 : decode code 285 = .ok (.ireturn, 1) := by decide +kernel
def B_La_law_253 (L : Nat) (xs : Nat → Int32) (k18 : Int32 → Sto → Option (Bool × Sto)) (v3 : Int32) (σ : Sto) : Option (Bool × Sto) :=
  (if inb (v3 + (1 : Int32)) L = true then (if inb (v3 + (2 : Int32)) L = true then ((f_FR_told (xs (Int32.toNatClampNeg (v3 + (1 : Int32)))) (xs (Int32.toNatClampNeg (v3 + (2 : Int32)))) σ).bind fun q3 => (if inb (v3 + (1 : Int32)) L = true then (if inb (v3 + (2 : Int32)) L = true then ((f_Mo_told (xs (Int32.toNatClampNeg (v3 + (1 : Int32)))) (xs (Int32.toNatClampNeg (v3 + (2 : Int32)))) q3.2).bind fun q4 => (if q3.1 = q4.1 then B_La_law_2686 L xs k18 v3 q4.2
 else some (false, q4.2))) else none) else none)) else none) else none)
set_option maxHeartbeats 4000000 in
set_option maxRecDepth 100000 in
theorem vB_La_law_253 {X : Xt} {E : En} {L : Nat} {xs : Nat → Int32} (hX : SX X E L xs) (g : GG X E 200 code R_La 4) {k18 : Int32 → Sto → Option (Bool × Sto)} (hk18 : ∀ (v3 : Int32) (σ : Sto), VV X E code 4 eB 18 [(0, .ref (E.2.1 999)), (1, .ref (E.2.1 0)), (2, .ref (E.2.1 48)), (3, .int v3)] [] σ (k18 v3 σ)) (v3 : Int32) (σ : Sto) : VV X E code 4 eB 253 [(0, .ref (E.2.1 999)), (1, .ref (E.2.1 0)), (2, .ref (E.2.1 48)), (3, .int v3)] [] σ (B_La_law_253 L xs k18 v3 σ) := by
  unfold B_La_law_253
  refine v_aload_n 1 g d_La_law_253 rfl ?_
  refine v_aload_n 0 g d_La_law_254 rfl ?_
  refine v_iload_n 3 g d_La_law_255 rfl ?_
  refine v_iconst (v := (1 : Int32)) g d_La_law_256 (by decide +kernel) ?_
  refine v_iadd g d_La_law_257 ?_
  refine v_sld hX g d_La_law_258 (fun _ => ?_)
  refine v_aload_n 0 g d_La_law_259 rfl ?_
  refine v_iload_n 3 g d_La_law_260 rfl ?_
  refine v_iconst (v := (2 : Int32)) g d_La_law_261 (by decide +kernel) ?_
  refine v_iadd g d_La_law_262 ?_
  refine v_sld hX g d_La_law_263 (fun _ => ?_)
  refine v_callI (r_V (rest := []) [.int (xs (Int32.toNatClampNeg (v3 + (1 : Int32)))), .int (xs (Int32.toNatClampNeg (v3 + (2 : Int32))))] g (m1 395 (by decide +kernel) (by decide +kernel)) yv_FR_told rfl (fun r σ1 h => sp_FR_told g.2.2.1  h) rfl rfl (by decide) (Nat.le_of_ble_eq_true rfl) d_La_law_264) (fun q3 => ?_)
  refine v_aload_n 2 g d_La_law_267 rfl ?_
  refine v_aload_n 0 g d_La_law_268 rfl ?_
  refine v_iload_n 3 g d_La_law_269 rfl ?_
  refine v_iconst (v := (1 : Int32)) g d_La_law_270 (by decide +kernel) ?_
  refine v_iadd g d_La_law_271 ?_
  refine v_sld hX g d_La_law_272 (fun _ => ?_)
  refine v_aload_n 0 g d_La_law_273 rfl ?_
  refine v_iload_n 3 g d_La_law_274 rfl ?_
  refine v_iconst (v := (2 : Int32)) g d_La_law_275 (by decide +kernel) ?_
  refine v_iadd g d_La_law_276 ?_
  refine v_sld hX g d_La_law_277 (fun _ => ?_)
  refine v_callI (r_V (rest := [.int q3.1]) [.int (xs (Int32.toNatClampNeg (v3 + (1 : Int32)))), .int (xs (Int32.toNatClampNeg (v3 + (2 : Int32))))] g (m1 1175 (by decide +kernel) (by decide +kernel)) yv_Mo_told rfl (fun r σ1 h => sp_Mo_told g.2.2.1  h) rfl rfl (by decide) (Nat.le_of_ble_eq_true rfl) d_La_law_278) (fun q4 => ?_)
  refine v_icmp_eq 2686 g d_La_law_281 (by decide) (fun _ => ?_) (fun _ => ?_)
  · exact v_sub [0,1,2,3] rfl (vB_La_law_2686 hX g hk18 v3 q4.2)
  · refine v_iconst (v := (0 : Int32)) g d_La_law_284 (by decide +kernel) ?_
    exact v_ret d_La_law_285 rfl
theorem d_La_law_286 : decode code 286 = .ok (.aload_n 1, 1) := by decide +kernel
theorem d_La_law_287 : decode code 287 = .ok (.aload_n 0, 1) := by decide +kernel
theorem d_La_law_288 : decode code 288 = .ok (.iload_n 3, 1) := by decide +kernel
theorem d_La_law_289 : decode code 289 = .ok (.iconst 1, 1) := by decide +kernel
theorem d_La_law_290 : decode code 290 = .ok (.iadd, 1) := by decide +kernel
theorem d_La_law_291 : decode code 291 = .ok (.iaload, 1) := by decide +kernel
theorem d_La_law_292 : decode code 292 = .ok (.aload_n 0, 1) := by decide +kernel
theorem d_La_law_293 : decode code 293 = .ok (.iload_n 3, 1) := by decide +kernel
theorem d_La_law_294 : decode code 294 = .ok (.iconst 2, 1) := by decide +kernel
theorem d_La_law_295 : decode code 295 = .ok (.iadd, 1) := by decide +kernel
theorem d_La_law_296 : decode code 296 = .ok (.iaload, 1) := by decide +kernel
theorem d_La_law_297 : decode code 297 = .ok (.invokevirtual 22, 3) := by decide +kernel
theorem d_La_law_300 : decode code 300 = .ok (.aload_n 2, 1) := by decide +kernel
theorem d_La_law_301 : decode code 301 = .ok (.aload_n 0, 1) := by decide +kernel
theorem d_La_law_302 : decode code 302 = .ok (.iload_n 3, 1) := by decide +kernel
theorem d_La_law_303 : decode code 303 = .ok (.iconst 1, 1) := by decide +kernel
theorem d_La_law_304 : decode code 304 = .ok (.iadd, 1) := by decide +kernel
theorem d_La_law_305 : decode code 305 = .ok (.iaload, 1) := by decide +kernel
theorem d_La_law_306 : decode code 306 = .ok (.aload_n 0, 1) := by decide +kernel
theorem d_La_law_307 : decode code 307 = .ok (.iload_n 3, 1) := by decide +kernel
theorem d_La_law_308 : decode code 308 = .ok (.iconst 2, 1) := by decide +kernel
theorem d_La_law_309 : decode code 309 = .ok (.iadd, 1) := by decide +kernel
theorem d_La_law_310 : decode code 310 = .ok (.iaload, 1) := by decide +kernel
theorem d_La_law_311 : decode code 311 = .ok (.invokevirtual 25, 3) := by decide +kernel
theorem d_La_law_314 : decode code 314 = .ok (.if_icmp .eq 2372, 3) := by decide +kernel
theorem d_La_law_317 : decode code 317 = .ok (.iconst 0, 1) := by decide +kernel
theorem d_La_law_318 : decode code 318 = .ok (.ireturn, 1) := by decide +kernel
def B_La_law_286 (L : Nat) (xs : Nat → Int32) (k18 : Int32 → Sto → Option (Bool × Sto)) (v3 : Int32) (σ : Sto) : Option (Bool × Sto) :=
  (if inb (v3 + (1 : Int32)) L = true then (if inb (v3 + (2 : Int32)) L = true then ((f_FR_set (xs (Int32.toNatClampNeg (v3 + (1 : Int32)))) (xs (Int32.toNatClampNeg (v3 + (2 : Int32)))) σ).bind fun q5 => (if inb (v3 + (1 : Int32)) L = true then (if inb (v3 + (2 : Int32)) L = true then ((f_Mo_set (xs (Int32.toNatClampNeg (v3 + (1 : Int32)))) (xs (Int32.toNatClampNeg (v3 + (2 : Int32)))) q5.2).bind fun q6 => (if q5.1 = q6.1 then B_La_law_2686 L xs k18 v3 q6.2
 else some (false, q6.2))) else none) else none)) else none) else none)
set_option maxHeartbeats 4000000 in
set_option maxRecDepth 100000 in
theorem vB_La_law_286 {X : Xt} {E : En} {L : Nat} {xs : Nat → Int32} (hX : SX X E L xs) (g : GG X E 200 code R_La 4) {k18 : Int32 → Sto → Option (Bool × Sto)} (hk18 : ∀ (v3 : Int32) (σ : Sto), VV X E code 4 eB 18 [(0, .ref (E.2.1 999)), (1, .ref (E.2.1 0)), (2, .ref (E.2.1 48)), (3, .int v3)] [] σ (k18 v3 σ)) (v3 : Int32) (σ : Sto) : VV X E code 4 eB 286 [(0, .ref (E.2.1 999)), (1, .ref (E.2.1 0)), (2, .ref (E.2.1 48)), (3, .int v3)] [] σ (B_La_law_286 L xs k18 v3 σ) := by
  unfold B_La_law_286
  refine v_aload_n 1 g d_La_law_286 rfl ?_
  refine v_aload_n 0 g d_La_law_287 rfl ?_
  refine v_iload_n 3 g d_La_law_288 rfl ?_
  refine v_iconst (v := (1 : Int32)) g d_La_law_289 (by decide +kernel) ?_
  refine v_iadd g d_La_law_290 ?_
  refine v_sld hX g d_La_law_291 (fun _ => ?_)
  refine v_aload_n 0 g d_La_law_292 rfl ?_
  refine v_iload_n 3 g d_La_law_293 rfl ?_
  refine v_iconst (v := (2 : Int32)) g d_La_law_294 (by decide +kernel) ?_
  refine v_iadd g d_La_law_295 ?_
  refine v_sld hX g d_La_law_296 (fun _ => ?_)
  refine v_callI (r_V (rest := []) [.int (xs (Int32.toNatClampNeg (v3 + (1 : Int32)))), .int (xs (Int32.toNatClampNeg (v3 + (2 : Int32))))] g (m1 401 (by decide +kernel) (by decide +kernel)) yv_FR_set rfl (fun r σ1 h => sp_FR_set g.2.2.1  h) rfl rfl (by decide) (Nat.le_of_ble_eq_true rfl) d_La_law_297) (fun q5 => ?_)
  refine v_aload_n 2 g d_La_law_300 rfl ?_
  refine v_aload_n 0 g d_La_law_301 rfl ?_
  refine v_iload_n 3 g d_La_law_302 rfl ?_
  refine v_iconst (v := (1 : Int32)) g d_La_law_303 (by decide +kernel) ?_
  refine v_iadd g d_La_law_304 ?_
  refine v_sld hX g d_La_law_305 (fun _ => ?_)
  refine v_aload_n 0 g d_La_law_306 rfl ?_
  refine v_iload_n 3 g d_La_law_307 rfl ?_
  refine v_iconst (v := (2 : Int32)) g d_La_law_308 (by decide +kernel) ?_
  refine v_iadd g d_La_law_309 ?_
  refine v_sld hX g d_La_law_310 (fun _ => ?_)
  refine v_callI (r_V (rest := [.int q5.1]) [.int (xs (Int32.toNatClampNeg (v3 + (1 : Int32)))), .int (xs (Int32.toNatClampNeg (v3 + (2 : Int32))))] g (m1 1191 (by decide +kernel) (by decide +kernel)) yv_Mo_set rfl (fun r σ1 h => sp_Mo_set g.2.2.1  h) rfl rfl (by decide) (Nat.le_of_ble_eq_true rfl) d_La_law_311) (fun q6 => ?_)
  refine v_icmp_eq 2686 g d_La_law_314 (by decide) (fun _ => ?_) (fun _ => ?_)
  · exact v_sub [0,1,2,3] rfl (vB_La_law_2686 hX g hk18 v3 q6.2)
  · refine v_iconst (v := (0 : Int32)) g d_La_law_317 (by decide +kernel) ?_
    exact v_ret d_La_law_318 rfl
theorem d_La_law_319 : decode code 319 = .ok (.aload_n 1, 1) := by decide +kernel
theorem d_La_law_320 : decode code 320 = .ok (.aload_n 0, 1) := by decide +kernel
theorem d_La_law_321 : decode code 321 = .ok (.iload_n 3, 1) := by decide +kernel
theorem d_La_law_322 : decode code 322 = .ok (.iconst 1, 1) := by decide +kernel
theorem d_La_law_323 : decode code 323 = .ok (.iadd, 1) := by decide +kernel
theorem d_La_law_324 : decode code 324 = .ok (.iaload, 1) := by decide +kernel
theorem d_La_law_325 : decode code 325 = .ok (.aload_n 0, 1) := by decide +kernel
theorem d_La_law_326 : decode code 326 = .ok (.iload_n 3, 1) := by decide +kernel
theorem d_La_law_327 : decode code 327 = .ok (.iconst 2, 1) := by decide +kernel
theorem d_La_law_328 : decode code 328 = .ok (.iadd, 1) := by decide +kernel
theorem d_La_law_329 : decode code 329 = .ok (.iaload, 1) := by decide +kernel
theorem d_La_law_330 : decode code 330 = .ok (.invokevirtual 26, 3) := by decide +kernel
theorem d_La_law_333 : decode code 333 = .ok (.aload_n 2, 1) := by decide +kernel
theorem d_La_law_334 : decode code 334 = .ok (.aload_n 0, 1) := by decide +kernel
theorem d_La_law_335 : decode code 335 = .ok (.iload_n 3, 1) := by decide +kernel
theorem d_La_law_336 : decode code 336 = .ok (.iconst 1, 1) := by decide +kernel
theorem d_La_law_337 : decode code 337 = .ok (.iadd, 1) := by decide +kernel
theorem d_La_law_338 : decode code 338 = .ok (.iaload, 1) := by decide +kernel
theorem d_La_law_339 : decode code 339 = .ok (.aload_n 0, 1) := by decide +kernel
theorem d_La_law_340 : decode code 340 = .ok (.iload_n 3, 1) := by decide +kernel
theorem d_La_law_341 : decode code 341 = .ok (.iconst 2, 1) := by decide +kernel
theorem d_La_law_342 : decode code 342 = .ok (.iadd, 1) := by decide +kernel
theorem d_La_law_343 : decode code 343 = .ok (.iaload, 1) := by decide +kernel
theorem d_La_law_344 : decode code 344 = .ok (.invokevirtual 29, 3) := by decide +kernel
theorem d_La_law_347 : decode code 347 = .ok (.if_icmp .eq 2339, 3) := by decide +kernel
theorem d_La_law_350 : decode code 350 = .ok (.iconst 0, 1) := by decide +kernel
theorem d_La_law_351 : decode code 351 = .ok (.ireturn, 1) := by decide +kernel
def B_La_law_319 (L : Nat) (xs : Nat → Int32) (k18 : Int32 → Sto → Option (Bool × Sto)) (v3 : Int32) (σ : Sto) : Option (Bool × Sto) :=
  (if inb (v3 + (1 : Int32)) L = true then (if inb (v3 + (2 : Int32)) L = true then ((f_FR_turns (xs (Int32.toNatClampNeg (v3 + (1 : Int32)))) (xs (Int32.toNatClampNeg (v3 + (2 : Int32)))) σ).bind fun q7 => (if inb (v3 + (1 : Int32)) L = true then (if inb (v3 + (2 : Int32)) L = true then ((f_Mo_turns (xs (Int32.toNatClampNeg (v3 + (1 : Int32)))) (xs (Int32.toNatClampNeg (v3 + (2 : Int32)))) q7.2).bind fun q8 => (if q7.1 = q8.1 then B_La_law_2686 L xs k18 v3 q8.2
 else some (false, q8.2))) else none) else none)) else none) else none)
set_option maxHeartbeats 4000000 in
set_option maxRecDepth 100000 in
theorem vB_La_law_319 {X : Xt} {E : En} {L : Nat} {xs : Nat → Int32} (hX : SX X E L xs) (g : GG X E 200 code R_La 4) {k18 : Int32 → Sto → Option (Bool × Sto)} (hk18 : ∀ (v3 : Int32) (σ : Sto), VV X E code 4 eB 18 [(0, .ref (E.2.1 999)), (1, .ref (E.2.1 0)), (2, .ref (E.2.1 48)), (3, .int v3)] [] σ (k18 v3 σ)) (v3 : Int32) (σ : Sto) : VV X E code 4 eB 319 [(0, .ref (E.2.1 999)), (1, .ref (E.2.1 0)), (2, .ref (E.2.1 48)), (3, .int v3)] [] σ (B_La_law_319 L xs k18 v3 σ) := by
  unfold B_La_law_319
  refine v_aload_n 1 g d_La_law_319 rfl ?_
  refine v_aload_n 0 g d_La_law_320 rfl ?_
  refine v_iload_n 3 g d_La_law_321 rfl ?_
  refine v_iconst (v := (1 : Int32)) g d_La_law_322 (by decide +kernel) ?_
  refine v_iadd g d_La_law_323 ?_
  refine v_sld hX g d_La_law_324 (fun _ => ?_)
  refine v_aload_n 0 g d_La_law_325 rfl ?_
  refine v_iload_n 3 g d_La_law_326 rfl ?_
  refine v_iconst (v := (2 : Int32)) g d_La_law_327 (by decide +kernel) ?_
  refine v_iadd g d_La_law_328 ?_
  refine v_sld hX g d_La_law_329 (fun _ => ?_)
  refine v_callI (r_V (rest := []) [.int (xs (Int32.toNatClampNeg (v3 + (1 : Int32)))), .int (xs (Int32.toNatClampNeg (v3 + (2 : Int32))))] g (m1 406 (by decide +kernel) (by decide +kernel)) yv_FR_turns rfl (fun r σ1 h => sp_FR_turns g.2.2.1  h) rfl rfl (by decide) (Nat.le_of_ble_eq_true rfl) d_La_law_330) (fun q7 => ?_)
  refine v_aload_n 2 g d_La_law_333 rfl ?_
  refine v_aload_n 0 g d_La_law_334 rfl ?_
  refine v_iload_n 3 g d_La_law_335 rfl ?_
  refine v_iconst (v := (1 : Int32)) g d_La_law_336 (by decide +kernel) ?_
  refine v_iadd g d_La_law_337 ?_
  refine v_sld hX g d_La_law_338 (fun _ => ?_)
  refine v_aload_n 0 g d_La_law_339 rfl ?_
  refine v_iload_n 3 g d_La_law_340 rfl ?_
  refine v_iconst (v := (2 : Int32)) g d_La_law_341 (by decide +kernel) ?_
  refine v_iadd g d_La_law_342 ?_
  refine v_sld hX g d_La_law_343 (fun _ => ?_)
  refine v_callI (r_V (rest := [.int q7.1]) [.int (xs (Int32.toNatClampNeg (v3 + (1 : Int32)))), .int (xs (Int32.toNatClampNeg (v3 + (2 : Int32))))] g (m1 1195 (by decide +kernel) (by decide +kernel)) yv_Mo_turns rfl (fun r σ1 h => sp_Mo_turns g.2.2.1  h) rfl rfl (by decide) (Nat.le_of_ble_eq_true rfl) d_La_law_344) (fun q8 => ?_)
  refine v_icmp_eq 2686 g d_La_law_347 (by decide) (fun _ => ?_) (fun _ => ?_)
  · exact v_sub [0,1,2,3] rfl (vB_La_law_2686 hX g hk18 v3 q8.2)
  · refine v_iconst (v := (0 : Int32)) g d_La_law_350 (by decide +kernel) ?_
    exact v_ret d_La_law_351 rfl
theorem d_La_law_352 : decode code 352 = .ok (.aload_n 1, 1) := by decide +kernel
theorem d_La_law_353 : decode code 353 = .ok (.aload_n 0, 1) := by decide +kernel
theorem d_La_law_354 : decode code 354 = .ok (.iload_n 3, 1) := by decide +kernel
theorem d_La_law_355 : decode code 355 = .ok (.iconst 1, 1) := by decide +kernel
theorem d_La_law_356 : decode code 356 = .ok (.iadd, 1) := by decide +kernel
theorem d_La_law_357 : decode code 357 = .ok (.iaload, 1) := by decide +kernel
theorem d_La_law_358 : decode code 358 = .ok (.aload_n 0, 1) := by decide +kernel
theorem d_La_law_359 : decode code 359 = .ok (.iload_n 3, 1) := by decide +kernel
theorem d_La_law_360 : decode code 360 = .ok (.iconst 2, 1) := by decide +kernel
theorem d_La_law_361 : decode code 361 = .ok (.iadd, 1) := by decide +kernel
theorem d_La_law_362 : decode code 362 = .ok (.iaload, 1) := by decide +kernel
theorem d_La_law_363 : decode code 363 = .ok (.aload_n 0, 1) := by decide +kernel
theorem d_La_law_364 : decode code 364 = .ok (.iload_n 3, 1) := by decide +kernel
theorem d_La_law_365 : decode code 365 = .ok (.iconst 3, 1) := by decide +kernel
theorem d_La_law_366 : decode code 366 = .ok (.iadd, 1) := by decide +kernel
theorem d_La_law_367 : decode code 367 = .ok (.iaload, 1) := by decide +kernel
theorem d_La_law_368 : decode code 368 = .ok (.invokevirtual 30, 3) := by decide +kernel
theorem d_La_law_371 : decode code 371 = .ok (.aload_n 2, 1) := by decide +kernel
theorem d_La_law_372 : decode code 372 = .ok (.aload_n 0, 1) := by decide +kernel
theorem d_La_law_373 : decode code 373 = .ok (.iload_n 3, 1) := by decide +kernel
theorem d_La_law_374 : decode code 374 = .ok (.iconst 1, 1) := by decide +kernel
theorem d_La_law_375 : decode code 375 = .ok (.iadd, 1) := by decide +kernel
theorem d_La_law_376 : decode code 376 = .ok (.iaload, 1) := by decide +kernel
theorem d_La_law_377 : decode code 377 = .ok (.aload_n 0, 1) := by decide +kernel
theorem d_La_law_378 : decode code 378 = .ok (.iload_n 3, 1) := by decide +kernel
theorem d_La_law_379 : decode code 379 = .ok (.iconst 2, 1) := by decide +kernel
theorem d_La_law_380 : decode code 380 = .ok (.iadd, 1) := by decide +kernel
theorem d_La_law_381 : decode code 381 = .ok (.iaload, 1) := by decide +kernel
theorem d_La_law_382 : decode code 382 = .ok (.aload_n 0, 1) := by decide +kernel
theorem d_La_law_383 : decode code 383 = .ok (.iload_n 3, 1) := by decide +kernel
theorem d_La_law_384 : decode code 384 = .ok (.iconst 3, 1) := by decide +kernel
theorem d_La_law_385 : decode code 385 = .ok (.iadd, 1) := by decide +kernel
theorem d_La_law_386 : decode code 386 = .ok (.iaload, 1) := by decide +kernel
theorem d_La_law_387 : decode code 387 = .ok (.invokevirtual 34, 3) := by decide +kernel
theorem d_La_law_390 : decode code 390 = .ok (.if_icmp .eq 2296, 3) := by decide +kernel
theorem d_La_law_393 : decode code 393 = .ok (.iconst 0, 1) := by decide +kernel
theorem d_La_law_394 : decode code 394 = .ok (.ireturn, 1) := by decide +kernel
def B_La_law_352 (L : Nat) (xs : Nat → Int32) (k18 : Int32 → Sto → Option (Bool × Sto)) (v3 : Int32) (σ : Sto) : Option (Bool × Sto) :=
  (if inb (v3 + (1 : Int32)) L = true then (if inb (v3 + (2 : Int32)) L = true then (if inb (v3 + (3 : Int32)) L = true then ((f_FR_join (xs (Int32.toNatClampNeg (v3 + (1 : Int32)))) (xs (Int32.toNatClampNeg (v3 + (2 : Int32)))) (xs (Int32.toNatClampNeg (v3 + (3 : Int32)))) σ).bind fun q9 => (if inb (v3 + (1 : Int32)) L = true then (if inb (v3 + (2 : Int32)) L = true then (if inb (v3 + (3 : Int32)) L = true then ((f_Mo_join (xs (Int32.toNatClampNeg (v3 + (1 : Int32)))) (xs (Int32.toNatClampNeg (v3 + (2 : Int32)))) (xs (Int32.toNatClampNeg (v3 + (3 : Int32)))) q9.2).bind fun q10 => (if q9.1 = q10.1 then B_La_law_2686 L xs k18 v3 q10.2
 else some (false, q10.2))) else none) else none) else none)) else none) else none) else none)
set_option maxHeartbeats 4000000 in
set_option maxRecDepth 100000 in
theorem vB_La_law_352 {X : Xt} {E : En} {L : Nat} {xs : Nat → Int32} (hX : SX X E L xs) (g : GG X E 200 code R_La 4) {k18 : Int32 → Sto → Option (Bool × Sto)} (hk18 : ∀ (v3 : Int32) (σ : Sto), VV X E code 4 eB 18 [(0, .ref (E.2.1 999)), (1, .ref (E.2.1 0)), (2, .ref (E.2.1 48)), (3, .int v3)] [] σ (k18 v3 σ)) (v3 : Int32) (σ : Sto) : VV X E code 4 eB 352 [(0, .ref (E.2.1 999)), (1, .ref (E.2.1 0)), (2, .ref (E.2.1 48)), (3, .int v3)] [] σ (B_La_law_352 L xs k18 v3 σ) := by
  unfold B_La_law_352
  refine v_aload_n 1 g d_La_law_352 rfl ?_
  refine v_aload_n 0 g d_La_law_353 rfl ?_
  refine v_iload_n 3 g d_La_law_354 rfl ?_
  refine v_iconst (v := (1 : Int32)) g d_La_law_355 (by decide +kernel) ?_
  refine v_iadd g d_La_law_356 ?_
  refine v_sld hX g d_La_law_357 (fun _ => ?_)
  refine v_aload_n 0 g d_La_law_358 rfl ?_
  refine v_iload_n 3 g d_La_law_359 rfl ?_
  refine v_iconst (v := (2 : Int32)) g d_La_law_360 (by decide +kernel) ?_
  refine v_iadd g d_La_law_361 ?_
  refine v_sld hX g d_La_law_362 (fun _ => ?_)
  refine v_aload_n 0 g d_La_law_363 rfl ?_
  refine v_iload_n 3 g d_La_law_364 rfl ?_
  refine v_iconst (v := (3 : Int32)) g d_La_law_365 (by decide +kernel) ?_
  refine v_iadd g d_La_law_366 ?_
  refine v_sld hX g d_La_law_367 (fun _ => ?_)
  refine v_callI (r_V (rest := []) [.int (xs (Int32.toNatClampNeg (v3 + (1 : Int32)))), .int (xs (Int32.toNatClampNeg (v3 + (2 : Int32)))), .int (xs (Int32.toNatClampNeg (v3 + (3 : Int32))))] g (m1 410 (by decide +kernel) (by decide +kernel)) yv_FR_join rfl (fun r σ1 h => sp_FR_join g.2.2.1  h) rfl rfl (by decide) (Nat.le_of_ble_eq_true rfl) d_La_law_368) (fun q9 => ?_)
  refine v_aload_n 2 g d_La_law_371 rfl ?_
  refine v_aload_n 0 g d_La_law_372 rfl ?_
  refine v_iload_n 3 g d_La_law_373 rfl ?_
  refine v_iconst (v := (1 : Int32)) g d_La_law_374 (by decide +kernel) ?_
  refine v_iadd g d_La_law_375 ?_
  refine v_sld hX g d_La_law_376 (fun _ => ?_)
  refine v_aload_n 0 g d_La_law_377 rfl ?_
  refine v_iload_n 3 g d_La_law_378 rfl ?_
  refine v_iconst (v := (2 : Int32)) g d_La_law_379 (by decide +kernel) ?_
  refine v_iadd g d_La_law_380 ?_
  refine v_sld hX g d_La_law_381 (fun _ => ?_)
  refine v_aload_n 0 g d_La_law_382 rfl ?_
  refine v_iload_n 3 g d_La_law_383 rfl ?_
  refine v_iconst (v := (3 : Int32)) g d_La_law_384 (by decide +kernel) ?_
  refine v_iadd g d_La_law_385 ?_
  refine v_sld hX g d_La_law_386 (fun _ => ?_)
  refine v_callI (r_V (rest := [.int q9.1]) [.int (xs (Int32.toNatClampNeg (v3 + (1 : Int32)))), .int (xs (Int32.toNatClampNeg (v3 + (2 : Int32)))), .int (xs (Int32.toNatClampNeg (v3 + (3 : Int32))))] g (m1 1199 (by decide +kernel) (by decide +kernel)) yv_Mo_join rfl (fun r σ1 h => sp_Mo_join g.2.2.1  h) rfl rfl (by decide) (Nat.le_of_ble_eq_true rfl) d_La_law_387) (fun q10 => ?_)
  refine v_icmp_eq 2686 g d_La_law_390 (by decide) (fun _ => ?_) (fun _ => ?_)
  · exact v_sub [0,1,2,3] rfl (vB_La_law_2686 hX g hk18 v3 q10.2)
  · refine v_iconst (v := (0 : Int32)) g d_La_law_393 (by decide +kernel) ?_
    exact v_ret d_La_law_394 rfl
theorem d_La_law_395 : decode code 395 = .ok (.aload_n 1, 1) := by decide +kernel
theorem d_La_law_396 : decode code 396 = .ok (.aload_n 0, 1) := by decide +kernel
theorem d_La_law_397 : decode code 397 = .ok (.iload_n 3, 1) := by decide +kernel
theorem d_La_law_398 : decode code 398 = .ok (.iconst 1, 1) := by decide +kernel
theorem d_La_law_399 : decode code 399 = .ok (.iadd, 1) := by decide +kernel
theorem d_La_law_400 : decode code 400 = .ok (.iaload, 1) := by decide +kernel
theorem d_La_law_401 : decode code 401 = .ok (.i2l, 1) := by decide +kernel
theorem d_La_law_402 : decode code 402 = .ok (.bipush 32, 2) := by decide +kernel
theorem d_La_law_404 : decode code 404 = .ok (.lshl, 1) := by decide +kernel
theorem d_La_law_405 : decode code 405 = .ok (.aload_n 0, 1) := by decide +kernel
theorem d_La_law_406 : decode code 406 = .ok (.iload_n 3, 1) := by decide +kernel
theorem d_La_law_407 : decode code 407 = .ok (.iconst 2, 1) := by decide +kernel
theorem d_La_law_408 : decode code 408 = .ok (.iadd, 1) := by decide +kernel
theorem d_La_law_409 : decode code 409 = .ok (.iaload, 1) := by decide +kernel
theorem d_La_law_410 : decode code 410 = .ok (.i2l, 1) := by decide +kernel
theorem d_La_law_411 : decode code 411 = .ok (.ldc2_w 35, 3) := by decide +kernel
theorem d_La_law_414 : decode code 414 = .ok (.land, 1) := by decide +kernel
theorem d_La_law_415 : decode code 415 = .ok (.lor, 1) := by decide +kernel
theorem d_La_law_416 : decode code 416 = .ok (.aload_n 0, 1) := by decide +kernel
theorem d_La_law_417 : decode code 417 = .ok (.iload_n 3, 1) := by decide +kernel
theorem d_La_law_418 : decode code 418 = .ok (.iconst 3, 1) := by decide +kernel
theorem d_La_law_419 : decode code 419 = .ok (.iadd, 1) := by decide +kernel
theorem d_La_law_420 : decode code 420 = .ok (.iaload, 1) := by decide +kernel
theorem d_La_law_421 : decode code 421 = .ok (.invokevirtual 37, 3) := by decide +kernel
theorem d_La_law_424 : decode code 424 = .ok (.aload_n 2, 1) := by decide +kernel
theorem d_La_law_425 : decode code 425 = .ok (.aload_n 0, 1) := by decide +kernel
theorem d_La_law_426 : decode code 426 = .ok (.iload_n 3, 1) := by decide +kernel
theorem d_La_law_427 : decode code 427 = .ok (.iconst 1, 1) := by decide +kernel
theorem d_La_law_428 : decode code 428 = .ok (.iadd, 1) := by decide +kernel
theorem d_La_law_429 : decode code 429 = .ok (.iaload, 1) := by decide +kernel
theorem d_La_law_430 : decode code 430 = .ok (.i2l, 1) := by decide +kernel
theorem d_La_law_431 : decode code 431 = .ok (.bipush 32, 2) := by decide +kernel
theorem d_La_law_433 : decode code 433 = .ok (.lshl, 1) := by decide +kernel
theorem d_La_law_434 : decode code 434 = .ok (.aload_n 0, 1) := by decide +kernel
theorem d_La_law_435 : decode code 435 = .ok (.iload_n 3, 1) := by decide +kernel
theorem d_La_law_436 : decode code 436 = .ok (.iconst 2, 1) := by decide +kernel
theorem d_La_law_437 : decode code 437 = .ok (.iadd, 1) := by decide +kernel
theorem d_La_law_438 : decode code 438 = .ok (.iaload, 1) := by decide +kernel
theorem d_La_law_439 : decode code 439 = .ok (.i2l, 1) := by decide +kernel
theorem d_La_law_440 : decode code 440 = .ok (.ldc2_w 35, 3) := by decide +kernel
theorem d_La_law_443 : decode code 443 = .ok (.land, 1) := by decide +kernel
theorem d_La_law_444 : decode code 444 = .ok (.lor, 1) := by decide +kernel
theorem d_La_law_445 : decode code 445 = .ok (.aload_n 0, 1) := by decide +kernel
theorem d_La_law_446 : decode code 446 = .ok (.iload_n 3, 1) := by decide +kernel
theorem d_La_law_447 : decode code 447 = .ok (.iconst 3, 1) := by decide +kernel
theorem d_La_law_448 : decode code 448 = .ok (.iadd, 1) := by decide +kernel
theorem d_La_law_449 : decode code 449 = .ok (.iaload, 1) := by decide +kernel
theorem d_La_law_450 : decode code 450 = .ok (.invokevirtual 41, 3) := by decide +kernel
theorem d_La_law_453 : decode code 453 = .ok (.if_icmp .eq 2233, 3) := by decide +kernel
theorem d_La_law_456 : decode code 456 = .ok (.iconst 0, 1) := by decide +kernel
theorem d_La_law_457 : decode code 457 = .ok (.ireturn, 1) := by decide +kernel
def B_La_law_395 (L : Nat) (xs : Nat → Int32) (k18 : Int32 → Sto → Option (Bool × Sto)) (v3 : Int32) (σ : Sto) : Option (Bool × Sto) :=
  (if inb (v3 + (1 : Int32)) L = true then (if inb (v3 + (2 : Int32)) L = true then (if inb (v3 + (3 : Int32)) L = true then ((f_FR_mesh ((lsh (Int32.toInt64 (xs (Int32.toNatClampNeg (v3 + (1 : Int32))))) (32 : Int32)) ||| ((Int32.toInt64 (xs (Int32.toNatClampNeg (v3 + (2 : Int32))))) &&& (4294967295 : Int64))) (xs (Int32.toNatClampNeg (v3 + (3 : Int32)))) σ).bind fun q11 => (if inb (v3 + (1 : Int32)) L = true then (if inb (v3 + (2 : Int32)) L = true then (if inb (v3 + (3 : Int32)) L = true then ((f_Mo_mesh ((lsh (Int32.toInt64 (xs (Int32.toNatClampNeg (v3 + (1 : Int32))))) (32 : Int32)) ||| ((Int32.toInt64 (xs (Int32.toNatClampNeg (v3 + (2 : Int32))))) &&& (4294967295 : Int64))) (xs (Int32.toNatClampNeg (v3 + (3 : Int32)))) q11.2).bind fun q12 => (if q11.1 = q12.1 then B_La_law_2686 L xs k18 v3 q12.2
 else some (false, q12.2))) else none) else none) else none)) else none) else none) else none)
set_option maxHeartbeats 4000000 in
set_option maxRecDepth 100000 in
theorem vB_La_law_395 {X : Xt} {E : En} {L : Nat} {xs : Nat → Int32} (hX : SX X E L xs) (g : GG X E 200 code R_La 4) {k18 : Int32 → Sto → Option (Bool × Sto)} (hk18 : ∀ (v3 : Int32) (σ : Sto), VV X E code 4 eB 18 [(0, .ref (E.2.1 999)), (1, .ref (E.2.1 0)), (2, .ref (E.2.1 48)), (3, .int v3)] [] σ (k18 v3 σ)) (v3 : Int32) (σ : Sto) : VV X E code 4 eB 395 [(0, .ref (E.2.1 999)), (1, .ref (E.2.1 0)), (2, .ref (E.2.1 48)), (3, .int v3)] [] σ (B_La_law_395 L xs k18 v3 σ) := by
  unfold B_La_law_395
  refine v_aload_n 1 g d_La_law_395 rfl ?_
  refine v_aload_n 0 g d_La_law_396 rfl ?_
  refine v_iload_n 3 g d_La_law_397 rfl ?_
  refine v_iconst (v := (1 : Int32)) g d_La_law_398 (by decide +kernel) ?_
  refine v_iadd g d_La_law_399 ?_
  refine v_sld hX g d_La_law_400 (fun _ => ?_)
  refine v_i2l g d_La_law_401 ?_
  refine v_bipush (v := (32 : Int32)) g d_La_law_402 (by decide +kernel) ?_
  refine v_lshl g d_La_law_404 ?_
  refine v_aload_n 0 g d_La_law_405 rfl ?_
  refine v_iload_n 3 g d_La_law_406 rfl ?_
  refine v_iconst (v := (2 : Int32)) g d_La_law_407 (by decide +kernel) ?_
  refine v_iadd g d_La_law_408 ?_
  refine v_sld hX g d_La_law_409 (fun _ => ?_)
  refine v_i2l g d_La_law_410 ?_
  refine v_ldc2 (v := (4294967295 : Int64)) g (m1 1567 (by decide +kernel) (by decide +kernel)) d_La_law_411 ?_
  refine v_land g d_La_law_414 ?_
  refine v_lor g d_La_law_415 ?_
  refine v_aload_n 0 g d_La_law_416 rfl ?_
  refine v_iload_n 3 g d_La_law_417 rfl ?_
  refine v_iconst (v := (3 : Int32)) g d_La_law_418 (by decide +kernel) ?_
  refine v_iadd g d_La_law_419 ?_
  refine v_sld hX g d_La_law_420 (fun _ => ?_)
  refine v_callI (r_V (rest := []) [.long ((lsh (Int32.toInt64 (xs (Int32.toNatClampNeg (v3 + (1 : Int32))))) (32 : Int32)) ||| ((Int32.toInt64 (xs (Int32.toNatClampNeg (v3 + (2 : Int32))))) &&& (4294967295 : Int64))), .int (xs (Int32.toNatClampNeg (v3 + (3 : Int32))))] g (m1 429 (by decide +kernel) (by decide +kernel)) yv_FR_mesh rfl (fun r σ1 h => sp_FR_mesh g.2.2.1  h) rfl rfl (by decide) (Nat.le_of_ble_eq_true rfl) d_La_law_421) (fun q11 => ?_)
  refine v_aload_n 2 g d_La_law_424 rfl ?_
  refine v_aload_n 0 g d_La_law_425 rfl ?_
  refine v_iload_n 3 g d_La_law_426 rfl ?_
  refine v_iconst (v := (1 : Int32)) g d_La_law_427 (by decide +kernel) ?_
  refine v_iadd g d_La_law_428 ?_
  refine v_sld hX g d_La_law_429 (fun _ => ?_)
  refine v_i2l g d_La_law_430 ?_
  refine v_bipush (v := (32 : Int32)) g d_La_law_431 (by decide +kernel) ?_
  refine v_lshl g d_La_law_433 ?_
  refine v_aload_n 0 g d_La_law_434 rfl ?_
  refine v_iload_n 3 g d_La_law_435 rfl ?_
  refine v_iconst (v := (2 : Int32)) g d_La_law_436 (by decide +kernel) ?_
  refine v_iadd g d_La_law_437 ?_
  refine v_sld hX g d_La_law_438 (fun _ => ?_)
  refine v_i2l g d_La_law_439 ?_
  refine v_ldc2 (v := (4294967295 : Int64)) g (m1 1567 (by decide +kernel) (by decide +kernel)) d_La_law_440 ?_
  refine v_land g d_La_law_443 ?_
  refine v_lor g d_La_law_444 ?_
  refine v_aload_n 0 g d_La_law_445 rfl ?_
  refine v_iload_n 3 g d_La_law_446 rfl ?_
  refine v_iconst (v := (3 : Int32)) g d_La_law_447 (by decide +kernel) ?_
  refine v_iadd g d_La_law_448 ?_
  refine v_sld hX g d_La_law_449 (fun _ => ?_)
  refine v_callI (r_V (rest := [.int q11.1]) [.long ((lsh (Int32.toInt64 (xs (Int32.toNatClampNeg (v3 + (1 : Int32))))) (32 : Int32)) ||| ((Int32.toInt64 (xs (Int32.toNatClampNeg (v3 + (2 : Int32))))) &&& (4294967295 : Int64))), .int (xs (Int32.toNatClampNeg (v3 + (3 : Int32))))] g (m1 1217 (by decide +kernel) (by decide +kernel)) yv_Mo_mesh rfl (fun r σ1 h => sp_Mo_mesh g.2.2.1  h) rfl rfl (by decide) (Nat.le_of_ble_eq_true rfl) d_La_law_450) (fun q12 => ?_)
  refine v_icmp_eq 2686 g d_La_law_453 (by decide) (fun _ => ?_) (fun _ => ?_)
  · exact v_sub [0,1,2,3] rfl (vB_La_law_2686 hX g hk18 v3 q12.2)
  · refine v_iconst (v := (0 : Int32)) g d_La_law_456 (by decide +kernel) ?_
    exact v_ret d_La_law_457 rfl
theorem d_La_law_458 : decode code 458 = .ok (.aload_n 1, 1) := by decide +kernel
theorem d_La_law_459 : decode code 459 = .ok (.aload_n 0, 1) := by decide +kernel
theorem d_La_law_460 : decode code 460 = .ok (.iload_n 3, 1) := by decide +kernel
theorem d_La_law_461 : decode code 461 = .ok (.iconst 1, 1) := by decide +kernel
theorem d_La_law_462 : decode code 462 = .ok (.iadd, 1) := by decide +kernel
theorem d_La_law_463 : decode code 463 = .ok (.iaload, 1) := by decide +kernel
theorem d_La_law_464 : decode code 464 = .ok (.aload_n 0, 1) := by decide +kernel
theorem d_La_law_465 : decode code 465 = .ok (.iload_n 3, 1) := by decide +kernel
theorem d_La_law_466 : decode code 466 = .ok (.iconst 2, 1) := by decide +kernel
theorem d_La_law_467 : decode code 467 = .ok (.iadd, 1) := by decide +kernel
theorem d_La_law_468 : decode code 468 = .ok (.iaload, 1) := by decide +kernel
theorem d_La_law_469 : decode code 469 = .ok (.aload_n 0, 1) := by decide +kernel
theorem d_La_law_470 : decode code 470 = .ok (.iload_n 3, 1) := by decide +kernel
theorem d_La_law_471 : decode code 471 = .ok (.iconst 3, 1) := by decide +kernel
theorem d_La_law_472 : decode code 472 = .ok (.iadd, 1) := by decide +kernel
theorem d_La_law_473 : decode code 473 = .ok (.iaload, 1) := by decide +kernel
theorem d_La_law_474 : decode code 474 = .ok (.i2l, 1) := by decide +kernel
theorem d_La_law_475 : decode code 475 = .ok (.bipush 32, 2) := by decide +kernel
theorem d_La_law_477 : decode code 477 = .ok (.lshl, 1) := by decide +kernel
theorem d_La_law_478 : decode code 478 = .ok (.aload_n 0, 1) := by decide +kernel
theorem d_La_law_479 : decode code 479 = .ok (.iload_n 3, 1) := by decide +kernel
theorem d_La_law_480 : decode code 480 = .ok (.iconst 4, 1) := by decide +kernel
theorem d_La_law_481 : decode code 481 = .ok (.iadd, 1) := by decide +kernel
theorem d_La_law_482 : decode code 482 = .ok (.iaload, 1) := by decide +kernel
theorem d_La_law_483 : decode code 483 = .ok (.i2l, 1) := by decide +kernel
theorem d_La_law_484 : decode code 484 = .ok (.ldc2_w 35, 3) := by decide +kernel
theorem d_La_law_487 : decode code 487 = .ok (.land, 1) := by decide +kernel
theorem d_La_law_488 : decode code 488 = .ok (.lor, 1) := by decide +kernel
theorem d_La_law_489 : decode code 489 = .ok (.invokevirtual 42, 3) := by decide +kernel
theorem d_La_law_492 : decode code 492 = .ok (.aload_n 2, 1) := by decide +kernel
theorem d_La_law_493 : decode code 493 = .ok (.aload_n 0, 1) := by decide +kernel
theorem d_La_law_494 : decode code 494 = .ok (.iload_n 3, 1) := by decide +kernel
theorem d_La_law_495 : decode code 495 = .ok (.iconst 1, 1) := by decide +kernel
theorem d_La_law_496 : decode code 496 = .ok (.iadd, 1) := by decide +kernel
theorem d_La_law_497 : decode code 497 = .ok (.iaload, 1) := by decide +kernel
theorem d_La_law_498 : decode code 498 = .ok (.aload_n 0, 1) := by decide +kernel
theorem d_La_law_499 : decode code 499 = .ok (.iload_n 3, 1) := by decide +kernel
theorem d_La_law_500 : decode code 500 = .ok (.iconst 2, 1) := by decide +kernel
theorem d_La_law_501 : decode code 501 = .ok (.iadd, 1) := by decide +kernel
theorem d_La_law_502 : decode code 502 = .ok (.iaload, 1) := by decide +kernel
theorem d_La_law_503 : decode code 503 = .ok (.aload_n 0, 1) := by decide +kernel
theorem d_La_law_504 : decode code 504 = .ok (.iload_n 3, 1) := by decide +kernel
theorem d_La_law_505 : decode code 505 = .ok (.iconst 3, 1) := by decide +kernel
theorem d_La_law_506 : decode code 506 = .ok (.iadd, 1) := by decide +kernel
theorem d_La_law_507 : decode code 507 = .ok (.iaload, 1) := by decide +kernel
theorem d_La_law_508 : decode code 508 = .ok (.i2l, 1) := by decide +kernel
theorem d_La_law_509 : decode code 509 = .ok (.bipush 32, 2) := by decide +kernel
theorem d_La_law_511 : decode code 511 = .ok (.lshl, 1) := by decide +kernel
theorem d_La_law_512 : decode code 512 = .ok (.aload_n 0, 1) := by decide +kernel
theorem d_La_law_513 : decode code 513 = .ok (.iload_n 3, 1) := by decide +kernel
theorem d_La_law_514 : decode code 514 = .ok (.iconst 4, 1) := by decide +kernel
theorem d_La_law_515 : decode code 515 = .ok (.iadd, 1) := by decide +kernel
theorem d_La_law_516 : decode code 516 = .ok (.iaload, 1) := by decide +kernel
theorem d_La_law_517 : decode code 517 = .ok (.i2l, 1) := by decide +kernel
theorem d_La_law_518 : decode code 518 = .ok (.ldc2_w 35, 3) := by decide +kernel
theorem d_La_law_521 : decode code 521 = .ok (.land, 1) := by decide +kernel
theorem d_La_law_522 : decode code 522 = .ok (.lor, 1) := by decide +kernel
theorem d_La_law_523 : decode code 523 = .ok (.invokevirtual 46, 3) := by decide +kernel
theorem d_La_law_526 : decode code 526 = .ok (.lcmp, 1) := by decide +kernel
theorem d_La_law_527 : decode code 527 = .ok (.ifCond .eq 2159, 3) := by decide +kernel
theorem d_La_law_530 : decode code 530 = .ok (.iconst 0, 1) := by decide +kernel
theorem d_La_law_531 : decode code 531 = .ok (.ireturn, 1) := by decide +kernel
def B_La_law_458 (L : Nat) (xs : Nat → Int32) (k18 : Int32 → Sto → Option (Bool × Sto)) (v3 : Int32) (σ : Sto) : Option (Bool × Sto) :=
  (if inb (v3 + (1 : Int32)) L = true then (if inb (v3 + (2 : Int32)) L = true then (if inb (v3 + (3 : Int32)) L = true then (if inb (v3 + (4 : Int32)) L = true then ((f_FR_near (xs (Int32.toNatClampNeg (v3 + (1 : Int32)))) (xs (Int32.toNatClampNeg (v3 + (2 : Int32)))) ((lsh (Int32.toInt64 (xs (Int32.toNatClampNeg (v3 + (3 : Int32))))) (32 : Int32)) ||| ((Int32.toInt64 (xs (Int32.toNatClampNeg (v3 + (4 : Int32))))) &&& (4294967295 : Int64))) σ).bind fun q13 => (if inb (v3 + (1 : Int32)) L = true then (if inb (v3 + (2 : Int32)) L = true then (if inb (v3 + (3 : Int32)) L = true then (if inb (v3 + (4 : Int32)) L = true then ((f_Mo_near (xs (Int32.toNatClampNeg (v3 + (1 : Int32)))) (xs (Int32.toNatClampNeg (v3 + (2 : Int32)))) ((lsh (Int32.toInt64 (xs (Int32.toNatClampNeg (v3 + (3 : Int32))))) (32 : Int32)) ||| ((Int32.toInt64 (xs (Int32.toNatClampNeg (v3 + (4 : Int32))))) &&& (4294967295 : Int64))) q13.2).bind fun q14 => (if q13.1 = q14.1 then B_La_law_2686 L xs k18 v3 q14.2
 else some (false, q14.2))) else none) else none) else none) else none)) else none) else none) else none) else none)
set_option maxHeartbeats 4000000 in
set_option maxRecDepth 100000 in
theorem vB_La_law_458 {X : Xt} {E : En} {L : Nat} {xs : Nat → Int32} (hX : SX X E L xs) (g : GG X E 200 code R_La 4) {k18 : Int32 → Sto → Option (Bool × Sto)} (hk18 : ∀ (v3 : Int32) (σ : Sto), VV X E code 4 eB 18 [(0, .ref (E.2.1 999)), (1, .ref (E.2.1 0)), (2, .ref (E.2.1 48)), (3, .int v3)] [] σ (k18 v3 σ)) (v3 : Int32) (σ : Sto) : VV X E code 4 eB 458 [(0, .ref (E.2.1 999)), (1, .ref (E.2.1 0)), (2, .ref (E.2.1 48)), (3, .int v3)] [] σ (B_La_law_458 L xs k18 v3 σ) := by
  unfold B_La_law_458
  refine v_aload_n 1 g d_La_law_458 rfl ?_
  refine v_aload_n 0 g d_La_law_459 rfl ?_
  refine v_iload_n 3 g d_La_law_460 rfl ?_
  refine v_iconst (v := (1 : Int32)) g d_La_law_461 (by decide +kernel) ?_
  refine v_iadd g d_La_law_462 ?_
  refine v_sld hX g d_La_law_463 (fun _ => ?_)
  refine v_aload_n 0 g d_La_law_464 rfl ?_
  refine v_iload_n 3 g d_La_law_465 rfl ?_
  refine v_iconst (v := (2 : Int32)) g d_La_law_466 (by decide +kernel) ?_
  refine v_iadd g d_La_law_467 ?_
  refine v_sld hX g d_La_law_468 (fun _ => ?_)
  refine v_aload_n 0 g d_La_law_469 rfl ?_
  refine v_iload_n 3 g d_La_law_470 rfl ?_
  refine v_iconst (v := (3 : Int32)) g d_La_law_471 (by decide +kernel) ?_
  refine v_iadd g d_La_law_472 ?_
  refine v_sld hX g d_La_law_473 (fun _ => ?_)
  refine v_i2l g d_La_law_474 ?_
  refine v_bipush (v := (32 : Int32)) g d_La_law_475 (by decide +kernel) ?_
  refine v_lshl g d_La_law_477 ?_
  refine v_aload_n 0 g d_La_law_478 rfl ?_
  refine v_iload_n 3 g d_La_law_479 rfl ?_
  refine v_iconst (v := (4 : Int32)) g d_La_law_480 (by decide +kernel) ?_
  refine v_iadd g d_La_law_481 ?_
  refine v_sld hX g d_La_law_482 (fun _ => ?_)
  refine v_i2l g d_La_law_483 ?_
  refine v_ldc2 (v := (4294967295 : Int64)) g (m1 1567 (by decide +kernel) (by decide +kernel)) d_La_law_484 ?_
  refine v_land g d_La_law_487 ?_
  refine v_lor g d_La_law_488 ?_
  refine v_callL (r_V (rest := []) [.int (xs (Int32.toNatClampNeg (v3 + (1 : Int32)))), .int (xs (Int32.toNatClampNeg (v3 + (2 : Int32)))), .long ((lsh (Int32.toInt64 (xs (Int32.toNatClampNeg (v3 + (3 : Int32))))) (32 : Int32)) ||| ((Int32.toInt64 (xs (Int32.toNatClampNeg (v3 + (4 : Int32))))) &&& (4294967295 : Int64)))] g (m1 452 (by decide +kernel) (by decide +kernel)) yv_FR_near rfl (fun r σ1 h => sp_FR_near g.2.2.1  h) rfl rfl (by decide) (Nat.le_of_ble_eq_true rfl) d_La_law_489) (fun q13 => ?_)
  refine v_aload_n 2 g d_La_law_492 rfl ?_
  refine v_aload_n 0 g d_La_law_493 rfl ?_
  refine v_iload_n 3 g d_La_law_494 rfl ?_
  refine v_iconst (v := (1 : Int32)) g d_La_law_495 (by decide +kernel) ?_
  refine v_iadd g d_La_law_496 ?_
  refine v_sld hX g d_La_law_497 (fun _ => ?_)
  refine v_aload_n 0 g d_La_law_498 rfl ?_
  refine v_iload_n 3 g d_La_law_499 rfl ?_
  refine v_iconst (v := (2 : Int32)) g d_La_law_500 (by decide +kernel) ?_
  refine v_iadd g d_La_law_501 ?_
  refine v_sld hX g d_La_law_502 (fun _ => ?_)
  refine v_aload_n 0 g d_La_law_503 rfl ?_
  refine v_iload_n 3 g d_La_law_504 rfl ?_
  refine v_iconst (v := (3 : Int32)) g d_La_law_505 (by decide +kernel) ?_
  refine v_iadd g d_La_law_506 ?_
  refine v_sld hX g d_La_law_507 (fun _ => ?_)
  refine v_i2l g d_La_law_508 ?_
  refine v_bipush (v := (32 : Int32)) g d_La_law_509 (by decide +kernel) ?_
  refine v_lshl g d_La_law_511 ?_
  refine v_aload_n 0 g d_La_law_512 rfl ?_
  refine v_iload_n 3 g d_La_law_513 rfl ?_
  refine v_iconst (v := (4 : Int32)) g d_La_law_514 (by decide +kernel) ?_
  refine v_iadd g d_La_law_515 ?_
  refine v_sld hX g d_La_law_516 (fun _ => ?_)
  refine v_i2l g d_La_law_517 ?_
  refine v_ldc2 (v := (4294967295 : Int64)) g (m1 1567 (by decide +kernel) (by decide +kernel)) d_La_law_518 ?_
  refine v_land g d_La_law_521 ?_
  refine v_lor g d_La_law_522 ?_
  refine v_callL (r_V (rest := [.long q13.1]) [.int (xs (Int32.toNatClampNeg (v3 + (1 : Int32)))), .int (xs (Int32.toNatClampNeg (v3 + (2 : Int32)))), .long ((lsh (Int32.toInt64 (xs (Int32.toNatClampNeg (v3 + (3 : Int32))))) (32 : Int32)) ||| ((Int32.toInt64 (xs (Int32.toNatClampNeg (v3 + (4 : Int32))))) &&& (4294967295 : Int64)))] g (m1 1229 (by decide +kernel) (by decide +kernel)) yv_Mo_near rfl (fun r σ1 h => sp_Mo_near g.2.2.1  h) rfl rfl (by decide) (Nat.le_of_ble_eq_true rfl) d_La_law_523) (fun q14 => ?_)
  refine v_lcmp_eq 2686 g d_La_law_526 d_La_law_527 (by decide) (fun _ => ?_) (fun _ => ?_)
  · exact v_sub [0,1,2,3] rfl (vB_La_law_2686 hX g hk18 v3 q14.2)
  · refine v_iconst (v := (0 : Int32)) g d_La_law_530 (by decide +kernel) ?_
    exact v_ret d_La_law_531 rfl
theorem d_La_law_532 : decode code 532 = .ok (.aload_n 1, 1) := by decide +kernel
theorem d_La_law_533 : decode code 533 = .ok (.aload_n 0, 1) := by decide +kernel
theorem d_La_law_534 : decode code 534 = .ok (.iload_n 3, 1) := by decide +kernel
theorem d_La_law_535 : decode code 535 = .ok (.iconst 1, 1) := by decide +kernel
theorem d_La_law_536 : decode code 536 = .ok (.iadd, 1) := by decide +kernel
theorem d_La_law_537 : decode code 537 = .ok (.iaload, 1) := by decide +kernel
theorem d_La_law_538 : decode code 538 = .ok (.aload_n 0, 1) := by decide +kernel
theorem d_La_law_539 : decode code 539 = .ok (.iload_n 3, 1) := by decide +kernel
theorem d_La_law_540 : decode code 540 = .ok (.iconst 2, 1) := by decide +kernel
theorem d_La_law_541 : decode code 541 = .ok (.iadd, 1) := by decide +kernel
theorem d_La_law_542 : decode code 542 = .ok (.iaload, 1) := by decide +kernel
theorem d_La_law_543 : decode code 543 = .ok (.i2l, 1) := by decide +kernel
theorem d_La_law_544 : decode code 544 = .ok (.bipush 32, 2) := by decide +kernel
theorem d_La_law_546 : decode code 546 = .ok (.lshl, 1) := by decide +kernel
theorem d_La_law_547 : decode code 547 = .ok (.aload_n 0, 1) := by decide +kernel
theorem d_La_law_548 : decode code 548 = .ok (.iload_n 3, 1) := by decide +kernel
theorem d_La_law_549 : decode code 549 = .ok (.iconst 3, 1) := by decide +kernel
theorem d_La_law_550 : decode code 550 = .ok (.iadd, 1) := by decide +kernel
theorem d_La_law_551 : decode code 551 = .ok (.iaload, 1) := by decide +kernel
theorem d_La_law_552 : decode code 552 = .ok (.i2l, 1) := by decide +kernel
theorem d_La_law_553 : decode code 553 = .ok (.ldc2_w 35, 3) := by decide +kernel
theorem d_La_law_556 : decode code 556 = .ok (.land, 1) := by decide +kernel
theorem d_La_law_557 : decode code 557 = .ok (.lor, 1) := by decide +kernel
theorem d_La_law_558 : decode code 558 = .ok (.invokevirtual 47, 3) := by decide +kernel
theorem d_La_law_561 : decode code 561 = .ok (.aload_n 2, 1) := by decide +kernel
theorem d_La_law_562 : decode code 562 = .ok (.aload_n 0, 1) := by decide +kernel
theorem d_La_law_563 : decode code 563 = .ok (.iload_n 3, 1) := by decide +kernel
theorem d_La_law_564 : decode code 564 = .ok (.iconst 1, 1) := by decide +kernel
theorem d_La_law_565 : decode code 565 = .ok (.iadd, 1) := by decide +kernel
theorem d_La_law_566 : decode code 566 = .ok (.iaload, 1) := by decide +kernel
theorem d_La_law_567 : decode code 567 = .ok (.aload_n 0, 1) := by decide +kernel
theorem d_La_law_568 : decode code 568 = .ok (.iload_n 3, 1) := by decide +kernel
theorem d_La_law_569 : decode code 569 = .ok (.iconst 2, 1) := by decide +kernel
theorem d_La_law_570 : decode code 570 = .ok (.iadd, 1) := by decide +kernel
theorem d_La_law_571 : decode code 571 = .ok (.iaload, 1) := by decide +kernel
theorem d_La_law_572 : decode code 572 = .ok (.i2l, 1) := by decide +kernel
theorem d_La_law_573 : decode code 573 = .ok (.bipush 32, 2) := by decide +kernel
theorem d_La_law_575 : decode code 575 = .ok (.lshl, 1) := by decide +kernel
theorem d_La_law_576 : decode code 576 = .ok (.aload_n 0, 1) := by decide +kernel
theorem d_La_law_577 : decode code 577 = .ok (.iload_n 3, 1) := by decide +kernel
theorem d_La_law_578 : decode code 578 = .ok (.iconst 3, 1) := by decide +kernel
theorem d_La_law_579 : decode code 579 = .ok (.iadd, 1) := by decide +kernel
theorem d_La_law_580 : decode code 580 = .ok (.iaload, 1) := by decide +kernel
theorem d_La_law_581 : decode code 581 = .ok (.i2l, 1) := by decide +kernel
theorem d_La_law_582 : decode code 582 = .ok (.ldc2_w 35, 3) := by decide +kernel
theorem d_La_law_585 : decode code 585 = .ok (.land, 1) := by decide +kernel
theorem d_La_law_586 : decode code 586 = .ok (.lor, 1) := by decide +kernel
theorem d_La_law_587 : decode code 587 = .ok (.invokevirtual 51, 3) := by decide +kernel
theorem d_La_law_590 : decode code 590 = .ok (.if_icmp .eq 2096, 3) := by decide +kernel
theorem d_La_law_593 : decode code 593 = .ok (.iconst 0, 1) := by decide +kernel
theorem d_La_law_594 : decode code 594 = .ok (.ireturn, 1) := by decide +kernel
def B_La_law_532 (L : Nat) (xs : Nat → Int32) (k18 : Int32 → Sto → Option (Bool × Sto)) (v3 : Int32) (σ : Sto) : Option (Bool × Sto) :=
  (if inb (v3 + (1 : Int32)) L = true then (if inb (v3 + (2 : Int32)) L = true then (if inb (v3 + (3 : Int32)) L = true then ((f_FR_measure (xs (Int32.toNatClampNeg (v3 + (1 : Int32)))) ((lsh (Int32.toInt64 (xs (Int32.toNatClampNeg (v3 + (2 : Int32))))) (32 : Int32)) ||| ((Int32.toInt64 (xs (Int32.toNatClampNeg (v3 + (3 : Int32))))) &&& (4294967295 : Int64))) σ).bind fun q15 => (if inb (v3 + (1 : Int32)) L = true then (if inb (v3 + (2 : Int32)) L = true then (if inb (v3 + (3 : Int32)) L = true then ((f_Mo_measure (xs (Int32.toNatClampNeg (v3 + (1 : Int32)))) ((lsh (Int32.toInt64 (xs (Int32.toNatClampNeg (v3 + (2 : Int32))))) (32 : Int32)) ||| ((Int32.toInt64 (xs (Int32.toNatClampNeg (v3 + (3 : Int32))))) &&& (4294967295 : Int64))) q15.2).bind fun q16 => (if q15.1 = q16.1 then B_La_law_2686 L xs k18 v3 q16.2
 else some (false, q16.2))) else none) else none) else none)) else none) else none) else none)
set_option maxHeartbeats 4000000 in
set_option maxRecDepth 100000 in
theorem vB_La_law_532 {X : Xt} {E : En} {L : Nat} {xs : Nat → Int32} (hX : SX X E L xs) (g : GG X E 200 code R_La 4) {k18 : Int32 → Sto → Option (Bool × Sto)} (hk18 : ∀ (v3 : Int32) (σ : Sto), VV X E code 4 eB 18 [(0, .ref (E.2.1 999)), (1, .ref (E.2.1 0)), (2, .ref (E.2.1 48)), (3, .int v3)] [] σ (k18 v3 σ)) (v3 : Int32) (σ : Sto) : VV X E code 4 eB 532 [(0, .ref (E.2.1 999)), (1, .ref (E.2.1 0)), (2, .ref (E.2.1 48)), (3, .int v3)] [] σ (B_La_law_532 L xs k18 v3 σ) := by
  unfold B_La_law_532
  refine v_aload_n 1 g d_La_law_532 rfl ?_
  refine v_aload_n 0 g d_La_law_533 rfl ?_
  refine v_iload_n 3 g d_La_law_534 rfl ?_
  refine v_iconst (v := (1 : Int32)) g d_La_law_535 (by decide +kernel) ?_
  refine v_iadd g d_La_law_536 ?_
  refine v_sld hX g d_La_law_537 (fun _ => ?_)
  refine v_aload_n 0 g d_La_law_538 rfl ?_
  refine v_iload_n 3 g d_La_law_539 rfl ?_
  refine v_iconst (v := (2 : Int32)) g d_La_law_540 (by decide +kernel) ?_
  refine v_iadd g d_La_law_541 ?_
  refine v_sld hX g d_La_law_542 (fun _ => ?_)
  refine v_i2l g d_La_law_543 ?_
  refine v_bipush (v := (32 : Int32)) g d_La_law_544 (by decide +kernel) ?_
  refine v_lshl g d_La_law_546 ?_
  refine v_aload_n 0 g d_La_law_547 rfl ?_
  refine v_iload_n 3 g d_La_law_548 rfl ?_
  refine v_iconst (v := (3 : Int32)) g d_La_law_549 (by decide +kernel) ?_
  refine v_iadd g d_La_law_550 ?_
  refine v_sld hX g d_La_law_551 (fun _ => ?_)
  refine v_i2l g d_La_law_552 ?_
  refine v_ldc2 (v := (4294967295 : Int64)) g (m1 1567 (by decide +kernel) (by decide +kernel)) d_La_law_553 ?_
  refine v_land g d_La_law_556 ?_
  refine v_lor g d_La_law_557 ?_
  refine v_callI (r_V (rest := []) [.int (xs (Int32.toNatClampNeg (v3 + (1 : Int32)))), .long ((lsh (Int32.toInt64 (xs (Int32.toNatClampNeg (v3 + (2 : Int32))))) (32 : Int32)) ||| ((Int32.toInt64 (xs (Int32.toNatClampNeg (v3 + (3 : Int32))))) &&& (4294967295 : Int64)))] g (m1 461 (by decide +kernel) (by decide +kernel)) yv_FR_measure rfl (fun r σ1 h => sp_FR_measure g.2.2.1  h) rfl rfl (by decide) (Nat.le_of_ble_eq_true rfl) d_La_law_558) (fun q15 => ?_)
  refine v_aload_n 2 g d_La_law_561 rfl ?_
  refine v_aload_n 0 g d_La_law_562 rfl ?_
  refine v_iload_n 3 g d_La_law_563 rfl ?_
  refine v_iconst (v := (1 : Int32)) g d_La_law_564 (by decide +kernel) ?_
  refine v_iadd g d_La_law_565 ?_
  refine v_sld hX g d_La_law_566 (fun _ => ?_)
  refine v_aload_n 0 g d_La_law_567 rfl ?_
  refine v_iload_n 3 g d_La_law_568 rfl ?_
  refine v_iconst (v := (2 : Int32)) g d_La_law_569 (by decide +kernel) ?_
  refine v_iadd g d_La_law_570 ?_
  refine v_sld hX g d_La_law_571 (fun _ => ?_)
  refine v_i2l g d_La_law_572 ?_
  refine v_bipush (v := (32 : Int32)) g d_La_law_573 (by decide +kernel) ?_
  refine v_lshl g d_La_law_575 ?_
  refine v_aload_n 0 g d_La_law_576 rfl ?_
  refine v_iload_n 3 g d_La_law_577 rfl ?_
  refine v_iconst (v := (3 : Int32)) g d_La_law_578 (by decide +kernel) ?_
  refine v_iadd g d_La_law_579 ?_
  refine v_sld hX g d_La_law_580 (fun _ => ?_)
  refine v_i2l g d_La_law_581 ?_
  refine v_ldc2 (v := (4294967295 : Int64)) g (m1 1567 (by decide +kernel) (by decide +kernel)) d_La_law_582 ?_
  refine v_land g d_La_law_585 ?_
  refine v_lor g d_La_law_586 ?_
  refine v_callI (r_V (rest := [.int q15.1]) [.int (xs (Int32.toNatClampNeg (v3 + (1 : Int32)))), .long ((lsh (Int32.toInt64 (xs (Int32.toNatClampNeg (v3 + (2 : Int32))))) (32 : Int32)) ||| ((Int32.toInt64 (xs (Int32.toNatClampNeg (v3 + (3 : Int32))))) &&& (4294967295 : Int64)))] g (m1 1238 (by decide +kernel) (by decide +kernel)) yv_Mo_measure rfl (fun r σ1 h => sp_Mo_measure g.2.2.1  h) rfl rfl (by decide) (Nat.le_of_ble_eq_true rfl) d_La_law_587) (fun q16 => ?_)
  refine v_icmp_eq 2686 g d_La_law_590 (by decide) (fun _ => ?_) (fun _ => ?_)
  · exact v_sub [0,1,2,3] rfl (vB_La_law_2686 hX g hk18 v3 q16.2)
  · refine v_iconst (v := (0 : Int32)) g d_La_law_593 (by decide +kernel) ?_
    exact v_ret d_La_law_594 rfl
theorem d_La_law_595 : decode code 595 = .ok (.aload_n 1, 1) := by decide +kernel
theorem d_La_law_596 : decode code 596 = .ok (.aload_n 0, 1) := by decide +kernel
theorem d_La_law_597 : decode code 597 = .ok (.iload_n 3, 1) := by decide +kernel
theorem d_La_law_598 : decode code 598 = .ok (.iconst 1, 1) := by decide +kernel
theorem d_La_law_599 : decode code 599 = .ok (.iadd, 1) := by decide +kernel
theorem d_La_law_600 : decode code 600 = .ok (.iaload, 1) := by decide +kernel
theorem d_La_law_601 : decode code 601 = .ok (.aload_n 0, 1) := by decide +kernel
theorem d_La_law_602 : decode code 602 = .ok (.iload_n 3, 1) := by decide +kernel
theorem d_La_law_603 : decode code 603 = .ok (.iconst 2, 1) := by decide +kernel
theorem d_La_law_604 : decode code 604 = .ok (.iadd, 1) := by decide +kernel
theorem d_La_law_605 : decode code 605 = .ok (.iaload, 1) := by decide +kernel
theorem d_La_law_606 : decode code 606 = .ok (.i2l, 1) := by decide +kernel
theorem d_La_law_607 : decode code 607 = .ok (.bipush 32, 2) := by decide +kernel
theorem d_La_law_609 : decode code 609 = .ok (.lshl, 1) := by decide +kernel
theorem d_La_law_610 : decode code 610 = .ok (.aload_n 0, 1) := by decide +kernel
theorem d_La_law_611 : decode code 611 = .ok (.iload_n 3, 1) := by decide +kernel
theorem d_La_law_612 : decode code 612 = .ok (.iconst 3, 1) := by decide +kernel
theorem d_La_law_613 : decode code 613 = .ok (.iadd, 1) := by decide +kernel
theorem d_La_law_614 : decode code 614 = .ok (.iaload, 1) := by decide +kernel
theorem d_La_law_615 : decode code 615 = .ok (.i2l, 1) := by decide +kernel
theorem d_La_law_616 : decode code 616 = .ok (.ldc2_w 35, 3) := by decide +kernel
theorem d_La_law_619 : decode code 619 = .ok (.land, 1) := by decide +kernel
theorem d_La_law_620 : decode code 620 = .ok (.lor, 1) := by decide +kernel
theorem d_La_law_621 : decode code 621 = .ok (.invokevirtual 52, 3) := by decide +kernel
theorem d_La_law_624 : decode code 624 = .ok (.aload_n 2, 1) := by decide +kernel
theorem d_La_law_625 : decode code 625 = .ok (.aload_n 0, 1) := by decide +kernel
theorem d_La_law_626 : decode code 626 = .ok (.iload_n 3, 1) := by decide +kernel
theorem d_La_law_627 : decode code 627 = .ok (.iconst 1, 1) := by decide +kernel
theorem d_La_law_628 : decode code 628 = .ok (.iadd, 1) := by decide +kernel
theorem d_La_law_629 : decode code 629 = .ok (.iaload, 1) := by decide +kernel
theorem d_La_law_630 : decode code 630 = .ok (.aload_n 0, 1) := by decide +kernel
theorem d_La_law_631 : decode code 631 = .ok (.iload_n 3, 1) := by decide +kernel
theorem d_La_law_632 : decode code 632 = .ok (.iconst 2, 1) := by decide +kernel
theorem d_La_law_633 : decode code 633 = .ok (.iadd, 1) := by decide +kernel
theorem d_La_law_634 : decode code 634 = .ok (.iaload, 1) := by decide +kernel
theorem d_La_law_635 : decode code 635 = .ok (.i2l, 1) := by decide +kernel
theorem d_La_law_636 : decode code 636 = .ok (.bipush 32, 2) := by decide +kernel
theorem d_La_law_638 : decode code 638 = .ok (.lshl, 1) := by decide +kernel
theorem d_La_law_639 : decode code 639 = .ok (.aload_n 0, 1) := by decide +kernel
theorem d_La_law_640 : decode code 640 = .ok (.iload_n 3, 1) := by decide +kernel
theorem d_La_law_641 : decode code 641 = .ok (.iconst 3, 1) := by decide +kernel
theorem d_La_law_642 : decode code 642 = .ok (.iadd, 1) := by decide +kernel
theorem d_La_law_643 : decode code 643 = .ok (.iaload, 1) := by decide +kernel
theorem d_La_law_644 : decode code 644 = .ok (.i2l, 1) := by decide +kernel
theorem d_La_law_645 : decode code 645 = .ok (.ldc2_w 35, 3) := by decide +kernel
theorem d_La_law_648 : decode code 648 = .ok (.land, 1) := by decide +kernel
theorem d_La_law_649 : decode code 649 = .ok (.lor, 1) := by decide +kernel
theorem d_La_law_650 : decode code 650 = .ok (.invokevirtual 55, 3) := by decide +kernel
theorem d_La_law_653 : decode code 653 = .ok (.if_icmp .eq 2033, 3) := by decide +kernel
theorem d_La_law_656 : decode code 656 = .ok (.iconst 0, 1) := by decide +kernel
theorem d_La_law_657 : decode code 657 = .ok (.ireturn, 1) := by decide +kernel
def B_La_law_595 (L : Nat) (xs : Nat → Int32) (k18 : Int32 → Sto → Option (Bool × Sto)) (v3 : Int32) (σ : Sto) : Option (Bool × Sto) :=
  (if inb (v3 + (1 : Int32)) L = true then (if inb (v3 + (2 : Int32)) L = true then (if inb (v3 + (3 : Int32)) L = true then ((f_FR_isRing (xs (Int32.toNatClampNeg (v3 + (1 : Int32)))) ((lsh (Int32.toInt64 (xs (Int32.toNatClampNeg (v3 + (2 : Int32))))) (32 : Int32)) ||| ((Int32.toInt64 (xs (Int32.toNatClampNeg (v3 + (3 : Int32))))) &&& (4294967295 : Int64))) σ).bind fun q17 => (if inb (v3 + (1 : Int32)) L = true then (if inb (v3 + (2 : Int32)) L = true then (if inb (v3 + (3 : Int32)) L = true then ((f_Mo_isRing (xs (Int32.toNatClampNeg (v3 + (1 : Int32)))) ((lsh (Int32.toInt64 (xs (Int32.toNatClampNeg (v3 + (2 : Int32))))) (32 : Int32)) ||| ((Int32.toInt64 (xs (Int32.toNatClampNeg (v3 + (3 : Int32))))) &&& (4294967295 : Int64))) q17.2).bind fun q18 => (if q17.1 = q18.1 then B_La_law_2686 L xs k18 v3 q18.2
 else some (false, q18.2))) else none) else none) else none)) else none) else none) else none)
set_option maxHeartbeats 4000000 in
set_option maxRecDepth 100000 in
theorem vB_La_law_595 {X : Xt} {E : En} {L : Nat} {xs : Nat → Int32} (hX : SX X E L xs) (g : GG X E 200 code R_La 4) {k18 : Int32 → Sto → Option (Bool × Sto)} (hk18 : ∀ (v3 : Int32) (σ : Sto), VV X E code 4 eB 18 [(0, .ref (E.2.1 999)), (1, .ref (E.2.1 0)), (2, .ref (E.2.1 48)), (3, .int v3)] [] σ (k18 v3 σ)) (v3 : Int32) (σ : Sto) : VV X E code 4 eB 595 [(0, .ref (E.2.1 999)), (1, .ref (E.2.1 0)), (2, .ref (E.2.1 48)), (3, .int v3)] [] σ (B_La_law_595 L xs k18 v3 σ) := by
  unfold B_La_law_595
  refine v_aload_n 1 g d_La_law_595 rfl ?_
  refine v_aload_n 0 g d_La_law_596 rfl ?_
  refine v_iload_n 3 g d_La_law_597 rfl ?_
  refine v_iconst (v := (1 : Int32)) g d_La_law_598 (by decide +kernel) ?_
  refine v_iadd g d_La_law_599 ?_
  refine v_sld hX g d_La_law_600 (fun _ => ?_)
  refine v_aload_n 0 g d_La_law_601 rfl ?_
  refine v_iload_n 3 g d_La_law_602 rfl ?_
  refine v_iconst (v := (2 : Int32)) g d_La_law_603 (by decide +kernel) ?_
  refine v_iadd g d_La_law_604 ?_
  refine v_sld hX g d_La_law_605 (fun _ => ?_)
  refine v_i2l g d_La_law_606 ?_
  refine v_bipush (v := (32 : Int32)) g d_La_law_607 (by decide +kernel) ?_
  refine v_lshl g d_La_law_609 ?_
  refine v_aload_n 0 g d_La_law_610 rfl ?_
  refine v_iload_n 3 g d_La_law_611 rfl ?_
  refine v_iconst (v := (3 : Int32)) g d_La_law_612 (by decide +kernel) ?_
  refine v_iadd g d_La_law_613 ?_
  refine v_sld hX g d_La_law_614 (fun _ => ?_)
  refine v_i2l g d_La_law_615 ?_
  refine v_ldc2 (v := (4294967295 : Int64)) g (m1 1567 (by decide +kernel) (by decide +kernel)) d_La_law_616 ?_
  refine v_land g d_La_law_619 ?_
  refine v_lor g d_La_law_620 ?_
  refine v_callI (r_V (rest := []) [.int (xs (Int32.toNatClampNeg (v3 + (1 : Int32)))), .long ((lsh (Int32.toInt64 (xs (Int32.toNatClampNeg (v3 + (2 : Int32))))) (32 : Int32)) ||| ((Int32.toInt64 (xs (Int32.toNatClampNeg (v3 + (3 : Int32))))) &&& (4294967295 : Int64)))] g (m1 469 (by decide +kernel) (by decide +kernel)) yv_FR_isRing rfl (fun r σ1 h => sp_FR_isRing g.2.2.1  h) rfl rfl (by decide) (Nat.le_of_ble_eq_true rfl) d_La_law_621) (fun q17 => ?_)
  refine v_aload_n 2 g d_La_law_624 rfl ?_
  refine v_aload_n 0 g d_La_law_625 rfl ?_
  refine v_iload_n 3 g d_La_law_626 rfl ?_
  refine v_iconst (v := (1 : Int32)) g d_La_law_627 (by decide +kernel) ?_
  refine v_iadd g d_La_law_628 ?_
  refine v_sld hX g d_La_law_629 (fun _ => ?_)
  refine v_aload_n 0 g d_La_law_630 rfl ?_
  refine v_iload_n 3 g d_La_law_631 rfl ?_
  refine v_iconst (v := (2 : Int32)) g d_La_law_632 (by decide +kernel) ?_
  refine v_iadd g d_La_law_633 ?_
  refine v_sld hX g d_La_law_634 (fun _ => ?_)
  refine v_i2l g d_La_law_635 ?_
  refine v_bipush (v := (32 : Int32)) g d_La_law_636 (by decide +kernel) ?_
  refine v_lshl g d_La_law_638 ?_
  refine v_aload_n 0 g d_La_law_639 rfl ?_
  refine v_iload_n 3 g d_La_law_640 rfl ?_
  refine v_iconst (v := (3 : Int32)) g d_La_law_641 (by decide +kernel) ?_
  refine v_iadd g d_La_law_642 ?_
  refine v_sld hX g d_La_law_643 (fun _ => ?_)
  refine v_i2l g d_La_law_644 ?_
  refine v_ldc2 (v := (4294967295 : Int64)) g (m1 1567 (by decide +kernel) (by decide +kernel)) d_La_law_645 ?_
  refine v_land g d_La_law_648 ?_
  refine v_lor g d_La_law_649 ?_
  refine v_callI (r_V (rest := [.int q17.1]) [.int (xs (Int32.toNatClampNeg (v3 + (1 : Int32)))), .long ((lsh (Int32.toInt64 (xs (Int32.toNatClampNeg (v3 + (2 : Int32))))) (32 : Int32)) ||| ((Int32.toInt64 (xs (Int32.toNatClampNeg (v3 + (3 : Int32))))) &&& (4294967295 : Int64)))] g (m1 1250 (by decide +kernel) (by decide +kernel)) yv_Mo_isRing rfl (fun r σ1 h => sp_Mo_isRing g.2.2.1  h) rfl rfl (by decide) (Nat.le_of_ble_eq_true rfl) d_La_law_650) (fun q18 => ?_)
  refine v_icmp_eq 2686 g d_La_law_653 (by decide) (fun _ => ?_) (fun _ => ?_)
  · exact v_sub [0,1,2,3] rfl (vB_La_law_2686 hX g hk18 v3 q18.2)
  · refine v_iconst (v := (0 : Int32)) g d_La_law_656 (by decide +kernel) ?_
    exact v_ret d_La_law_657 rfl
theorem d_La_law_658 : decode code 658 = .ok (.aload_n 1, 1) := by decide +kernel
theorem d_La_law_659 : decode code 659 = .ok (.aload_n 0, 1) := by decide +kernel
theorem d_La_law_660 : decode code 660 = .ok (.iload_n 3, 1) := by decide +kernel
theorem d_La_law_661 : decode code 661 = .ok (.iconst 1, 1) := by decide +kernel
theorem d_La_law_662 : decode code 662 = .ok (.iadd, 1) := by decide +kernel
theorem d_La_law_663 : decode code 663 = .ok (.iaload, 1) := by decide +kernel
theorem d_La_law_664 : decode code 664 = .ok (.aload_n 0, 1) := by decide +kernel
theorem d_La_law_665 : decode code 665 = .ok (.iload_n 3, 1) := by decide +kernel
theorem d_La_law_666 : decode code 666 = .ok (.iconst 2, 1) := by decide +kernel
theorem d_La_law_667 : decode code 667 = .ok (.iadd, 1) := by decide +kernel
theorem d_La_law_668 : decode code 668 = .ok (.iaload, 1) := by decide +kernel
theorem d_La_law_669 : decode code 669 = .ok (.i2l, 1) := by decide +kernel
theorem d_La_law_670 : decode code 670 = .ok (.bipush 32, 2) := by decide +kernel
theorem d_La_law_672 : decode code 672 = .ok (.lshl, 1) := by decide +kernel
theorem d_La_law_673 : decode code 673 = .ok (.aload_n 0, 1) := by decide +kernel
theorem d_La_law_674 : decode code 674 = .ok (.iload_n 3, 1) := by decide +kernel
theorem d_La_law_675 : decode code 675 = .ok (.iconst 3, 1) := by decide +kernel
theorem d_La_law_676 : decode code 676 = .ok (.iadd, 1) := by decide +kernel
theorem d_La_law_677 : decode code 677 = .ok (.iaload, 1) := by decide +kernel
theorem d_La_law_678 : decode code 678 = .ok (.i2l, 1) := by decide +kernel
theorem d_La_law_679 : decode code 679 = .ok (.ldc2_w 35, 3) := by decide +kernel
theorem d_La_law_682 : decode code 682 = .ok (.land, 1) := by decide +kernel
theorem d_La_law_683 : decode code 683 = .ok (.lor, 1) := by decide +kernel
theorem d_La_law_684 : decode code 684 = .ok (.aload_n 0, 1) := by decide +kernel
theorem d_La_law_685 : decode code 685 = .ok (.iload_n 3, 1) := by decide +kernel
theorem d_La_law_686 : decode code 686 = .ok (.iconst 4, 1) := by decide +kernel
theorem d_La_law_687 : decode code 687 = .ok (.iadd, 1) := by decide +kernel
theorem d_La_law_688 : decode code 688 = .ok (.iaload, 1) := by decide +kernel
theorem d_La_law_689 : decode code 689 = .ok (.invokevirtual 56, 3) := by decide +kernel
theorem d_La_law_692 : decode code 692 = .ok (.aload_n 2, 1) := by decide +kernel
theorem d_La_law_693 : decode code 693 = .ok (.aload_n 0, 1) := by decide +kernel
theorem d_La_law_694 : decode code 694 = .ok (.iload_n 3, 1) := by decide +kernel
theorem d_La_law_695 : decode code 695 = .ok (.iconst 1, 1) := by decide +kernel
theorem d_La_law_696 : decode code 696 = .ok (.iadd, 1) := by decide +kernel
theorem d_La_law_697 : decode code 697 = .ok (.iaload, 1) := by decide +kernel
theorem d_La_law_698 : decode code 698 = .ok (.aload_n 0, 1) := by decide +kernel
theorem d_La_law_699 : decode code 699 = .ok (.iload_n 3, 1) := by decide +kernel
theorem d_La_law_700 : decode code 700 = .ok (.iconst 2, 1) := by decide +kernel
theorem d_La_law_701 : decode code 701 = .ok (.iadd, 1) := by decide +kernel
theorem d_La_law_702 : decode code 702 = .ok (.iaload, 1) := by decide +kernel
theorem d_La_law_703 : decode code 703 = .ok (.i2l, 1) := by decide +kernel
theorem d_La_law_704 : decode code 704 = .ok (.bipush 32, 2) := by decide +kernel
theorem d_La_law_706 : decode code 706 = .ok (.lshl, 1) := by decide +kernel
theorem d_La_law_707 : decode code 707 = .ok (.aload_n 0, 1) := by decide +kernel
theorem d_La_law_708 : decode code 708 = .ok (.iload_n 3, 1) := by decide +kernel
theorem d_La_law_709 : decode code 709 = .ok (.iconst 3, 1) := by decide +kernel
theorem d_La_law_710 : decode code 710 = .ok (.iadd, 1) := by decide +kernel
theorem d_La_law_711 : decode code 711 = .ok (.iaload, 1) := by decide +kernel
theorem d_La_law_712 : decode code 712 = .ok (.i2l, 1) := by decide +kernel
theorem d_La_law_713 : decode code 713 = .ok (.ldc2_w 35, 3) := by decide +kernel
theorem d_La_law_716 : decode code 716 = .ok (.land, 1) := by decide +kernel
theorem d_La_law_717 : decode code 717 = .ok (.lor, 1) := by decide +kernel
theorem d_La_law_718 : decode code 718 = .ok (.aload_n 0, 1) := by decide +kernel
theorem d_La_law_719 : decode code 719 = .ok (.iload_n 3, 1) := by decide +kernel
theorem d_La_law_720 : decode code 720 = .ok (.iconst 4, 1) := by decide +kernel
theorem d_La_law_721 : decode code 721 = .ok (.iadd, 1) := by decide +kernel
theorem d_La_law_722 : decode code 722 = .ok (.iaload, 1) := by decide +kernel
theorem d_La_law_723 : decode code 723 = .ok (.invokevirtual 60, 3) := by decide +kernel
theorem d_La_law_726 : decode code 726 = .ok (.if_icmp .eq 1960, 3) := by decide +kernel
theorem d_La_law_729 : decode code 729 = .ok (.iconst 0, 1) := by decide +kernel
theorem d_La_law_730 : decode code 730 = .ok (.ireturn, 1) := by decide +kernel
def B_La_law_658 (L : Nat) (xs : Nat → Int32) (k18 : Int32 → Sto → Option (Bool × Sto)) (v3 : Int32) (σ : Sto) : Option (Bool × Sto) :=
  (if inb (v3 + (1 : Int32)) L = true then (if inb (v3 + (2 : Int32)) L = true then (if inb (v3 + (3 : Int32)) L = true then (if inb (v3 + (4 : Int32)) L = true then ((f_FR_order (xs (Int32.toNatClampNeg (v3 + (1 : Int32)))) ((lsh (Int32.toInt64 (xs (Int32.toNatClampNeg (v3 + (2 : Int32))))) (32 : Int32)) ||| ((Int32.toInt64 (xs (Int32.toNatClampNeg (v3 + (3 : Int32))))) &&& (4294967295 : Int64))) (xs (Int32.toNatClampNeg (v3 + (4 : Int32)))) σ).bind fun q19 => (if inb (v3 + (1 : Int32)) L = true then (if inb (v3 + (2 : Int32)) L = true then (if inb (v3 + (3 : Int32)) L = true then (if inb (v3 + (4 : Int32)) L = true then ((f_Mo_order (xs (Int32.toNatClampNeg (v3 + (1 : Int32)))) ((lsh (Int32.toInt64 (xs (Int32.toNatClampNeg (v3 + (2 : Int32))))) (32 : Int32)) ||| ((Int32.toInt64 (xs (Int32.toNatClampNeg (v3 + (3 : Int32))))) &&& (4294967295 : Int64))) (xs (Int32.toNatClampNeg (v3 + (4 : Int32)))) q19.2).bind fun q20 => (if q19.1 = q20.1 then B_La_law_2686 L xs k18 v3 q20.2
 else some (false, q20.2))) else none) else none) else none) else none)) else none) else none) else none) else none)
set_option maxHeartbeats 4000000 in
set_option maxRecDepth 100000 in
theorem vB_La_law_658 {X : Xt} {E : En} {L : Nat} {xs : Nat → Int32} (hX : SX X E L xs) (g : GG X E 200 code R_La 4) {k18 : Int32 → Sto → Option (Bool × Sto)} (hk18 : ∀ (v3 : Int32) (σ : Sto), VV X E code 4 eB 18 [(0, .ref (E.2.1 999)), (1, .ref (E.2.1 0)), (2, .ref (E.2.1 48)), (3, .int v3)] [] σ (k18 v3 σ)) (v3 : Int32) (σ : Sto) : VV X E code 4 eB 658 [(0, .ref (E.2.1 999)), (1, .ref (E.2.1 0)), (2, .ref (E.2.1 48)), (3, .int v3)] [] σ (B_La_law_658 L xs k18 v3 σ) := by
  unfold B_La_law_658
  refine v_aload_n 1 g d_La_law_658 rfl ?_
  refine v_aload_n 0 g d_La_law_659 rfl ?_
  refine v_iload_n 3 g d_La_law_660 rfl ?_
  refine v_iconst (v := (1 : Int32)) g d_La_law_661 (by decide +kernel) ?_
  refine v_iadd g d_La_law_662 ?_
  refine v_sld hX g d_La_law_663 (fun _ => ?_)
  refine v_aload_n 0 g d_La_law_664 rfl ?_
  refine v_iload_n 3 g d_La_law_665 rfl ?_
  refine v_iconst (v := (2 : Int32)) g d_La_law_666 (by decide +kernel) ?_
  refine v_iadd g d_La_law_667 ?_
  refine v_sld hX g d_La_law_668 (fun _ => ?_)
  refine v_i2l g d_La_law_669 ?_
  refine v_bipush (v := (32 : Int32)) g d_La_law_670 (by decide +kernel) ?_
  refine v_lshl g d_La_law_672 ?_
  refine v_aload_n 0 g d_La_law_673 rfl ?_
  refine v_iload_n 3 g d_La_law_674 rfl ?_
  refine v_iconst (v := (3 : Int32)) g d_La_law_675 (by decide +kernel) ?_
  refine v_iadd g d_La_law_676 ?_
  refine v_sld hX g d_La_law_677 (fun _ => ?_)
  refine v_i2l g d_La_law_678 ?_
  refine v_ldc2 (v := (4294967295 : Int64)) g (m1 1567 (by decide +kernel) (by decide +kernel)) d_La_law_679 ?_
  refine v_land g d_La_law_682 ?_
  refine v_lor g d_La_law_683 ?_
  refine v_aload_n 0 g d_La_law_684 rfl ?_
  refine v_iload_n 3 g d_La_law_685 rfl ?_
  refine v_iconst (v := (4 : Int32)) g d_La_law_686 (by decide +kernel) ?_
  refine v_iadd g d_La_law_687 ?_
  refine v_sld hX g d_La_law_688 (fun _ => ?_)
  refine v_callI (r_V (rest := []) [.int (xs (Int32.toNatClampNeg (v3 + (1 : Int32)))), .long ((lsh (Int32.toInt64 (xs (Int32.toNatClampNeg (v3 + (2 : Int32))))) (32 : Int32)) ||| ((Int32.toInt64 (xs (Int32.toNatClampNeg (v3 + (3 : Int32))))) &&& (4294967295 : Int64))), .int (xs (Int32.toNatClampNeg (v3 + (4 : Int32))))] g (m1 482 (by decide +kernel) (by decide +kernel)) yv_FR_order rfl (fun r σ1 h => sp_FR_order g.2.2.1  h) rfl rfl (by decide) (Nat.le_of_ble_eq_true rfl) d_La_law_689) (fun q19 => ?_)
  refine v_aload_n 2 g d_La_law_692 rfl ?_
  refine v_aload_n 0 g d_La_law_693 rfl ?_
  refine v_iload_n 3 g d_La_law_694 rfl ?_
  refine v_iconst (v := (1 : Int32)) g d_La_law_695 (by decide +kernel) ?_
  refine v_iadd g d_La_law_696 ?_
  refine v_sld hX g d_La_law_697 (fun _ => ?_)
  refine v_aload_n 0 g d_La_law_698 rfl ?_
  refine v_iload_n 3 g d_La_law_699 rfl ?_
  refine v_iconst (v := (2 : Int32)) g d_La_law_700 (by decide +kernel) ?_
  refine v_iadd g d_La_law_701 ?_
  refine v_sld hX g d_La_law_702 (fun _ => ?_)
  refine v_i2l g d_La_law_703 ?_
  refine v_bipush (v := (32 : Int32)) g d_La_law_704 (by decide +kernel) ?_
  refine v_lshl g d_La_law_706 ?_
  refine v_aload_n 0 g d_La_law_707 rfl ?_
  refine v_iload_n 3 g d_La_law_708 rfl ?_
  refine v_iconst (v := (3 : Int32)) g d_La_law_709 (by decide +kernel) ?_
  refine v_iadd g d_La_law_710 ?_
  refine v_sld hX g d_La_law_711 (fun _ => ?_)
  refine v_i2l g d_La_law_712 ?_
  refine v_ldc2 (v := (4294967295 : Int64)) g (m1 1567 (by decide +kernel) (by decide +kernel)) d_La_law_713 ?_
  refine v_land g d_La_law_716 ?_
  refine v_lor g d_La_law_717 ?_
  refine v_aload_n 0 g d_La_law_718 rfl ?_
  refine v_iload_n 3 g d_La_law_719 rfl ?_
  refine v_iconst (v := (4 : Int32)) g d_La_law_720 (by decide +kernel) ?_
  refine v_iadd g d_La_law_721 ?_
  refine v_sld hX g d_La_law_722 (fun _ => ?_)
  refine v_callI (r_V (rest := [.int q19.1]) [.int (xs (Int32.toNatClampNeg (v3 + (1 : Int32)))), .long ((lsh (Int32.toInt64 (xs (Int32.toNatClampNeg (v3 + (2 : Int32))))) (32 : Int32)) ||| ((Int32.toInt64 (xs (Int32.toNatClampNeg (v3 + (3 : Int32))))) &&& (4294967295 : Int64))), .int (xs (Int32.toNatClampNeg (v3 + (4 : Int32))))] g (m1 1262 (by decide +kernel) (by decide +kernel)) yv_Mo_order rfl (fun r σ1 h => sp_Mo_order g.2.2.1  h) rfl rfl (by decide) (Nat.le_of_ble_eq_true rfl) d_La_law_723) (fun q20 => ?_)
  refine v_icmp_eq 2686 g d_La_law_726 (by decide) (fun _ => ?_) (fun _ => ?_)
  · exact v_sub [0,1,2,3] rfl (vB_La_law_2686 hX g hk18 v3 q20.2)
  · refine v_iconst (v := (0 : Int32)) g d_La_law_729 (by decide +kernel) ?_
    exact v_ret d_La_law_730 rfl
theorem d_La_law_731 : decode code 731 = .ok (.aload_n 1, 1) := by decide +kernel
theorem d_La_law_732 : decode code 732 = .ok (.aload_n 0, 1) := by decide +kernel
theorem d_La_law_733 : decode code 733 = .ok (.iload_n 3, 1) := by decide +kernel
theorem d_La_law_734 : decode code 734 = .ok (.iconst 1, 1) := by decide +kernel
theorem d_La_law_735 : decode code 735 = .ok (.iadd, 1) := by decide +kernel
theorem d_La_law_736 : decode code 736 = .ok (.iaload, 1) := by decide +kernel
theorem d_La_law_737 : decode code 737 = .ok (.aload_n 0, 1) := by decide +kernel
theorem d_La_law_738 : decode code 738 = .ok (.iload_n 3, 1) := by decide +kernel
theorem d_La_law_739 : decode code 739 = .ok (.iconst 2, 1) := by decide +kernel
theorem d_La_law_740 : decode code 740 = .ok (.iadd, 1) := by decide +kernel
theorem d_La_law_741 : decode code 741 = .ok (.iaload, 1) := by decide +kernel
theorem d_La_law_742 : decode code 742 = .ok (.i2l, 1) := by decide +kernel
theorem d_La_law_743 : decode code 743 = .ok (.bipush 32, 2) := by decide +kernel
theorem d_La_law_745 : decode code 745 = .ok (.lshl, 1) := by decide +kernel
theorem d_La_law_746 : decode code 746 = .ok (.aload_n 0, 1) := by decide +kernel
theorem d_La_law_747 : decode code 747 = .ok (.iload_n 3, 1) := by decide +kernel
theorem d_La_law_748 : decode code 748 = .ok (.iconst 3, 1) := by decide +kernel
theorem d_La_law_749 : decode code 749 = .ok (.iadd, 1) := by decide +kernel
theorem d_La_law_750 : decode code 750 = .ok (.iaload, 1) := by decide +kernel
theorem d_La_law_751 : decode code 751 = .ok (.i2l, 1) := by decide +kernel
theorem d_La_law_752 : decode code 752 = .ok (.ldc2_w 35, 3) := by decide +kernel
theorem d_La_law_755 : decode code 755 = .ok (.land, 1) := by decide +kernel
theorem d_La_law_756 : decode code 756 = .ok (.lor, 1) := by decide +kernel
theorem d_La_law_757 : decode code 757 = .ok (.aload_n 0, 1) := by decide +kernel
theorem d_La_law_758 : decode code 758 = .ok (.iload_n 3, 1) := by decide +kernel
theorem d_La_law_759 : decode code 759 = .ok (.iconst 4, 1) := by decide +kernel
theorem d_La_law_760 : decode code 760 = .ok (.iadd, 1) := by decide +kernel
theorem d_La_law_761 : decode code 761 = .ok (.iaload, 1) := by decide +kernel
theorem d_La_law_762 : decode code 762 = .ok (.invokevirtual 61, 3) := by decide +kernel
theorem d_La_law_765 : decode code 765 = .ok (.aload_n 2, 1) := by decide +kernel
theorem d_La_law_766 : decode code 766 = .ok (.aload_n 0, 1) := by decide +kernel
theorem d_La_law_767 : decode code 767 = .ok (.iload_n 3, 1) := by decide +kernel
theorem d_La_law_768 : decode code 768 = .ok (.iconst 1, 1) := by decide +kernel
theorem d_La_law_769 : decode code 769 = .ok (.iadd, 1) := by decide +kernel
theorem d_La_law_770 : decode code 770 = .ok (.iaload, 1) := by decide +kernel
theorem d_La_law_771 : decode code 771 = .ok (.aload_n 0, 1) := by decide +kernel
theorem d_La_law_772 : decode code 772 = .ok (.iload_n 3, 1) := by decide +kernel
theorem d_La_law_773 : decode code 773 = .ok (.iconst 2, 1) := by decide +kernel
theorem d_La_law_774 : decode code 774 = .ok (.iadd, 1) := by decide +kernel
theorem d_La_law_775 : decode code 775 = .ok (.iaload, 1) := by decide +kernel
theorem d_La_law_776 : decode code 776 = .ok (.i2l, 1) := by decide +kernel
theorem d_La_law_777 : decode code 777 = .ok (.bipush 32, 2) := by decide +kernel
theorem d_La_law_779 : decode code 779 = .ok (.lshl, 1) := by decide +kernel
theorem d_La_law_780 : decode code 780 = .ok (.aload_n 0, 1) := by decide +kernel
theorem d_La_law_781 : decode code 781 = .ok (.iload_n 3, 1) := by decide +kernel
theorem d_La_law_782 : decode code 782 = .ok (.iconst 3, 1) := by decide +kernel
theorem d_La_law_783 : decode code 783 = .ok (.iadd, 1) := by decide +kernel
theorem d_La_law_784 : decode code 784 = .ok (.iaload, 1) := by decide +kernel
theorem d_La_law_785 : decode code 785 = .ok (.i2l, 1) := by decide +kernel
theorem d_La_law_786 : decode code 786 = .ok (.ldc2_w 35, 3) := by decide +kernel
theorem d_La_law_789 : decode code 789 = .ok (.land, 1) := by decide +kernel
theorem d_La_law_790 : decode code 790 = .ok (.lor, 1) := by decide +kernel
theorem d_La_law_791 : decode code 791 = .ok (.aload_n 0, 1) := by decide +kernel
theorem d_La_law_792 : decode code 792 = .ok (.iload_n 3, 1) := by decide +kernel
theorem d_La_law_793 : decode code 793 = .ok (.iconst 4, 1) := by decide +kernel
theorem d_La_law_794 : decode code 794 = .ok (.iadd, 1) := by decide +kernel
theorem d_La_law_795 : decode code 795 = .ok (.iaload, 1) := by decide +kernel
theorem d_La_law_796 : decode code 796 = .ok (.invokevirtual 65, 3) := by decide +kernel
theorem d_La_law_799 : decode code 799 = .ok (.lcmp, 1) := by decide +kernel
theorem d_La_law_800 : decode code 800 = .ok (.ifCond .eq 1886, 3) := by decide +kernel
theorem d_La_law_803 : decode code 803 = .ok (.iconst 0, 1) := by decide +kernel
theorem d_La_law_804 : decode code 804 = .ok (.ireturn, 1) := by decide +kernel
def B_La_law_731 (L : Nat) (xs : Nat → Int32) (k18 : Int32 → Sto → Option (Bool × Sto)) (v3 : Int32) (σ : Sto) : Option (Bool × Sto) :=
  (if inb (v3 + (1 : Int32)) L = true then (if inb (v3 + (2 : Int32)) L = true then (if inb (v3 + (3 : Int32)) L = true then (if inb (v3 + (4 : Int32)) L = true then ((f_FR_classes (xs (Int32.toNatClampNeg (v3 + (1 : Int32)))) ((lsh (Int32.toInt64 (xs (Int32.toNatClampNeg (v3 + (2 : Int32))))) (32 : Int32)) ||| ((Int32.toInt64 (xs (Int32.toNatClampNeg (v3 + (3 : Int32))))) &&& (4294967295 : Int64))) (xs (Int32.toNatClampNeg (v3 + (4 : Int32)))) σ).bind fun q21 => (if inb (v3 + (1 : Int32)) L = true then (if inb (v3 + (2 : Int32)) L = true then (if inb (v3 + (3 : Int32)) L = true then (if inb (v3 + (4 : Int32)) L = true then ((f_Mo_classes (xs (Int32.toNatClampNeg (v3 + (1 : Int32)))) ((lsh (Int32.toInt64 (xs (Int32.toNatClampNeg (v3 + (2 : Int32))))) (32 : Int32)) ||| ((Int32.toInt64 (xs (Int32.toNatClampNeg (v3 + (3 : Int32))))) &&& (4294967295 : Int64))) (xs (Int32.toNatClampNeg (v3 + (4 : Int32)))) q21.2).bind fun q22 => (if q21.1 = q22.1 then B_La_law_2686 L xs k18 v3 q22.2
 else some (false, q22.2))) else none) else none) else none) else none)) else none) else none) else none) else none)
set_option maxHeartbeats 4000000 in
set_option maxRecDepth 100000 in
theorem vB_La_law_731 {X : Xt} {E : En} {L : Nat} {xs : Nat → Int32} (hX : SX X E L xs) (g : GG X E 200 code R_La 4) {k18 : Int32 → Sto → Option (Bool × Sto)} (hk18 : ∀ (v3 : Int32) (σ : Sto), VV X E code 4 eB 18 [(0, .ref (E.2.1 999)), (1, .ref (E.2.1 0)), (2, .ref (E.2.1 48)), (3, .int v3)] [] σ (k18 v3 σ)) (v3 : Int32) (σ : Sto) : VV X E code 4 eB 731 [(0, .ref (E.2.1 999)), (1, .ref (E.2.1 0)), (2, .ref (E.2.1 48)), (3, .int v3)] [] σ (B_La_law_731 L xs k18 v3 σ) := by
  unfold B_La_law_731
  refine v_aload_n 1 g d_La_law_731 rfl ?_
  refine v_aload_n 0 g d_La_law_732 rfl ?_
  refine v_iload_n 3 g d_La_law_733 rfl ?_
  refine v_iconst (v := (1 : Int32)) g d_La_law_734 (by decide +kernel) ?_
  refine v_iadd g d_La_law_735 ?_
  refine v_sld hX g d_La_law_736 (fun _ => ?_)
  refine v_aload_n 0 g d_La_law_737 rfl ?_
  refine v_iload_n 3 g d_La_law_738 rfl ?_
  refine v_iconst (v := (2 : Int32)) g d_La_law_739 (by decide +kernel) ?_
  refine v_iadd g d_La_law_740 ?_
  refine v_sld hX g d_La_law_741 (fun _ => ?_)
  refine v_i2l g d_La_law_742 ?_
  refine v_bipush (v := (32 : Int32)) g d_La_law_743 (by decide +kernel) ?_
  refine v_lshl g d_La_law_745 ?_
  refine v_aload_n 0 g d_La_law_746 rfl ?_
  refine v_iload_n 3 g d_La_law_747 rfl ?_
  refine v_iconst (v := (3 : Int32)) g d_La_law_748 (by decide +kernel) ?_
  refine v_iadd g d_La_law_749 ?_
  refine v_sld hX g d_La_law_750 (fun _ => ?_)
  refine v_i2l g d_La_law_751 ?_
  refine v_ldc2 (v := (4294967295 : Int64)) g (m1 1567 (by decide +kernel) (by decide +kernel)) d_La_law_752 ?_
  refine v_land g d_La_law_755 ?_
  refine v_lor g d_La_law_756 ?_
  refine v_aload_n 0 g d_La_law_757 rfl ?_
  refine v_iload_n 3 g d_La_law_758 rfl ?_
  refine v_iconst (v := (4 : Int32)) g d_La_law_759 (by decide +kernel) ?_
  refine v_iadd g d_La_law_760 ?_
  refine v_sld hX g d_La_law_761 (fun _ => ?_)
  refine v_callL (r_V (rest := []) [.int (xs (Int32.toNatClampNeg (v3 + (1 : Int32)))), .long ((lsh (Int32.toInt64 (xs (Int32.toNatClampNeg (v3 + (2 : Int32))))) (32 : Int32)) ||| ((Int32.toInt64 (xs (Int32.toNatClampNeg (v3 + (3 : Int32))))) &&& (4294967295 : Int64))), .int (xs (Int32.toNatClampNeg (v3 + (4 : Int32))))] g (m1 504 (by decide +kernel) (by decide +kernel)) yv_FR_classes rfl (fun r σ1 h => sp_FR_classes g.2.2.1  h) rfl rfl (by decide) (Nat.le_of_ble_eq_true rfl) d_La_law_762) (fun q21 => ?_)
  refine v_aload_n 2 g d_La_law_765 rfl ?_
  refine v_aload_n 0 g d_La_law_766 rfl ?_
  refine v_iload_n 3 g d_La_law_767 rfl ?_
  refine v_iconst (v := (1 : Int32)) g d_La_law_768 (by decide +kernel) ?_
  refine v_iadd g d_La_law_769 ?_
  refine v_sld hX g d_La_law_770 (fun _ => ?_)
  refine v_aload_n 0 g d_La_law_771 rfl ?_
  refine v_iload_n 3 g d_La_law_772 rfl ?_
  refine v_iconst (v := (2 : Int32)) g d_La_law_773 (by decide +kernel) ?_
  refine v_iadd g d_La_law_774 ?_
  refine v_sld hX g d_La_law_775 (fun _ => ?_)
  refine v_i2l g d_La_law_776 ?_
  refine v_bipush (v := (32 : Int32)) g d_La_law_777 (by decide +kernel) ?_
  refine v_lshl g d_La_law_779 ?_
  refine v_aload_n 0 g d_La_law_780 rfl ?_
  refine v_iload_n 3 g d_La_law_781 rfl ?_
  refine v_iconst (v := (3 : Int32)) g d_La_law_782 (by decide +kernel) ?_
  refine v_iadd g d_La_law_783 ?_
  refine v_sld hX g d_La_law_784 (fun _ => ?_)
  refine v_i2l g d_La_law_785 ?_
  refine v_ldc2 (v := (4294967295 : Int64)) g (m1 1567 (by decide +kernel) (by decide +kernel)) d_La_law_786 ?_
  refine v_land g d_La_law_789 ?_
  refine v_lor g d_La_law_790 ?_
  refine v_aload_n 0 g d_La_law_791 rfl ?_
  refine v_iload_n 3 g d_La_law_792 rfl ?_
  refine v_iconst (v := (4 : Int32)) g d_La_law_793 (by decide +kernel) ?_
  refine v_iadd g d_La_law_794 ?_
  refine v_sld hX g d_La_law_795 (fun _ => ?_)
  refine v_callL (r_V (rest := [.long q21.1]) [.int (xs (Int32.toNatClampNeg (v3 + (1 : Int32)))), .long ((lsh (Int32.toInt64 (xs (Int32.toNatClampNeg (v3 + (2 : Int32))))) (32 : Int32)) ||| ((Int32.toInt64 (xs (Int32.toNatClampNeg (v3 + (3 : Int32))))) &&& (4294967295 : Int64))), .int (xs (Int32.toNatClampNeg (v3 + (4 : Int32))))] g (m1 1273 (by decide +kernel) (by decide +kernel)) yv_Mo_classes rfl (fun r σ1 h => sp_Mo_classes g.2.2.1  h) rfl rfl (by decide) (Nat.le_of_ble_eq_true rfl) d_La_law_796) (fun q22 => ?_)
  refine v_lcmp_eq 2686 g d_La_law_799 d_La_law_800 (by decide) (fun _ => ?_) (fun _ => ?_)
  · exact v_sub [0,1,2,3] rfl (vB_La_law_2686 hX g hk18 v3 q22.2)
  · refine v_iconst (v := (0 : Int32)) g d_La_law_803 (by decide +kernel) ?_
    exact v_ret d_La_law_804 rfl
theorem d_La_law_805 : decode code 805 = .ok (.aload_n 1, 1) := by decide +kernel
theorem d_La_law_806 : decode code 806 = .ok (.aload_n 0, 1) := by decide +kernel
theorem d_La_law_807 : decode code 807 = .ok (.iload_n 3, 1) := by decide +kernel
theorem d_La_law_808 : decode code 808 = .ok (.iconst 1, 1) := by decide +kernel
theorem d_La_law_809 : decode code 809 = .ok (.iadd, 1) := by decide +kernel
theorem d_La_law_810 : decode code 810 = .ok (.iaload, 1) := by decide +kernel
theorem d_La_law_811 : decode code 811 = .ok (.aload_n 0, 1) := by decide +kernel
theorem d_La_law_812 : decode code 812 = .ok (.iload_n 3, 1) := by decide +kernel
theorem d_La_law_813 : decode code 813 = .ok (.iconst 2, 1) := by decide +kernel
theorem d_La_law_814 : decode code 814 = .ok (.iadd, 1) := by decide +kernel
theorem d_La_law_815 : decode code 815 = .ok (.iaload, 1) := by decide +kernel
theorem d_La_law_816 : decode code 816 = .ok (.i2l, 1) := by decide +kernel
theorem d_La_law_817 : decode code 817 = .ok (.bipush 32, 2) := by decide +kernel
theorem d_La_law_819 : decode code 819 = .ok (.lshl, 1) := by decide +kernel
theorem d_La_law_820 : decode code 820 = .ok (.aload_n 0, 1) := by decide +kernel
theorem d_La_law_821 : decode code 821 = .ok (.iload_n 3, 1) := by decide +kernel
theorem d_La_law_822 : decode code 822 = .ok (.iconst 3, 1) := by decide +kernel
theorem d_La_law_823 : decode code 823 = .ok (.iadd, 1) := by decide +kernel
theorem d_La_law_824 : decode code 824 = .ok (.iaload, 1) := by decide +kernel
theorem d_La_law_825 : decode code 825 = .ok (.i2l, 1) := by decide +kernel
theorem d_La_law_826 : decode code 826 = .ok (.ldc2_w 35, 3) := by decide +kernel
theorem d_La_law_829 : decode code 829 = .ok (.land, 1) := by decide +kernel
theorem d_La_law_830 : decode code 830 = .ok (.lor, 1) := by decide +kernel
theorem d_La_law_831 : decode code 831 = .ok (.invokevirtual 66, 3) := by decide +kernel
theorem d_La_law_834 : decode code 834 = .ok (.aload_n 2, 1) := by decide +kernel
theorem d_La_law_835 : decode code 835 = .ok (.aload_n 0, 1) := by decide +kernel
theorem d_La_law_836 : decode code 836 = .ok (.iload_n 3, 1) := by decide +kernel
theorem d_La_law_837 : decode code 837 = .ok (.iconst 1, 1) := by decide +kernel
theorem d_La_law_838 : decode code 838 = .ok (.iadd, 1) := by decide +kernel
theorem d_La_law_839 : decode code 839 = .ok (.iaload, 1) := by decide +kernel
theorem d_La_law_840 : decode code 840 = .ok (.aload_n 0, 1) := by decide +kernel
theorem d_La_law_841 : decode code 841 = .ok (.iload_n 3, 1) := by decide +kernel
theorem d_La_law_842 : decode code 842 = .ok (.iconst 2, 1) := by decide +kernel
theorem d_La_law_843 : decode code 843 = .ok (.iadd, 1) := by decide +kernel
theorem d_La_law_844 : decode code 844 = .ok (.iaload, 1) := by decide +kernel
theorem d_La_law_845 : decode code 845 = .ok (.i2l, 1) := by decide +kernel
theorem d_La_law_846 : decode code 846 = .ok (.bipush 32, 2) := by decide +kernel
theorem d_La_law_848 : decode code 848 = .ok (.lshl, 1) := by decide +kernel
theorem d_La_law_849 : decode code 849 = .ok (.aload_n 0, 1) := by decide +kernel
theorem d_La_law_850 : decode code 850 = .ok (.iload_n 3, 1) := by decide +kernel
theorem d_La_law_851 : decode code 851 = .ok (.iconst 3, 1) := by decide +kernel
theorem d_La_law_852 : decode code 852 = .ok (.iadd, 1) := by decide +kernel
theorem d_La_law_853 : decode code 853 = .ok (.iaload, 1) := by decide +kernel
theorem d_La_law_854 : decode code 854 = .ok (.i2l, 1) := by decide +kernel
theorem d_La_law_855 : decode code 855 = .ok (.ldc2_w 35, 3) := by decide +kernel
theorem d_La_law_858 : decode code 858 = .ok (.land, 1) := by decide +kernel
theorem d_La_law_859 : decode code 859 = .ok (.lor, 1) := by decide +kernel
theorem d_La_law_860 : decode code 860 = .ok (.invokevirtual 70, 3) := by decide +kernel
theorem d_La_law_863 : decode code 863 = .ok (.lcmp, 1) := by decide +kernel
theorem d_La_law_864 : decode code 864 = .ok (.ifCond .eq 1822, 3) := by decide +kernel
theorem d_La_law_867 : decode code 867 = .ok (.iconst 0, 1) := by decide +kernel
theorem d_La_law_868 : decode code 868 = .ok (.ireturn, 1) := by decide +kernel
def B_La_law_805 (L : Nat) (xs : Nat → Int32) (k18 : Int32 → Sto → Option (Bool × Sto)) (v3 : Int32) (σ : Sto) : Option (Bool × Sto) :=
  (if inb (v3 + (1 : Int32)) L = true then (if inb (v3 + (2 : Int32)) L = true then (if inb (v3 + (3 : Int32)) L = true then ((f_FR_taken (xs (Int32.toNatClampNeg (v3 + (1 : Int32)))) ((lsh (Int32.toInt64 (xs (Int32.toNatClampNeg (v3 + (2 : Int32))))) (32 : Int32)) ||| ((Int32.toInt64 (xs (Int32.toNatClampNeg (v3 + (3 : Int32))))) &&& (4294967295 : Int64))) σ).bind fun q23 => (if inb (v3 + (1 : Int32)) L = true then (if inb (v3 + (2 : Int32)) L = true then (if inb (v3 + (3 : Int32)) L = true then ((f_Mo_taken (xs (Int32.toNatClampNeg (v3 + (1 : Int32)))) ((lsh (Int32.toInt64 (xs (Int32.toNatClampNeg (v3 + (2 : Int32))))) (32 : Int32)) ||| ((Int32.toInt64 (xs (Int32.toNatClampNeg (v3 + (3 : Int32))))) &&& (4294967295 : Int64))) q23.2).bind fun q24 => (if q23.1 = q24.1 then B_La_law_2686 L xs k18 v3 q24.2
 else some (false, q24.2))) else none) else none) else none)) else none) else none) else none)
set_option maxHeartbeats 4000000 in
set_option maxRecDepth 100000 in
theorem vB_La_law_805 {X : Xt} {E : En} {L : Nat} {xs : Nat → Int32} (hX : SX X E L xs) (g : GG X E 200 code R_La 4) {k18 : Int32 → Sto → Option (Bool × Sto)} (hk18 : ∀ (v3 : Int32) (σ : Sto), VV X E code 4 eB 18 [(0, .ref (E.2.1 999)), (1, .ref (E.2.1 0)), (2, .ref (E.2.1 48)), (3, .int v3)] [] σ (k18 v3 σ)) (v3 : Int32) (σ : Sto) : VV X E code 4 eB 805 [(0, .ref (E.2.1 999)), (1, .ref (E.2.1 0)), (2, .ref (E.2.1 48)), (3, .int v3)] [] σ (B_La_law_805 L xs k18 v3 σ) := by
  unfold B_La_law_805
  refine v_aload_n 1 g d_La_law_805 rfl ?_
  refine v_aload_n 0 g d_La_law_806 rfl ?_
  refine v_iload_n 3 g d_La_law_807 rfl ?_
  refine v_iconst (v := (1 : Int32)) g d_La_law_808 (by decide +kernel) ?_
  refine v_iadd g d_La_law_809 ?_
  refine v_sld hX g d_La_law_810 (fun _ => ?_)
  refine v_aload_n 0 g d_La_law_811 rfl ?_
  refine v_iload_n 3 g d_La_law_812 rfl ?_
  refine v_iconst (v := (2 : Int32)) g d_La_law_813 (by decide +kernel) ?_
  refine v_iadd g d_La_law_814 ?_
  refine v_sld hX g d_La_law_815 (fun _ => ?_)
  refine v_i2l g d_La_law_816 ?_
  refine v_bipush (v := (32 : Int32)) g d_La_law_817 (by decide +kernel) ?_
  refine v_lshl g d_La_law_819 ?_
  refine v_aload_n 0 g d_La_law_820 rfl ?_
  refine v_iload_n 3 g d_La_law_821 rfl ?_
  refine v_iconst (v := (3 : Int32)) g d_La_law_822 (by decide +kernel) ?_
  refine v_iadd g d_La_law_823 ?_
  refine v_sld hX g d_La_law_824 (fun _ => ?_)
  refine v_i2l g d_La_law_825 ?_
  refine v_ldc2 (v := (4294967295 : Int64)) g (m1 1567 (by decide +kernel) (by decide +kernel)) d_La_law_826 ?_
  refine v_land g d_La_law_829 ?_
  refine v_lor g d_La_law_830 ?_
  refine v_callL (r_V (rest := []) [.int (xs (Int32.toNatClampNeg (v3 + (1 : Int32)))), .long ((lsh (Int32.toInt64 (xs (Int32.toNatClampNeg (v3 + (2 : Int32))))) (32 : Int32)) ||| ((Int32.toInt64 (xs (Int32.toNatClampNeg (v3 + (3 : Int32))))) &&& (4294967295 : Int64)))] g (m1 517 (by decide +kernel) (by decide +kernel)) yv_FR_taken rfl (fun r σ1 h => sp_FR_taken g.2.2.1  h) rfl rfl (by decide) (Nat.le_of_ble_eq_true rfl) d_La_law_831) (fun q23 => ?_)
  refine v_aload_n 2 g d_La_law_834 rfl ?_
  refine v_aload_n 0 g d_La_law_835 rfl ?_
  refine v_iload_n 3 g d_La_law_836 rfl ?_
  refine v_iconst (v := (1 : Int32)) g d_La_law_837 (by decide +kernel) ?_
  refine v_iadd g d_La_law_838 ?_
  refine v_sld hX g d_La_law_839 (fun _ => ?_)
  refine v_aload_n 0 g d_La_law_840 rfl ?_
  refine v_iload_n 3 g d_La_law_841 rfl ?_
  refine v_iconst (v := (2 : Int32)) g d_La_law_842 (by decide +kernel) ?_
  refine v_iadd g d_La_law_843 ?_
  refine v_sld hX g d_La_law_844 (fun _ => ?_)
  refine v_i2l g d_La_law_845 ?_
  refine v_bipush (v := (32 : Int32)) g d_La_law_846 (by decide +kernel) ?_
  refine v_lshl g d_La_law_848 ?_
  refine v_aload_n 0 g d_La_law_849 rfl ?_
  refine v_iload_n 3 g d_La_law_850 rfl ?_
  refine v_iconst (v := (3 : Int32)) g d_La_law_851 (by decide +kernel) ?_
  refine v_iadd g d_La_law_852 ?_
  refine v_sld hX g d_La_law_853 (fun _ => ?_)
  refine v_i2l g d_La_law_854 ?_
  refine v_ldc2 (v := (4294967295 : Int64)) g (m1 1567 (by decide +kernel) (by decide +kernel)) d_La_law_855 ?_
  refine v_land g d_La_law_858 ?_
  refine v_lor g d_La_law_859 ?_
  refine v_callL (r_V (rest := [.long q23.1]) [.int (xs (Int32.toNatClampNeg (v3 + (1 : Int32)))), .long ((lsh (Int32.toInt64 (xs (Int32.toNatClampNeg (v3 + (2 : Int32))))) (32 : Int32)) ||| ((Int32.toInt64 (xs (Int32.toNatClampNeg (v3 + (3 : Int32))))) &&& (4294967295 : Int64)))] g (m1 1282 (by decide +kernel) (by decide +kernel)) yv_Mo_taken rfl (fun r σ1 h => sp_Mo_taken g.2.2.1  h) rfl rfl (by decide) (Nat.le_of_ble_eq_true rfl) d_La_law_860) (fun q24 => ?_)
  refine v_lcmp_eq 2686 g d_La_law_863 d_La_law_864 (by decide) (fun _ => ?_) (fun _ => ?_)
  · exact v_sub [0,1,2,3] rfl (vB_La_law_2686 hX g hk18 v3 q24.2)
  · refine v_iconst (v := (0 : Int32)) g d_La_law_867 (by decide +kernel) ?_
    exact v_ret d_La_law_868 rfl
theorem d_La_law_869 : decode code 869 = .ok (.aload_n 1, 1) := by decide +kernel
theorem d_La_law_870 : decode code 870 = .ok (.aload_n 0, 1) := by decide +kernel
theorem d_La_law_871 : decode code 871 = .ok (.iload_n 3, 1) := by decide +kernel
theorem d_La_law_872 : decode code 872 = .ok (.iconst 1, 1) := by decide +kernel
theorem d_La_law_873 : decode code 873 = .ok (.iadd, 1) := by decide +kernel
theorem d_La_law_874 : decode code 874 = .ok (.iaload, 1) := by decide +kernel
theorem d_La_law_875 : decode code 875 = .ok (.aload_n 0, 1) := by decide +kernel
theorem d_La_law_876 : decode code 876 = .ok (.iload_n 3, 1) := by decide +kernel
theorem d_La_law_877 : decode code 877 = .ok (.iconst 2, 1) := by decide +kernel
theorem d_La_law_878 : decode code 878 = .ok (.iadd, 1) := by decide +kernel
theorem d_La_law_879 : decode code 879 = .ok (.iaload, 1) := by decide +kernel
theorem d_La_law_880 : decode code 880 = .ok (.aload_n 0, 1) := by decide +kernel
theorem d_La_law_881 : decode code 881 = .ok (.iload_n 3, 1) := by decide +kernel
theorem d_La_law_882 : decode code 882 = .ok (.iconst 3, 1) := by decide +kernel
theorem d_La_law_883 : decode code 883 = .ok (.iadd, 1) := by decide +kernel
theorem d_La_law_884 : decode code 884 = .ok (.iaload, 1) := by decide +kernel
theorem d_La_law_885 : decode code 885 = .ok (.i2l, 1) := by decide +kernel
theorem d_La_law_886 : decode code 886 = .ok (.bipush 32, 2) := by decide +kernel
theorem d_La_law_888 : decode code 888 = .ok (.lshl, 1) := by decide +kernel
theorem d_La_law_889 : decode code 889 = .ok (.aload_n 0, 1) := by decide +kernel
theorem d_La_law_890 : decode code 890 = .ok (.iload_n 3, 1) := by decide +kernel
theorem d_La_law_891 : decode code 891 = .ok (.iconst 4, 1) := by decide +kernel
theorem d_La_law_892 : decode code 892 = .ok (.iadd, 1) := by decide +kernel
theorem d_La_law_893 : decode code 893 = .ok (.iaload, 1) := by decide +kernel
theorem d_La_law_894 : decode code 894 = .ok (.i2l, 1) := by decide +kernel
theorem d_La_law_895 : decode code 895 = .ok (.ldc2_w 35, 3) := by decide +kernel
theorem d_La_law_898 : decode code 898 = .ok (.land, 1) := by decide +kernel
theorem d_La_law_899 : decode code 899 = .ok (.lor, 1) := by decide +kernel
theorem d_La_law_900 : decode code 900 = .ok (.invokevirtual 71, 3) := by decide +kernel
theorem d_La_law_903 : decode code 903 = .ok (.aload_n 2, 1) := by decide +kernel
theorem d_La_law_904 : decode code 904 = .ok (.aload_n 0, 1) := by decide +kernel
theorem d_La_law_905 : decode code 905 = .ok (.iload_n 3, 1) := by decide +kernel
theorem d_La_law_906 : decode code 906 = .ok (.iconst 1, 1) := by decide +kernel
theorem d_La_law_907 : decode code 907 = .ok (.iadd, 1) := by decide +kernel
theorem d_La_law_908 : decode code 908 = .ok (.iaload, 1) := by decide +kernel
theorem d_La_law_909 : decode code 909 = .ok (.aload_n 0, 1) := by decide +kernel
theorem d_La_law_910 : decode code 910 = .ok (.iload_n 3, 1) := by decide +kernel
theorem d_La_law_911 : decode code 911 = .ok (.iconst 2, 1) := by decide +kernel
theorem d_La_law_912 : decode code 912 = .ok (.iadd, 1) := by decide +kernel
theorem d_La_law_913 : decode code 913 = .ok (.iaload, 1) := by decide +kernel
theorem d_La_law_914 : decode code 914 = .ok (.aload_n 0, 1) := by decide +kernel
theorem d_La_law_915 : decode code 915 = .ok (.iload_n 3, 1) := by decide +kernel
theorem d_La_law_916 : decode code 916 = .ok (.iconst 3, 1) := by decide +kernel
theorem d_La_law_917 : decode code 917 = .ok (.iadd, 1) := by decide +kernel
theorem d_La_law_918 : decode code 918 = .ok (.iaload, 1) := by decide +kernel
theorem d_La_law_919 : decode code 919 = .ok (.i2l, 1) := by decide +kernel
theorem d_La_law_920 : decode code 920 = .ok (.bipush 32, 2) := by decide +kernel
theorem d_La_law_922 : decode code 922 = .ok (.lshl, 1) := by decide +kernel
theorem d_La_law_923 : decode code 923 = .ok (.aload_n 0, 1) := by decide +kernel
theorem d_La_law_924 : decode code 924 = .ok (.iload_n 3, 1) := by decide +kernel
theorem d_La_law_925 : decode code 925 = .ok (.iconst 4, 1) := by decide +kernel
theorem d_La_law_926 : decode code 926 = .ok (.iadd, 1) := by decide +kernel
theorem d_La_law_927 : decode code 927 = .ok (.iaload, 1) := by decide +kernel
theorem d_La_law_928 : decode code 928 = .ok (.i2l, 1) := by decide +kernel
theorem d_La_law_929 : decode code 929 = .ok (.ldc2_w 35, 3) := by decide +kernel
theorem d_La_law_932 : decode code 932 = .ok (.land, 1) := by decide +kernel
theorem d_La_law_933 : decode code 933 = .ok (.lor, 1) := by decide +kernel
theorem d_La_law_934 : decode code 934 = .ok (.invokevirtual 74, 3) := by decide +kernel
theorem d_La_law_937 : decode code 937 = .ok (.lcmp, 1) := by decide +kernel
theorem d_La_law_938 : decode code 938 = .ok (.ifCond .eq 1748, 3) := by decide +kernel
theorem d_La_law_941 : decode code 941 = .ok (.iconst 0, 1) := by decide +kernel
theorem d_La_law_942 : decode code 942 = .ok (.ireturn, 1) := by decide +kernel
def B_La_law_869 (L : Nat) (xs : Nat → Int32) (k18 : Int32 → Sto → Option (Bool × Sto)) (v3 : Int32) (σ : Sto) : Option (Bool × Sto) :=
  (if inb (v3 + (1 : Int32)) L = true then (if inb (v3 + (2 : Int32)) L = true then (if inb (v3 + (3 : Int32)) L = true then (if inb (v3 + (4 : Int32)) L = true then ((f_FR_left (xs (Int32.toNatClampNeg (v3 + (1 : Int32)))) (xs (Int32.toNatClampNeg (v3 + (2 : Int32)))) ((lsh (Int32.toInt64 (xs (Int32.toNatClampNeg (v3 + (3 : Int32))))) (32 : Int32)) ||| ((Int32.toInt64 (xs (Int32.toNatClampNeg (v3 + (4 : Int32))))) &&& (4294967295 : Int64))) σ).bind fun q25 => (if inb (v3 + (1 : Int32)) L = true then (if inb (v3 + (2 : Int32)) L = true then (if inb (v3 + (3 : Int32)) L = true then (if inb (v3 + (4 : Int32)) L = true then ((f_Mo_left (xs (Int32.toNatClampNeg (v3 + (1 : Int32)))) (xs (Int32.toNatClampNeg (v3 + (2 : Int32)))) ((lsh (Int32.toInt64 (xs (Int32.toNatClampNeg (v3 + (3 : Int32))))) (32 : Int32)) ||| ((Int32.toInt64 (xs (Int32.toNatClampNeg (v3 + (4 : Int32))))) &&& (4294967295 : Int64))) q25.2).bind fun q26 => (if q25.1 = q26.1 then B_La_law_2686 L xs k18 v3 q26.2
 else some (false, q26.2))) else none) else none) else none) else none)) else none) else none) else none) else none)
set_option maxHeartbeats 4000000 in
set_option maxRecDepth 100000 in
theorem vB_La_law_869 {X : Xt} {E : En} {L : Nat} {xs : Nat → Int32} (hX : SX X E L xs) (g : GG X E 200 code R_La 4) {k18 : Int32 → Sto → Option (Bool × Sto)} (hk18 : ∀ (v3 : Int32) (σ : Sto), VV X E code 4 eB 18 [(0, .ref (E.2.1 999)), (1, .ref (E.2.1 0)), (2, .ref (E.2.1 48)), (3, .int v3)] [] σ (k18 v3 σ)) (v3 : Int32) (σ : Sto) : VV X E code 4 eB 869 [(0, .ref (E.2.1 999)), (1, .ref (E.2.1 0)), (2, .ref (E.2.1 48)), (3, .int v3)] [] σ (B_La_law_869 L xs k18 v3 σ) := by
  unfold B_La_law_869
  refine v_aload_n 1 g d_La_law_869 rfl ?_
  refine v_aload_n 0 g d_La_law_870 rfl ?_
  refine v_iload_n 3 g d_La_law_871 rfl ?_
  refine v_iconst (v := (1 : Int32)) g d_La_law_872 (by decide +kernel) ?_
  refine v_iadd g d_La_law_873 ?_
  refine v_sld hX g d_La_law_874 (fun _ => ?_)
  refine v_aload_n 0 g d_La_law_875 rfl ?_
  refine v_iload_n 3 g d_La_law_876 rfl ?_
  refine v_iconst (v := (2 : Int32)) g d_La_law_877 (by decide +kernel) ?_
  refine v_iadd g d_La_law_878 ?_
  refine v_sld hX g d_La_law_879 (fun _ => ?_)
  refine v_aload_n 0 g d_La_law_880 rfl ?_
  refine v_iload_n 3 g d_La_law_881 rfl ?_
  refine v_iconst (v := (3 : Int32)) g d_La_law_882 (by decide +kernel) ?_
  refine v_iadd g d_La_law_883 ?_
  refine v_sld hX g d_La_law_884 (fun _ => ?_)
  refine v_i2l g d_La_law_885 ?_
  refine v_bipush (v := (32 : Int32)) g d_La_law_886 (by decide +kernel) ?_
  refine v_lshl g d_La_law_888 ?_
  refine v_aload_n 0 g d_La_law_889 rfl ?_
  refine v_iload_n 3 g d_La_law_890 rfl ?_
  refine v_iconst (v := (4 : Int32)) g d_La_law_891 (by decide +kernel) ?_
  refine v_iadd g d_La_law_892 ?_
  refine v_sld hX g d_La_law_893 (fun _ => ?_)
  refine v_i2l g d_La_law_894 ?_
  refine v_ldc2 (v := (4294967295 : Int64)) g (m1 1567 (by decide +kernel) (by decide +kernel)) d_La_law_895 ?_
  refine v_land g d_La_law_898 ?_
  refine v_lor g d_La_law_899 ?_
  refine v_callL (r_V (rest := []) [.int (xs (Int32.toNatClampNeg (v3 + (1 : Int32)))), .int (xs (Int32.toNatClampNeg (v3 + (2 : Int32)))), .long ((lsh (Int32.toInt64 (xs (Int32.toNatClampNeg (v3 + (3 : Int32))))) (32 : Int32)) ||| ((Int32.toInt64 (xs (Int32.toNatClampNeg (v3 + (4 : Int32))))) &&& (4294967295 : Int64)))] g (m1 525 (by decide +kernel) (by decide +kernel)) yv_FR_left rfl (fun r σ1 h => sp_FR_left g.2.2.1  h) rfl rfl (by decide) (Nat.le_of_ble_eq_true rfl) d_La_law_900) (fun q25 => ?_)
  refine v_aload_n 2 g d_La_law_903 rfl ?_
  refine v_aload_n 0 g d_La_law_904 rfl ?_
  refine v_iload_n 3 g d_La_law_905 rfl ?_
  refine v_iconst (v := (1 : Int32)) g d_La_law_906 (by decide +kernel) ?_
  refine v_iadd g d_La_law_907 ?_
  refine v_sld hX g d_La_law_908 (fun _ => ?_)
  refine v_aload_n 0 g d_La_law_909 rfl ?_
  refine v_iload_n 3 g d_La_law_910 rfl ?_
  refine v_iconst (v := (2 : Int32)) g d_La_law_911 (by decide +kernel) ?_
  refine v_iadd g d_La_law_912 ?_
  refine v_sld hX g d_La_law_913 (fun _ => ?_)
  refine v_aload_n 0 g d_La_law_914 rfl ?_
  refine v_iload_n 3 g d_La_law_915 rfl ?_
  refine v_iconst (v := (3 : Int32)) g d_La_law_916 (by decide +kernel) ?_
  refine v_iadd g d_La_law_917 ?_
  refine v_sld hX g d_La_law_918 (fun _ => ?_)
  refine v_i2l g d_La_law_919 ?_
  refine v_bipush (v := (32 : Int32)) g d_La_law_920 (by decide +kernel) ?_
  refine v_lshl g d_La_law_922 ?_
  refine v_aload_n 0 g d_La_law_923 rfl ?_
  refine v_iload_n 3 g d_La_law_924 rfl ?_
  refine v_iconst (v := (4 : Int32)) g d_La_law_925 (by decide +kernel) ?_
  refine v_iadd g d_La_law_926 ?_
  refine v_sld hX g d_La_law_927 (fun _ => ?_)
  refine v_i2l g d_La_law_928 ?_
  refine v_ldc2 (v := (4294967295 : Int64)) g (m1 1567 (by decide +kernel) (by decide +kernel)) d_La_law_929 ?_
  refine v_land g d_La_law_932 ?_
  refine v_lor g d_La_law_933 ?_
  refine v_callL (r_V (rest := [.long q25.1]) [.int (xs (Int32.toNatClampNeg (v3 + (1 : Int32)))), .int (xs (Int32.toNatClampNeg (v3 + (2 : Int32)))), .long ((lsh (Int32.toInt64 (xs (Int32.toNatClampNeg (v3 + (3 : Int32))))) (32 : Int32)) ||| ((Int32.toInt64 (xs (Int32.toNatClampNeg (v3 + (4 : Int32))))) &&& (4294967295 : Int64)))] g (m1 1290 (by decide +kernel) (by decide +kernel)) yv_Mo_left rfl (fun r σ1 h => sp_Mo_left g.2.2.1  h) rfl rfl (by decide) (Nat.le_of_ble_eq_true rfl) d_La_law_934) (fun q26 => ?_)
  refine v_lcmp_eq 2686 g d_La_law_937 d_La_law_938 (by decide) (fun _ => ?_) (fun _ => ?_)
  · exact v_sub [0,1,2,3] rfl (vB_La_law_2686 hX g hk18 v3 q26.2)
  · refine v_iconst (v := (0 : Int32)) g d_La_law_941 (by decide +kernel) ?_
    exact v_ret d_La_law_942 rfl
theorem d_La_law_943 : decode code 943 = .ok (.aload_n 1, 1) := by decide +kernel
theorem d_La_law_944 : decode code 944 = .ok (.aload_n 0, 1) := by decide +kernel
theorem d_La_law_945 : decode code 945 = .ok (.iload_n 3, 1) := by decide +kernel
theorem d_La_law_946 : decode code 946 = .ok (.iconst 1, 1) := by decide +kernel
theorem d_La_law_947 : decode code 947 = .ok (.iadd, 1) := by decide +kernel
theorem d_La_law_948 : decode code 948 = .ok (.iaload, 1) := by decide +kernel
theorem d_La_law_949 : decode code 949 = .ok (.aload_n 0, 1) := by decide +kernel
theorem d_La_law_950 : decode code 950 = .ok (.iload_n 3, 1) := by decide +kernel
theorem d_La_law_951 : decode code 951 = .ok (.iconst 2, 1) := by decide +kernel
theorem d_La_law_952 : decode code 952 = .ok (.iadd, 1) := by decide +kernel
theorem d_La_law_953 : decode code 953 = .ok (.iaload, 1) := by decide +kernel
theorem d_La_law_954 : decode code 954 = .ok (.aload_n 0, 1) := by decide +kernel
theorem d_La_law_955 : decode code 955 = .ok (.iload_n 3, 1) := by decide +kernel
theorem d_La_law_956 : decode code 956 = .ok (.iconst 3, 1) := by decide +kernel
theorem d_La_law_957 : decode code 957 = .ok (.iadd, 1) := by decide +kernel
theorem d_La_law_958 : decode code 958 = .ok (.iaload, 1) := by decide +kernel
theorem d_La_law_959 : decode code 959 = .ok (.aload_n 0, 1) := by decide +kernel
theorem d_La_law_960 : decode code 960 = .ok (.iload_n 3, 1) := by decide +kernel
theorem d_La_law_961 : decode code 961 = .ok (.iconst 4, 1) := by decide +kernel
theorem d_La_law_962 : decode code 962 = .ok (.iadd, 1) := by decide +kernel
theorem d_La_law_963 : decode code 963 = .ok (.iaload, 1) := by decide +kernel
theorem d_La_law_964 : decode code 964 = .ok (.i2l, 1) := by decide +kernel
theorem d_La_law_965 : decode code 965 = .ok (.bipush 32, 2) := by decide +kernel
theorem d_La_law_967 : decode code 967 = .ok (.lshl, 1) := by decide +kernel
theorem d_La_law_968 : decode code 968 = .ok (.aload_n 0, 1) := by decide +kernel
theorem d_La_law_969 : decode code 969 = .ok (.iload_n 3, 1) := by decide +kernel
theorem d_La_law_970 : decode code 970 = .ok (.iconst 5, 1) := by decide +kernel
theorem d_La_law_971 : decode code 971 = .ok (.iadd, 1) := by decide +kernel
theorem d_La_law_972 : decode code 972 = .ok (.iaload, 1) := by decide +kernel
theorem d_La_law_973 : decode code 973 = .ok (.i2l, 1) := by decide +kernel
theorem d_La_law_974 : decode code 974 = .ok (.ldc2_w 35, 3) := by decide +kernel
theorem d_La_law_977 : decode code 977 = .ok (.land, 1) := by decide +kernel
theorem d_La_law_978 : decode code 978 = .ok (.lor, 1) := by decide +kernel
theorem d_La_law_979 : decode code 979 = .ok (.invokevirtual 75, 3) := by decide +kernel
theorem d_La_law_982 : decode code 982 = .ok (.aload_n 2, 1) := by decide +kernel
theorem d_La_law_983 : decode code 983 = .ok (.aload_n 0, 1) := by decide +kernel
theorem d_La_law_984 : decode code 984 = .ok (.iload_n 3, 1) := by decide +kernel
theorem d_La_law_985 : decode code 985 = .ok (.iconst 1, 1) := by decide +kernel
theorem d_La_law_986 : decode code 986 = .ok (.iadd, 1) := by decide +kernel
theorem d_La_law_987 : decode code 987 = .ok (.iaload, 1) := by decide +kernel
theorem d_La_law_988 : decode code 988 = .ok (.aload_n 0, 1) := by decide +kernel
theorem d_La_law_989 : decode code 989 = .ok (.iload_n 3, 1) := by decide +kernel
theorem d_La_law_990 : decode code 990 = .ok (.iconst 2, 1) := by decide +kernel
theorem d_La_law_991 : decode code 991 = .ok (.iadd, 1) := by decide +kernel
theorem d_La_law_992 : decode code 992 = .ok (.iaload, 1) := by decide +kernel
theorem d_La_law_993 : decode code 993 = .ok (.aload_n 0, 1) := by decide +kernel
theorem d_La_law_994 : decode code 994 = .ok (.iload_n 3, 1) := by decide +kernel
theorem d_La_law_995 : decode code 995 = .ok (.iconst 3, 1) := by decide +kernel
theorem d_La_law_996 : decode code 996 = .ok (.iadd, 1) := by decide +kernel
theorem d_La_law_997 : decode code 997 = .ok (.iaload, 1) := by decide +kernel
theorem d_La_law_998 : decode code 998 = .ok (.aload_n 0, 1) := by decide +kernel
theorem d_La_law_999 : decode code 999 = .ok (.iload_n 3, 1) := by decide +kernel
theorem d_La_law_1000 : decode code 1000 = .ok (.iconst 4, 1) := by decide +kernel
theorem d_La_law_1001 : decode code 1001 = .ok (.iadd, 1) := by decide +kernel
theorem d_La_law_1002 : decode code 1002 = .ok (.iaload, 1) := by decide +kernel
theorem d_La_law_1003 : decode code 1003 = .ok (.i2l, 1) := by decide +kernel
theorem d_La_law_1004 : decode code 1004 = .ok (.bipush 32, 2) := by decide +kernel
theorem d_La_law_1006 : decode code 1006 = .ok (.lshl, 1) := by decide +kernel
theorem d_La_law_1007 : decode code 1007 = .ok (.aload_n 0, 1) := by decide +kernel
theorem d_La_law_1008 : decode code 1008 = .ok (.iload_n 3, 1) := by decide +kernel
theorem d_La_law_1009 : decode code 1009 = .ok (.iconst 5, 1) := by decide +kernel
theorem d_La_law_1010 : decode code 1010 = .ok (.iadd, 1) := by decide +kernel
theorem d_La_law_1011 : decode code 1011 = .ok (.iaload, 1) := by decide +kernel
theorem d_La_law_1012 : decode code 1012 = .ok (.i2l, 1) := by decide +kernel
theorem d_La_law_1013 : decode code 1013 = .ok (.ldc2_w 35, 3) := by decide +kernel
theorem d_La_law_1016 : decode code 1016 = .ok (.land, 1) := by decide +kernel
theorem d_La_law_1017 : decode code 1017 = .ok (.lor, 1) := by decide +kernel
theorem d_La_law_1018 : decode code 1018 = .ok (.invokevirtual 79, 3) := by decide +kernel
theorem d_La_law_1021 : decode code 1021 = .ok (.if_icmp .eq 1665, 3) := by decide +kernel
theorem d_La_law_1024 : decode code 1024 = .ok (.iconst 0, 1) := by decide +kernel
theorem d_La_law_1025 : decode code 1025 = .ok (.ireturn, 1) := by decide +kernel
def B_La_law_943 (L : Nat) (xs : Nat → Int32) (k18 : Int32 → Sto → Option (Bool × Sto)) (v3 : Int32) (σ : Sto) : Option (Bool × Sto) :=
  (if inb (v3 + (1 : Int32)) L = true then (if inb (v3 + (2 : Int32)) L = true then (if inb (v3 + (3 : Int32)) L = true then (if inb (v3 + (4 : Int32)) L = true then (if inb (v3 + (5 : Int32)) L = true then ((f_FR_bound (xs (Int32.toNatClampNeg (v3 + (1 : Int32)))) (xs (Int32.toNatClampNeg (v3 + (2 : Int32)))) (xs (Int32.toNatClampNeg (v3 + (3 : Int32)))) ((lsh (Int32.toInt64 (xs (Int32.toNatClampNeg (v3 + (4 : Int32))))) (32 : Int32)) ||| ((Int32.toInt64 (xs (Int32.toNatClampNeg (v3 + (5 : Int32))))) &&& (4294967295 : Int64))) σ).bind fun q27 => (if inb (v3 + (1 : Int32)) L = true then (if inb (v3 + (2 : Int32)) L = true then (if inb (v3 + (3 : Int32)) L = true then (if inb (v3 + (4 : Int32)) L = true then (if inb (v3 + (5 : Int32)) L = true then ((f_Mo_bound (xs (Int32.toNatClampNeg (v3 + (1 : Int32)))) (xs (Int32.toNatClampNeg (v3 + (2 : Int32)))) (xs (Int32.toNatClampNeg (v3 + (3 : Int32)))) ((lsh (Int32.toInt64 (xs (Int32.toNatClampNeg (v3 + (4 : Int32))))) (32 : Int32)) ||| ((Int32.toInt64 (xs (Int32.toNatClampNeg (v3 + (5 : Int32))))) &&& (4294967295 : Int64))) q27.2).bind fun q28 => (if q27.1 = q28.1 then B_La_law_2686 L xs k18 v3 q28.2
 else some (false, q28.2))) else none) else none) else none) else none) else none)) else none) else none) else none) else none) else none)
set_option maxHeartbeats 4000000 in
set_option maxRecDepth 100000 in
theorem vB_La_law_943 {X : Xt} {E : En} {L : Nat} {xs : Nat → Int32} (hX : SX X E L xs) (g : GG X E 200 code R_La 4) {k18 : Int32 → Sto → Option (Bool × Sto)} (hk18 : ∀ (v3 : Int32) (σ : Sto), VV X E code 4 eB 18 [(0, .ref (E.2.1 999)), (1, .ref (E.2.1 0)), (2, .ref (E.2.1 48)), (3, .int v3)] [] σ (k18 v3 σ)) (v3 : Int32) (σ : Sto) : VV X E code 4 eB 943 [(0, .ref (E.2.1 999)), (1, .ref (E.2.1 0)), (2, .ref (E.2.1 48)), (3, .int v3)] [] σ (B_La_law_943 L xs k18 v3 σ) := by
  unfold B_La_law_943
  refine v_aload_n 1 g d_La_law_943 rfl ?_
  refine v_aload_n 0 g d_La_law_944 rfl ?_
  refine v_iload_n 3 g d_La_law_945 rfl ?_
  refine v_iconst (v := (1 : Int32)) g d_La_law_946 (by decide +kernel) ?_
  refine v_iadd g d_La_law_947 ?_
  refine v_sld hX g d_La_law_948 (fun _ => ?_)
  refine v_aload_n 0 g d_La_law_949 rfl ?_
  refine v_iload_n 3 g d_La_law_950 rfl ?_
  refine v_iconst (v := (2 : Int32)) g d_La_law_951 (by decide +kernel) ?_
  refine v_iadd g d_La_law_952 ?_
  refine v_sld hX g d_La_law_953 (fun _ => ?_)
  refine v_aload_n 0 g d_La_law_954 rfl ?_
  refine v_iload_n 3 g d_La_law_955 rfl ?_
  refine v_iconst (v := (3 : Int32)) g d_La_law_956 (by decide +kernel) ?_
  refine v_iadd g d_La_law_957 ?_
  refine v_sld hX g d_La_law_958 (fun _ => ?_)
  refine v_aload_n 0 g d_La_law_959 rfl ?_
  refine v_iload_n 3 g d_La_law_960 rfl ?_
  refine v_iconst (v := (4 : Int32)) g d_La_law_961 (by decide +kernel) ?_
  refine v_iadd g d_La_law_962 ?_
  refine v_sld hX g d_La_law_963 (fun _ => ?_)
  refine v_i2l g d_La_law_964 ?_
  refine v_bipush (v := (32 : Int32)) g d_La_law_965 (by decide +kernel) ?_
  refine v_lshl g d_La_law_967 ?_
  refine v_aload_n 0 g d_La_law_968 rfl ?_
  refine v_iload_n 3 g d_La_law_969 rfl ?_
  refine v_iconst (v := (5 : Int32)) g d_La_law_970 (by decide +kernel) ?_
  refine v_iadd g d_La_law_971 ?_
  refine v_sld hX g d_La_law_972 (fun _ => ?_)
  refine v_i2l g d_La_law_973 ?_
  refine v_ldc2 (v := (4294967295 : Int64)) g (m1 1567 (by decide +kernel) (by decide +kernel)) d_La_law_974 ?_
  refine v_land g d_La_law_977 ?_
  refine v_lor g d_La_law_978 ?_
  refine v_callI (r_V (rest := []) [.int (xs (Int32.toNatClampNeg (v3 + (1 : Int32)))), .int (xs (Int32.toNatClampNeg (v3 + (2 : Int32)))), .int (xs (Int32.toNatClampNeg (v3 + (3 : Int32)))), .long ((lsh (Int32.toInt64 (xs (Int32.toNatClampNeg (v3 + (4 : Int32))))) (32 : Int32)) ||| ((Int32.toInt64 (xs (Int32.toNatClampNeg (v3 + (5 : Int32))))) &&& (4294967295 : Int64)))] g (m1 541 (by decide +kernel) (by decide +kernel)) yv_FR_bound rfl (fun r σ1 h => sp_FR_bound g.2.2.1  h) rfl rfl (by decide) (Nat.le_of_ble_eq_true rfl) d_La_law_979) (fun q27 => ?_)
  refine v_aload_n 2 g d_La_law_982 rfl ?_
  refine v_aload_n 0 g d_La_law_983 rfl ?_
  refine v_iload_n 3 g d_La_law_984 rfl ?_
  refine v_iconst (v := (1 : Int32)) g d_La_law_985 (by decide +kernel) ?_
  refine v_iadd g d_La_law_986 ?_
  refine v_sld hX g d_La_law_987 (fun _ => ?_)
  refine v_aload_n 0 g d_La_law_988 rfl ?_
  refine v_iload_n 3 g d_La_law_989 rfl ?_
  refine v_iconst (v := (2 : Int32)) g d_La_law_990 (by decide +kernel) ?_
  refine v_iadd g d_La_law_991 ?_
  refine v_sld hX g d_La_law_992 (fun _ => ?_)
  refine v_aload_n 0 g d_La_law_993 rfl ?_
  refine v_iload_n 3 g d_La_law_994 rfl ?_
  refine v_iconst (v := (3 : Int32)) g d_La_law_995 (by decide +kernel) ?_
  refine v_iadd g d_La_law_996 ?_
  refine v_sld hX g d_La_law_997 (fun _ => ?_)
  refine v_aload_n 0 g d_La_law_998 rfl ?_
  refine v_iload_n 3 g d_La_law_999 rfl ?_
  refine v_iconst (v := (4 : Int32)) g d_La_law_1000 (by decide +kernel) ?_
  refine v_iadd g d_La_law_1001 ?_
  refine v_sld hX g d_La_law_1002 (fun _ => ?_)
  refine v_i2l g d_La_law_1003 ?_
  refine v_bipush (v := (32 : Int32)) g d_La_law_1004 (by decide +kernel) ?_
  refine v_lshl g d_La_law_1006 ?_
  refine v_aload_n 0 g d_La_law_1007 rfl ?_
  refine v_iload_n 3 g d_La_law_1008 rfl ?_
  refine v_iconst (v := (5 : Int32)) g d_La_law_1009 (by decide +kernel) ?_
  refine v_iadd g d_La_law_1010 ?_
  refine v_sld hX g d_La_law_1011 (fun _ => ?_)
  refine v_i2l g d_La_law_1012 ?_
  refine v_ldc2 (v := (4294967295 : Int64)) g (m1 1567 (by decide +kernel) (by decide +kernel)) d_La_law_1013 ?_
  refine v_land g d_La_law_1016 ?_
  refine v_lor g d_La_law_1017 ?_
  refine v_callI (r_V (rest := [.int q27.1]) [.int (xs (Int32.toNatClampNeg (v3 + (1 : Int32)))), .int (xs (Int32.toNatClampNeg (v3 + (2 : Int32)))), .int (xs (Int32.toNatClampNeg (v3 + (3 : Int32)))), .long ((lsh (Int32.toInt64 (xs (Int32.toNatClampNeg (v3 + (4 : Int32))))) (32 : Int32)) ||| ((Int32.toInt64 (xs (Int32.toNatClampNeg (v3 + (5 : Int32))))) &&& (4294967295 : Int64)))] g (m1 1298 (by decide +kernel) (by decide +kernel)) yv_Mo_bound rfl (fun r σ1 h => sp_Mo_bound g.2.2.1  h) rfl rfl (by decide) (Nat.le_of_ble_eq_true rfl) d_La_law_1018) (fun q28 => ?_)
  refine v_icmp_eq 2686 g d_La_law_1021 (by decide) (fun _ => ?_) (fun _ => ?_)
  · exact v_sub [0,1,2,3] rfl (vB_La_law_2686 hX g hk18 v3 q28.2)
  · refine v_iconst (v := (0 : Int32)) g d_La_law_1024 (by decide +kernel) ?_
    exact v_ret d_La_law_1025 rfl
