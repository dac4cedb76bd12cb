/-! the law, by program out of the bytecode (wip/whole/gen/gl.py) -/
set_option maxRecDepth 20000 in
set_option maxHeartbeats 4000000 in
theorem w_law_c0 {p : Program} {l : Launch} {e : Env} {s : State} {m : MethodId} {args : Array Value} {below : List Frame} {meth : Method} {c : Code} {D : va_G} {cs : Nat → ClassId} {ad : Nat → Nat} {b0 : Nat} {Q : State → Prop} {ret9 : Option FieldType} {b L : Nat} {xs : Nat → Int32} {i k : Nat} {V W9 : VT} (C : Ctx p l s m args meth c D cs ad b0 RL cL_law 9 ret9) (hX : va_X b L xs s s.heap) (hbl : b < b0) (hL : L < 2 ^ 31) (hi : i + 4 ≤ L) (hk : k ≤ 600000) {x1 x2 x3 : Int32} (e1 : xs (i + 1) = x1) (e2 : xs (i + 2) = x2) (e3 : xs (i + 3) = x3) (h : d_law_c0 x1 x2 x3 V = some W9) (kk : AW p l e room_1 s m args below meth c D cs ad b0 Q 9 (k + 8) W9 [(0, .ref b), (1, .ref (ad 0)), (2, .ref (ad 109)), (3, .ref (ad 118)), (4, .ref (ad 119)), (5, .int (nI i))] [] 1956) : AW p l e room_1 s m args below meth c D cs ad b0 Q 9 k V [(0, .ref b), (1, .ref (ad 0)), (2, .ref (ad 109)), (3, .ref (ad 118)), (4, .ref (ad 119)), (5, .int (nI i))] [] 204 := by
  unfold d_law_c0 at h
  subst e1 e2 e3
  refine a_aload_n (q := 1) C dL_law_204 rfl rfl ?_
  refine a_aload_n (q := 0) C dL_law_205 rfl rfl ?_
  refine a_iload (q := 5) C dL_law_206 rfl ?_
  refine a_iconst (v := (1 : Int32)) C dL_law_208 rfl ?_
  refine a_iadd C dL_law_209 ?_
  refine a_sld C hX hbl (nI_add i 1) (show i + 1 < L by omega) hL dL_law_210 ?_
  show AW p l e room_1 s m args below meth c D cs ad b0 Q 9 k V [(0, .ref b), (1, .ref (ad 0)), (2, .ref (ad 109)), (3, .ref (ad 118)), (4, .ref (ad 119)), (5, .int (nI i))] [.int (xs (i + 1)), .ref (ad 0)] _
  refine a_aload_n (q := 3) C dL_law_211 rfl rfl ?_
  obtain ⟨r2, V3, g1, h⟩ := bw_spec h
  refine a_cSX (st := []) (k' := 2) C dL_law_212 cx_RL_119 (w_L_country (xs (i + 1)) V r2 V3 g1) rfl rfl rfl ⟨Nat.le_of_ble_eq_true rfl, Nat.le_of_ble_eq_true rfl, by show _ ≤ 603072; omega, by show _ ≤ 7223402; omega⟩ (Nat.le_of_ble_eq_true rfl) ?_
  refine a_istore (lv' := [(6, .int r2), (0, .ref b), (1, .ref (ad 0)), (2, .ref (ad 109)), (3, .ref (ad 118)), (4, .ref (ad 119)), (5, .int (nI i))]) C dL_law_215 (by decide) rfl ?_
  refine a_aload_n (q := 3) C dL_law_217 rfl rfl ?_
  refine a_aload_n (q := 1) C dL_law_218 rfl rfl ?_
  refine a_iload (q := 6) C dL_law_219 rfl ?_
  refine a_iconst (v := (1 : Int32)) C dL_law_221 rfl ?_
  refine a_iadd C dL_law_222 ?_
  refine a_sld C hX hbl (nI_add i 1) (show i + 1 < L by omega) hL dL_law_223 ?_
  show AW p l e room_1 s m args below meth c D cs ad b0 Q 9 (k + 2) V3 [(6, .int r2), (0, .ref b), (1, .ref (ad 0)), (2, .ref (ad 109)), (3, .ref (ad 118)), (4, .ref (ad 119)), (5, .int (nI i))] [.int (xs (i + 1)), .ref (ad 109)] _
  obtain ⟨r5, V6, g4, h⟩ := bw_spec h
  refine a_cVi (a := 109) (st := []) C dL_law_224 cv_RL_124 (w_X5_country (xs (i + 1)) V3 r5 V6 g4) rfl rfl rfl rfl rfl ⟨Nat.le_of_ble_eq_true rfl, Nat.le_of_ble_eq_true rfl, by show _ ≤ 603072; omega, by show _ ≤ 7223402; omega⟩ (Nat.le_of_ble_eq_true rfl) ?_
  refine a_istore (lv' := [(7, .int r5), (6, .int r2), (0, .ref b), (1, .ref (ad 0)), (2, .ref (ad 109)), (3, .ref (ad 118)), (4, .ref (ad 119)), (5, .int (nI i))]) C dL_law_227 (by decide) rfl ?_
  refine a_aload_n (q := 4) C dL_law_229 rfl rfl ?_
  obtain ⟨r8, g7, h⟩ := bd_spec h
  refine a_cVi (a := 109) (st := []) C dL_law_230 cv_RL_125 (w_X5_thrown  V6 r8 g7) rfl rfl rfl rfl rfl ⟨Nat.le_of_ble_eq_true rfl, Nat.le_of_ble_eq_true rfl, by show _ ≤ 603072; omega, by show _ ≤ 7223402; omega⟩ (Nat.le_of_ble_eq_true rfl) ?_
  refine a_iload (q := 1) C dL_law_233 rfl ?_
  refine a_icmp_eq (tgt := 240) C dL_law_235 (by decide) (fun c9 => ?_) (fun c9 => ?_)
  · have h := it_t c9 h
    refine a_iload (q := 1) C dL_law_240 rfl ?_
    refine a_if_ne (tgt := 257) C dL_law_242 (by decide) (fun c10 => ?_) (fun c10 => ?_)
    · have h := it_f c10 h
      refine a_goto (tgt := 1956) C dL_law_257 (by decide) ?_
      obtain rfl := ret1 h
      refine a_sub (lv' := [(0, .ref b), (1, .ref (ad 0)), (2, .ref (ad 109)), (3, .ref (ad 118)), (4, .ref (ad 119)), (5, .int (nI i))]) [2, 3, 4, 5, 6, 7] rfl ?_
      refine a_wid (k' := k + 8) (by omega) ?_
      exact kk
    · have h := it_t c10 h
      refine a_aload_n (q := 5) C dL_law_245 rfl rfl ?_
      refine a_iconst (v := (0 : Int32)) C dL_law_246 rfl ?_
      refine a_lald (a := 118) C dL_law_247 rfl (in_lit (by decide)) ?_
      refine a_iload (q := 0) C dL_law_248 rfl ?_
      refine a_i2l (v := (r5).toInt64) C dL_law_250 rfl ?_
      by_cases c11 : (V6 118 (0 : Int32).toNatClampNeg) = r5
      · have h := it_t c11 h
        refine a_lcmpE (x := (V6 118 (0 : Int32).toNatClampNeg)) (y := r5) C c11 dL_law_251 ?_
        refine a_if_eq (tgt := 257) C dL_law_252 (by decide) (fun _ => ?_) (fun q => absurd rfl q)
        refine a_goto (tgt := 1956) C dL_law_257 (by decide) ?_
        obtain rfl := ret1 h
        refine a_sub (lv' := [(0, .ref b), (1, .ref (ad 0)), (2, .ref (ad 109)), (3, .ref (ad 118)), (4, .ref (ad 119)), (5, .int (nI i))]) [2, 3, 4, 5, 6, 7] rfl ?_
        refine a_wid (k' := k + 8) (by omega) ?_
        exact kk
      · have h := it_f c11 h
        cases h
  · have h := it_f c9 h
    cases h
set_option maxRecDepth 20000 in
set_option maxHeartbeats 4000000 in
theorem w_law_c1 {p : Program} {l : Launch} {e : Env} {s : State} {m : MethodId} {args : Array Value} {below : List Frame} {meth : Method} {c : Code} {D : va_G} {cs : Nat → ClassId} {ad : Nat → Nat} {b0 : Nat} {Q : State → Prop} {ret9 : Option FieldType} {b L : Nat} {xs : Nat → Int32} {i k : Nat} {V W9 : VT} (C : Ctx p l s m args meth c D cs ad b0 RL cL_law 9 ret9) (hX : va_X b L xs s s.heap) (hbl : b < b0) (hL : L < 2 ^ 31) (hi : i + 4 ≤ L) (hk : k ≤ 600000) {x1 x2 x3 : Int32} (e1 : xs (i + 1) = x1) (e2 : xs (i + 2) = x2) (e3 : xs (i + 3) = x3) (h : d_law_c1 x1 x2 x3 V = some W9) (kk : AW p l e room_1 s m args below meth c D cs ad b0 Q 9 (k + 8) W9 [(0, .ref b), (1, .ref (ad 0)), (2, .ref (ad 109)), (3, .ref (ad 118)), (4, .ref (ad 119)), (5, .int (nI i))] [] 1956) : AW p l e room_1 s m args below meth c D cs ad b0 Q 9 k V [(0, .ref b), (1, .ref (ad 0)), (2, .ref (ad 109)), (3, .ref (ad 118)), (4, .ref (ad 119)), (5, .int (nI i))] [] 260 := by
  unfold d_law_c1 at h
  subst e1 e2 e3
  refine a_aload_n (q := 1) C dL_law_260 rfl rfl ?_
  refine a_aload_n (q := 0) C dL_law_261 rfl rfl ?_
  refine a_iload (q := 5) C dL_law_262 rfl ?_
  refine a_iconst (v := (1 : Int32)) C dL_law_264 rfl ?_
  refine a_iadd C dL_law_265 ?_
  refine a_sld C hX hbl (nI_add i 1) (show i + 1 < L by omega) hL dL_law_266 ?_
  show AW p l e room_1 s m args below meth c D cs ad b0 Q 9 k V [(0, .ref b), (1, .ref (ad 0)), (2, .ref (ad 109)), (3, .ref (ad 118)), (4, .ref (ad 119)), (5, .int (nI i))] [.int (xs (i + 1)), .ref (ad 0)] _
  refine a_aload_n (q := 0) C dL_law_267 rfl rfl ?_
  refine a_iload (q := 5) C dL_law_268 rfl ?_
  refine a_iconst (v := (2 : Int32)) C dL_law_270 rfl ?_
  refine a_iadd C dL_law_271 ?_
  refine a_sld C hX hbl (nI_add i 2) (show i + 2 < L by omega) hL dL_law_272 ?_
  show AW p l e room_1 s m args below meth c D cs ad b0 Q 9 k V [(0, .ref b), (1, .ref (ad 0)), (2, .ref (ad 109)), (3, .ref (ad 118)), (4, .ref (ad 119)), (5, .int (nI i))] [.int (xs (i + 2)), .int (xs (i + 1)), .ref (ad 0)] _
  refine a_aload_n (q := 3) C dL_law_273 rfl rfl ?_
  obtain ⟨r2, V3, g1, h⟩ := bw_spec h
  refine a_cSX (st := []) (k' := 3) C dL_law_274 cx_RL_128 (w_L_border (xs (i + 1)) (xs (i + 2)) V r2 V3 g1) rfl rfl rfl ⟨Nat.le_of_ble_eq_true rfl, Nat.le_of_ble_eq_true rfl, by show _ ≤ 603072; omega, by show _ ≤ 7223402; omega⟩ (Nat.le_of_ble_eq_true rfl) ?_
  refine a_istore (lv' := [(6, .int r2), (0, .ref b), (1, .ref (ad 0)), (2, .ref (ad 109)), (3, .ref (ad 118)), (4, .ref (ad 119)), (5, .int (nI i))]) C dL_law_277 (by decide) rfl ?_
  refine a_aload_n (q := 3) C dL_law_279 rfl rfl ?_
  refine a_aload_n (q := 1) C dL_law_280 rfl rfl ?_
  refine a_iload (q := 6) C dL_law_281 rfl ?_
  refine a_iconst (v := (1 : Int32)) C dL_law_283 rfl ?_
  refine a_iadd C dL_law_284 ?_
  refine a_sld C hX hbl (nI_add i 1) (show i + 1 < L by omega) hL dL_law_285 ?_
  show AW p l e room_1 s m args below meth c D cs ad b0 Q 9 (k + 3) V3 [(6, .int r2), (0, .ref b), (1, .ref (ad 0)), (2, .ref (ad 109)), (3, .ref (ad 118)), (4, .ref (ad 119)), (5, .int (nI i))] [.int (xs (i + 1)), .ref (ad 109)] _
  refine a_aload_n (q := 1) C dL_law_286 rfl rfl ?_
  refine a_iload (q := 6) C dL_law_287 rfl ?_
  refine a_iconst (v := (2 : Int32)) C dL_law_289 rfl ?_
  refine a_iadd C dL_law_290 ?_
  refine a_sld C hX hbl (nI_add i 2) (show i + 2 < L by omega) hL dL_law_291 ?_
  show AW p l e room_1 s m args below meth c D cs ad b0 Q 9 (k + 3) V3 [(6, .int r2), (0, .ref b), (1, .ref (ad 0)), (2, .ref (ad 109)), (3, .ref (ad 118)), (4, .ref (ad 119)), (5, .int (nI i))] [.int (xs (i + 2)), .int (xs (i + 1)), .ref (ad 109)] _
  obtain ⟨r5, V6, g4, h⟩ := bw_spec h
  refine a_cVi (a := 109) (st := []) C dL_law_292 cv_RL_131 (w_X5_border (xs (i + 1)) (xs (i + 2)) V3 r5 V6 g4) rfl rfl rfl rfl rfl ⟨Nat.le_of_ble_eq_true rfl, Nat.le_of_ble_eq_true rfl, by show _ ≤ 603072; omega, by show _ ≤ 7223402; omega⟩ (Nat.le_of_ble_eq_true rfl) ?_
  refine a_istore (lv' := [(7, .int r5), (6, .int r2), (0, .ref b), (1, .ref (ad 0)), (2, .ref (ad 109)), (3, .ref (ad 118)), (4, .ref (ad 119)), (5, .int (nI i))]) C dL_law_295 (by decide) rfl ?_
  refine a_aload_n (q := 4) C dL_law_297 rfl rfl ?_
  obtain ⟨r8, g7, h⟩ := bd_spec h
  refine a_cVi (a := 109) (st := []) C dL_law_298 cv_RL_125 (w_X5_thrown  V6 r8 g7) rfl rfl rfl rfl rfl ⟨Nat.le_of_ble_eq_true rfl, Nat.le_of_ble_eq_true rfl, by show _ ≤ 603072; omega, by show _ ≤ 7223402; omega⟩ (Nat.le_of_ble_eq_true rfl) ?_
  refine a_iload (q := 1) C dL_law_301 rfl ?_
  refine a_icmp_eq (tgt := 308) C dL_law_303 (by decide) (fun c9 => ?_) (fun c9 => ?_)
  · have h := it_t c9 h
    refine a_iload (q := 1) C dL_law_308 rfl ?_
    refine a_if_ne (tgt := 325) C dL_law_310 (by decide) (fun c10 => ?_) (fun c10 => ?_)
    · have h := it_f c10 h
      refine a_goto (tgt := 1956) C dL_law_325 (by decide) ?_
      obtain rfl := ret1 h
      refine a_sub (lv' := [(0, .ref b), (1, .ref (ad 0)), (2, .ref (ad 109)), (3, .ref (ad 118)), (4, .ref (ad 119)), (5, .int (nI i))]) [2, 3, 4, 5, 6, 7] rfl ?_
      refine a_wid (k' := k + 8) (by omega) ?_
      exact kk
    · have h := it_t c10 h
      refine a_aload_n (q := 5) C dL_law_313 rfl rfl ?_
      refine a_iconst (v := (0 : Int32)) C dL_law_314 rfl ?_
      refine a_lald (a := 118) C dL_law_315 rfl (in_lit (by decide)) ?_
      refine a_iload (q := 0) C dL_law_316 rfl ?_
      refine a_i2l (v := (r5).toInt64) C dL_law_318 rfl ?_
      by_cases c11 : (V6 118 (0 : Int32).toNatClampNeg) = r5
      · have h := it_t c11 h
        refine a_lcmpE (x := (V6 118 (0 : Int32).toNatClampNeg)) (y := r5) C c11 dL_law_319 ?_
        refine a_if_eq (tgt := 325) C dL_law_320 (by decide) (fun _ => ?_) (fun q => absurd rfl q)
        refine a_goto (tgt := 1956) C dL_law_325 (by decide) ?_
        obtain rfl := ret1 h
        refine a_sub (lv' := [(0, .ref b), (1, .ref (ad 0)), (2, .ref (ad 109)), (3, .ref (ad 118)), (4, .ref (ad 119)), (5, .int (nI i))]) [2, 3, 4, 5, 6, 7] rfl ?_
        refine a_wid (k' := k + 8) (by omega) ?_
        exact kk
      · have h := it_f c11 h
        cases h
  · have h := it_f c9 h
    cases h
set_option maxRecDepth 20000 in
set_option maxHeartbeats 4000000 in
theorem w_law_c2 {p : Program} {l : Launch} {e : Env} {s : State} {m : MethodId} {args : Array Value} {below : List Frame} {meth : Method} {c : Code} {D : va_G} {cs : Nat → ClassId} {ad : Nat → Nat} {b0 : Nat} {Q : State → Prop} {ret9 : Option FieldType} {b L : Nat} {xs : Nat → Int32} {i k : Nat} {V W9 : VT} (C : Ctx p l s m args meth c D cs ad b0 RL cL_law 9 ret9) (hX : va_X b L xs s s.heap) (hbl : b < b0) (hL : L < 2 ^ 31) (hi : i + 4 ≤ L) (hk : k ≤ 600000) {x1 x2 x3 : Int32} (e1 : xs (i + 1) = x1) (e2 : xs (i + 2) = x2) (e3 : xs (i + 3) = x3) (h : d_law_c2 x1 x2 x3 V = some W9) (kk : AW p l e room_1 s m args below meth c D cs ad b0 Q 9 (k + 8) W9 [(0, .ref b), (1, .ref (ad 0)), (2, .ref (ad 109)), (3, .ref (ad 118)), (4, .ref (ad 119)), (5, .int (nI i))] [] 1956) : AW p l e room_1 s m args below meth c D cs ad b0 Q 9 k V [(0, .ref b), (1, .ref (ad 0)), (2, .ref (ad 109)), (3, .ref (ad 118)), (4, .ref (ad 119)), (5, .int (nI i))] [] 328 := by
  unfold d_law_c2 at h
  subst e1 e2 e3
  refine a_aload_n (q := 1) C dL_law_328 rfl rfl ?_
  refine a_aload_n (q := 0) C dL_law_329 rfl rfl ?_
  refine a_iload (q := 5) C dL_law_330 rfl ?_
  refine a_iconst (v := (1 : Int32)) C dL_law_332 rfl ?_
  refine a_iadd C dL_law_333 ?_
  refine a_sld C hX hbl (nI_add i 1) (show i + 1 < L by omega) hL dL_law_334 ?_
  show AW p l e room_1 s m args below meth c D cs ad b0 Q 9 k V [(0, .ref b), (1, .ref (ad 0)), (2, .ref (ad 109)), (3, .ref (ad 118)), (4, .ref (ad 119)), (5, .int (nI i))] [.int (xs (i + 1)), .ref (ad 0)] _
  refine a_aload_n (q := 0) C dL_law_335 rfl rfl ?_
  refine a_iload (q := 5) C dL_law_336 rfl ?_
  refine a_iconst (v := (2 : Int32)) C dL_law_338 rfl ?_
  refine a_iadd C dL_law_339 ?_
  refine a_sld C hX hbl (nI_add i 2) (show i + 2 < L by omega) hL dL_law_340 ?_
  show AW p l e room_1 s m args below meth c D cs ad b0 Q 9 k V [(0, .ref b), (1, .ref (ad 0)), (2, .ref (ad 109)), (3, .ref (ad 118)), (4, .ref (ad 119)), (5, .int (nI i))] [.int (xs (i + 2)), .int (xs (i + 1)), .ref (ad 0)] _
  refine a_aload_n (q := 3) C dL_law_341 rfl rfl ?_
  obtain ⟨r2, V3, g1, h⟩ := bw_spec h
  refine a_cSX (st := []) (k' := 3) C dL_law_342 cx_RL_132 (w_L_erase (xs (i + 1)) (xs (i + 2)) V r2 V3 g1) rfl rfl rfl ⟨Nat.le_of_ble_eq_true rfl, Nat.le_of_ble_eq_true rfl, by show _ ≤ 603072; omega, by show _ ≤ 7223402; omega⟩ (Nat.le_of_ble_eq_true rfl) ?_
  refine a_istore (lv' := [(6, .int r2), (0, .ref b), (1, .ref (ad 0)), (2, .ref (ad 109)), (3, .ref (ad 118)), (4, .ref (ad 119)), (5, .int (nI i))]) C dL_law_345 (by decide) rfl ?_
  refine a_aload_n (q := 3) C dL_law_347 rfl rfl ?_
  refine a_aload_n (q := 1) C dL_law_348 rfl rfl ?_
  refine a_iload (q := 6) C dL_law_349 rfl ?_
  refine a_iconst (v := (1 : Int32)) C dL_law_351 rfl ?_
  refine a_iadd C dL_law_352 ?_
  refine a_sld C hX hbl (nI_add i 1) (show i + 1 < L by omega) hL dL_law_353 ?_
  show AW p l e room_1 s m args below meth c D cs ad b0 Q 9 (k + 3) V3 [(6, .int r2), (0, .ref b), (1, .ref (ad 0)), (2, .ref (ad 109)), (3, .ref (ad 118)), (4, .ref (ad 119)), (5, .int (nI i))] [.int (xs (i + 1)), .ref (ad 109)] _
  refine a_aload_n (q := 1) C dL_law_354 rfl rfl ?_
  refine a_iload (q := 6) C dL_law_355 rfl ?_
  refine a_iconst (v := (2 : Int32)) C dL_law_357 rfl ?_
  refine a_iadd C dL_law_358 ?_
  refine a_sld C hX hbl (nI_add i 2) (show i + 2 < L by omega) hL dL_law_359 ?_
  show AW p l e room_1 s m args below meth c D cs ad b0 Q 9 (k + 3) V3 [(6, .int r2), (0, .ref b), (1, .ref (ad 0)), (2, .ref (ad 109)), (3, .ref (ad 118)), (4, .ref (ad 119)), (5, .int (nI i))] [.int (xs (i + 2)), .int (xs (i + 1)), .ref (ad 109)] _
  obtain ⟨r5, V6, g4, h⟩ := bw_spec h
  refine a_cVi (a := 109) (st := []) C dL_law_360 cv_RL_134 (w_X5_erase (xs (i + 1)) (xs (i + 2)) V3 r5 V6 g4) rfl rfl rfl rfl rfl ⟨Nat.le_of_ble_eq_true rfl, Nat.le_of_ble_eq_true rfl, by show _ ≤ 603072; omega, by show _ ≤ 7223402; omega⟩ (Nat.le_of_ble_eq_true rfl) ?_
  refine a_istore (lv' := [(7, .int r5), (6, .int r2), (0, .ref b), (1, .ref (ad 0)), (2, .ref (ad 109)), (3, .ref (ad 118)), (4, .ref (ad 119)), (5, .int (nI i))]) C dL_law_363 (by decide) rfl ?_
  refine a_aload_n (q := 4) C dL_law_365 rfl rfl ?_
  obtain ⟨r8, g7, h⟩ := bd_spec h
  refine a_cVi (a := 109) (st := []) C dL_law_366 cv_RL_125 (w_X5_thrown  V6 r8 g7) rfl rfl rfl rfl rfl ⟨Nat.le_of_ble_eq_true rfl, Nat.le_of_ble_eq_true rfl, by show _ ≤ 603072; omega, by show _ ≤ 7223402; omega⟩ (Nat.le_of_ble_eq_true rfl) ?_
  refine a_iload (q := 1) C dL_law_369 rfl ?_
  refine a_icmp_eq (tgt := 376) C dL_law_371 (by decide) (fun c9 => ?_) (fun c9 => ?_)
  · have h := it_t c9 h
    refine a_iload (q := 1) C dL_law_376 rfl ?_
    refine a_if_ne (tgt := 393) C dL_law_378 (by decide) (fun c10 => ?_) (fun c10 => ?_)
    · have h := it_f c10 h
      refine a_goto (tgt := 1956) C dL_law_393 (by decide) ?_
      obtain rfl := ret1 h
      refine a_sub (lv' := [(0, .ref b), (1, .ref (ad 0)), (2, .ref (ad 109)), (3, .ref (ad 118)), (4, .ref (ad 119)), (5, .int (nI i))]) [2, 3, 4, 5, 6, 7] rfl ?_
      refine a_wid (k' := k + 8) (by omega) ?_
      exact kk
    · have h := it_t c10 h
      refine a_aload_n (q := 5) C dL_law_381 rfl rfl ?_
      refine a_iconst (v := (0 : Int32)) C dL_law_382 rfl ?_
      refine a_lald (a := 118) C dL_law_383 rfl (in_lit (by decide)) ?_
      refine a_iload (q := 0) C dL_law_384 rfl ?_
      refine a_i2l (v := (r5).toInt64) C dL_law_386 rfl ?_
      by_cases c11 : (V6 118 (0 : Int32).toNatClampNeg) = r5
      · have h := it_t c11 h
        refine a_lcmpE (x := (V6 118 (0 : Int32).toNatClampNeg)) (y := r5) C c11 dL_law_387 ?_
        refine a_if_eq (tgt := 393) C dL_law_388 (by decide) (fun _ => ?_) (fun q => absurd rfl q)
        refine a_goto (tgt := 1956) C dL_law_393 (by decide) ?_
        obtain rfl := ret1 h
        refine a_sub (lv' := [(0, .ref b), (1, .ref (ad 0)), (2, .ref (ad 109)), (3, .ref (ad 118)), (4, .ref (ad 119)), (5, .int (nI i))]) [2, 3, 4, 5, 6, 7] rfl ?_
        refine a_wid (k' := k + 8) (by omega) ?_
        exact kk
      · have h := it_f c11 h
        cases h
  · have h := it_f c9 h
    cases h
set_option maxRecDepth 20000 in
set_option maxHeartbeats 4000000 in
theorem w_law_c3 {p : Program} {l : Launch} {e : Env} {s : State} {m : MethodId} {args : Array Value} {below : List Frame} {meth : Method} {c : Code} {D : va_G} {cs : Nat → ClassId} {ad : Nat → Nat} {b0 : Nat} {Q : State → Prop} {ret9 : Option FieldType} {b L : Nat} {xs : Nat → Int32} {i k : Nat} {V W9 : VT} (C : Ctx p l s m args meth c D cs ad b0 RL cL_law 9 ret9) (hX : va_X b L xs s s.heap) (hbl : b < b0) (hL : L < 2 ^ 31) (hi : i + 4 ≤ L) (hk : k ≤ 600000) {x1 x2 x3 : Int32} (e1 : xs (i + 1) = x1) (e2 : xs (i + 2) = x2) (e3 : xs (i + 3) = x3) (h : d_law_c3 x1 x2 x3 V = some W9) (kk : AW p l e room_1 s m args below meth c D cs ad b0 Q 9 (k + 8) W9 [(0, .ref b), (1, .ref (ad 0)), (2, .ref (ad 109)), (3, .ref (ad 118)), (4, .ref (ad 119)), (5, .int (nI i))] [] 1956) : AW p l e room_1 s m args below meth c D cs ad b0 Q 9 k V [(0, .ref b), (1, .ref (ad 0)), (2, .ref (ad 109)), (3, .ref (ad 118)), (4, .ref (ad 119)), (5, .int (nI i))] [] 396 := by
  unfold d_law_c3 at h
  subst e1 e2 e3
  refine a_aload_n (q := 1) C dL_law_396 rfl rfl ?_
  refine a_aload_n (q := 0) C dL_law_397 rfl rfl ?_
  refine a_iload (q := 5) C dL_law_398 rfl ?_
  refine a_iconst (v := (1 : Int32)) C dL_law_400 rfl ?_
  refine a_iadd C dL_law_401 ?_
  refine a_sld C hX hbl (nI_add i 1) (show i + 1 < L by omega) hL dL_law_402 ?_
  show AW p l e room_1 s m args below meth c D cs ad b0 Q 9 k V [(0, .ref b), (1, .ref (ad 0)), (2, .ref (ad 109)), (3, .ref (ad 118)), (4, .ref (ad 119)), (5, .int (nI i))] [.int (xs (i + 1)), .ref (ad 0)] _
  refine a_aload_n (q := 0) C dL_law_403 rfl rfl ?_
  refine a_iload (q := 5) C dL_law_404 rfl ?_
  refine a_iconst (v := (2 : Int32)) C dL_law_406 rfl ?_
  refine a_iadd C dL_law_407 ?_
  refine a_sld C hX hbl (nI_add i 2) (show i + 2 < L by omega) hL dL_law_408 ?_
  show AW p l e room_1 s m args below meth c D cs ad b0 Q 9 k V [(0, .ref b), (1, .ref (ad 0)), (2, .ref (ad 109)), (3, .ref (ad 118)), (4, .ref (ad 119)), (5, .int (nI i))] [.int (xs (i + 2)), .int (xs (i + 1)), .ref (ad 0)] _
  refine a_aload_n (q := 3) C dL_law_409 rfl rfl ?_
  obtain ⟨r2, V3, g1, h⟩ := bw_spec h
  refine a_cSX (st := []) (k' := 2) C dL_law_410 cx_RL_135 (w_L_hasBorder (xs (i + 1)) (xs (i + 2)) V r2 V3 g1) rfl rfl rfl ⟨Nat.le_of_ble_eq_true rfl, Nat.le_of_ble_eq_true rfl, by show _ ≤ 603072; omega, by show _ ≤ 7223402; omega⟩ (Nat.le_of_ble_eq_true rfl) ?_
  refine a_istore (lv' := [(6, .int r2), (0, .ref b), (1, .ref (ad 0)), (2, .ref (ad 109)), (3, .ref (ad 118)), (4, .ref (ad 119)), (5, .int (nI i))]) C dL_law_413 (by decide) rfl ?_
  refine a_aload_n (q := 3) C dL_law_415 rfl rfl ?_
  refine a_aload_n (q := 1) C dL_law_416 rfl rfl ?_
  refine a_iload (q := 6) C dL_law_417 rfl ?_
  refine a_iconst (v := (1 : Int32)) C dL_law_419 rfl ?_
  refine a_iadd C dL_law_420 ?_
  refine a_sld C hX hbl (nI_add i 1) (show i + 1 < L by omega) hL dL_law_421 ?_
  show AW p l e room_1 s m args below meth c D cs ad b0 Q 9 (k + 2) V3 [(6, .int r2), (0, .ref b), (1, .ref (ad 0)), (2, .ref (ad 109)), (3, .ref (ad 118)), (4, .ref (ad 119)), (5, .int (nI i))] [.int (xs (i + 1)), .ref (ad 109)] _
  refine a_aload_n (q := 1) C dL_law_422 rfl rfl ?_
  refine a_iload (q := 6) C dL_law_423 rfl ?_
  refine a_iconst (v := (2 : Int32)) C dL_law_425 rfl ?_
  refine a_iadd C dL_law_426 ?_
  refine a_sld C hX hbl (nI_add i 2) (show i + 2 < L by omega) hL dL_law_427 ?_
  show AW p l e room_1 s m args below meth c D cs ad b0 Q 9 (k + 2) V3 [(6, .int r2), (0, .ref b), (1, .ref (ad 0)), (2, .ref (ad 109)), (3, .ref (ad 118)), (4, .ref (ad 119)), (5, .int (nI i))] [.int (xs (i + 2)), .int (xs (i + 1)), .ref (ad 109)] _
  obtain ⟨r5, V6, g4, h⟩ := bw_spec h
  refine a_cVi (a := 109) (st := []) C dL_law_428 cv_RL_137 (w_X5_hasBorder (xs (i + 1)) (xs (i + 2)) V3 r5 V6 g4) rfl rfl rfl rfl rfl ⟨Nat.le_of_ble_eq_true rfl, Nat.le_of_ble_eq_true rfl, by show _ ≤ 603072; omega, by show _ ≤ 7223402; omega⟩ (Nat.le_of_ble_eq_true rfl) ?_
  refine a_istore (lv' := [(7, .int r5), (6, .int r2), (0, .ref b), (1, .ref (ad 0)), (2, .ref (ad 109)), (3, .ref (ad 118)), (4, .ref (ad 119)), (5, .int (nI i))]) C dL_law_431 (by decide) rfl ?_
  refine a_aload_n (q := 4) C dL_law_433 rfl rfl ?_
  obtain ⟨r8, g7, h⟩ := bd_spec h
  refine a_cVi (a := 109) (st := []) C dL_law_434 cv_RL_125 (w_X5_thrown  V6 r8 g7) rfl rfl rfl rfl rfl ⟨Nat.le_of_ble_eq_true rfl, Nat.le_of_ble_eq_true rfl, by show _ ≤ 603072; omega, by show _ ≤ 7223402; omega⟩ (Nat.le_of_ble_eq_true rfl) ?_
  refine a_iload (q := 1) C dL_law_437 rfl ?_
  refine a_icmp_eq (tgt := 444) C dL_law_439 (by decide) (fun c9 => ?_) (fun c9 => ?_)
  · have h := it_t c9 h
    refine a_iload (q := 1) C dL_law_444 rfl ?_
    refine a_if_ne (tgt := 468) C dL_law_446 (by decide) (fun c10 => ?_) (fun c10 => ?_)
    · have h := it_f c10 h
      refine a_goto (tgt := 1956) C dL_law_468 (by decide) ?_
      obtain rfl := ret1 h
      refine a_sub (lv' := [(0, .ref b), (1, .ref (ad 0)), (2, .ref (ad 109)), (3, .ref (ad 118)), (4, .ref (ad 119)), (5, .int (nI i))]) [2, 3, 4, 5, 6, 7] rfl ?_
      refine a_wid (k' := k + 8) (by omega) ?_
      exact kk
    · have h := it_t c10 h
      refine a_aload_n (q := 5) C dL_law_449 rfl rfl ?_
      refine a_iconst (v := (0 : Int32)) C dL_law_450 rfl ?_
      refine a_lald (a := 118) C dL_law_451 rfl (in_lit (by decide)) ?_
      refine a_iload (q := 0) C dL_law_452 rfl ?_
      refine a_if_eq (tgt := 461) C dL_law_454 (by decide) (fun c11 => ?_) (fun c11 => ?_)
      · have h := it_t c11 h
        refine a_lconst (v := ((0 : Int32)).toInt64) C dL_law_461 rfl ?_
        by_cases c12 : (V6 118 (0 : Int32).toNatClampNeg) = (0 : Int32)
        · have h := it_t c12 h
          refine a_lcmpE (x := (V6 118 (0 : Int32).toNatClampNeg)) (y := (0 : Int32)) C c12 dL_law_462 ?_
          refine a_if_eq (tgt := 468) C dL_law_463 (by decide) (fun _ => ?_) (fun q => absurd rfl q)
          refine a_goto (tgt := 1956) C dL_law_468 (by decide) ?_
          obtain rfl := ret1 h
          refine a_sub (lv' := [(0, .ref b), (1, .ref (ad 0)), (2, .ref (ad 109)), (3, .ref (ad 118)), (4, .ref (ad 119)), (5, .int (nI i))]) [2, 3, 4, 5, 6, 7] rfl ?_
          refine a_wid (k' := k + 8) (by omega) ?_
          exact kk
        · have h := it_f c12 h
          cases h
      · have h := it_f c11 h
        refine a_lconst (v := ((1 : Int32)).toInt64) C dL_law_457 rfl ?_
        refine a_goto (tgt := 462) C dL_law_458 (by decide) ?_
        by_cases c13 : (V6 118 (0 : Int32).toNatClampNeg) = (1 : Int32)
        · have h := it_t c13 h
          refine a_lcmpE (x := (V6 118 (0 : Int32).toNatClampNeg)) (y := (1 : Int32)) C c13 dL_law_462 ?_
          refine a_if_eq (tgt := 468) C dL_law_463 (by decide) (fun _ => ?_) (fun q => absurd rfl q)
          refine a_goto (tgt := 1956) C dL_law_468 (by decide) ?_
          obtain rfl := ret1 h
          refine a_sub (lv' := [(0, .ref b), (1, .ref (ad 0)), (2, .ref (ad 109)), (3, .ref (ad 118)), (4, .ref (ad 119)), (5, .int (nI i))]) [2, 3, 4, 5, 6, 7] rfl ?_
          refine a_wid (k' := k + 8) (by omega) ?_
          exact kk
        · have h := it_f c13 h
          cases h
  · have h := it_f c9 h
    cases h
set_option maxRecDepth 20000 in
set_option maxHeartbeats 4000000 in
theorem w_law_c4 {p : Program} {l : Launch} {e : Env} {s : State} {m : MethodId} {args : Array Value} {below : List Frame} {meth : Method} {c : Code} {D : va_G} {cs : Nat → ClassId} {ad : Nat → Nat} {b0 : Nat} {Q : State → Prop} {ret9 : Option FieldType} {b L : Nat} {xs : Nat → Int32} {i k : Nat} {V W9 : VT} (C : Ctx p l s m args meth c D cs ad b0 RL cL_law 9 ret9) (hX : va_X b L xs s s.heap) (hbl : b < b0) (hL : L < 2 ^ 31) (hi : i + 4 ≤ L) (hk : k ≤ 600000) {x1 x2 x3 : Int32} (e1 : xs (i + 1) = x1) (e2 : xs (i + 2) = x2) (e3 : xs (i + 3) = x3) (h : d_law_c4 x1 x2 x3 V = some W9) (kk : AW p l e room_1 s m args below meth c D cs ad b0 Q 9 (k + 8) W9 [(0, .ref b), (1, .ref (ad 0)), (2, .ref (ad 109)), (3, .ref (ad 118)), (4, .ref (ad 119)), (5, .int (nI i))] [] 1956) : AW p l e room_1 s m args below meth c D cs ad b0 Q 9 k V [(0, .ref b), (1, .ref (ad 0)), (2, .ref (ad 109)), (3, .ref (ad 118)), (4, .ref (ad 119)), (5, .int (nI i))] [] 471 := by
  unfold d_law_c4 at h
  subst e1 e2 e3
  refine a_aload_n (q := 1) C dL_law_471 rfl rfl ?_
  refine a_aload_n (q := 0) C dL_law_472 rfl rfl ?_
  refine a_iload (q := 5) C dL_law_473 rfl ?_
  refine a_iconst (v := (1 : Int32)) C dL_law_475 rfl ?_
  refine a_iadd C dL_law_476 ?_
  refine a_sld C hX hbl (nI_add i 1) (show i + 1 < L by omega) hL dL_law_477 ?_
  show AW p l e room_1 s m args below meth c D cs ad b0 Q 9 k V [(0, .ref b), (1, .ref (ad 0)), (2, .ref (ad 109)), (3, .ref (ad 118)), (4, .ref (ad 119)), (5, .int (nI i))] [.int (xs (i + 1)), .ref (ad 0)] _
  refine a_aload_n (q := 0) C dL_law_478 rfl rfl ?_
  refine a_iload (q := 5) C dL_law_479 rfl ?_
  refine a_iconst (v := (2 : Int32)) C dL_law_481 rfl ?_
  refine a_iadd C dL_law_482 ?_
  refine a_sld C hX hbl (nI_add i 2) (show i + 2 < L by omega) hL dL_law_483 ?_
  show AW p l e room_1 s m args below meth c D cs ad b0 Q 9 k V [(0, .ref b), (1, .ref (ad 0)), (2, .ref (ad 109)), (3, .ref (ad 118)), (4, .ref (ad 119)), (5, .int (nI i))] [.int (xs (i + 2)), .int (xs (i + 1)), .ref (ad 0)] _
  refine a_aload_n (q := 3) C dL_law_484 rfl rfl ?_
  obtain ⟨r2, V3, g1, h⟩ := bw_spec h
  refine a_cSX (st := []) (k' := 2) C dL_law_485 cx_RL_138 (w_L_countryOf (xs (i + 1)) (xs (i + 2)) V r2 V3 g1) rfl rfl rfl ⟨Nat.le_of_ble_eq_true rfl, Nat.le_of_ble_eq_true rfl, by show _ ≤ 603072; omega, by show _ ≤ 7223402; omega⟩ (Nat.le_of_ble_eq_true rfl) ?_
  refine a_istore (lv' := [(6, .int r2), (0, .ref b), (1, .ref (ad 0)), (2, .ref (ad 109)), (3, .ref (ad 118)), (4, .ref (ad 119)), (5, .int (nI i))]) C dL_law_488 (by decide) rfl ?_
  refine a_aload_n (q := 3) C dL_law_490 rfl rfl ?_
  refine a_aload_n (q := 1) C dL_law_491 rfl rfl ?_
  refine a_iload (q := 6) C dL_law_492 rfl ?_
  refine a_iconst (v := (1 : Int32)) C dL_law_494 rfl ?_
  refine a_iadd C dL_law_495 ?_
  refine a_sld C hX hbl (nI_add i 1) (show i + 1 < L by omega) hL dL_law_496 ?_
  show AW p l e room_1 s m args below meth c D cs ad b0 Q 9 (k + 2) V3 [(6, .int r2), (0, .ref b), (1, .ref (ad 0)), (2, .ref (ad 109)), (3, .ref (ad 118)), (4, .ref (ad 119)), (5, .int (nI i))] [.int (xs (i + 1)), .ref (ad 109)] _
  refine a_aload_n (q := 1) C dL_law_497 rfl rfl ?_
  refine a_iload (q := 6) C dL_law_498 rfl ?_
  refine a_iconst (v := (2 : Int32)) C dL_law_500 rfl ?_
  refine a_iadd C dL_law_501 ?_
  refine a_sld C hX hbl (nI_add i 2) (show i + 2 < L by omega) hL dL_law_502 ?_
  show AW p l e room_1 s m args below meth c D cs ad b0 Q 9 (k + 2) V3 [(6, .int r2), (0, .ref b), (1, .ref (ad 0)), (2, .ref (ad 109)), (3, .ref (ad 118)), (4, .ref (ad 119)), (5, .int (nI i))] [.int (xs (i + 2)), .int (xs (i + 1)), .ref (ad 109)] _
  obtain ⟨r5, V6, g4, h⟩ := bw_spec h
  refine a_cVi (a := 109) (st := []) C dL_law_503 cv_RL_140 (w_X5_countryOf (xs (i + 1)) (xs (i + 2)) V3 r5 V6 g4) rfl rfl rfl rfl rfl ⟨Nat.le_of_ble_eq_true rfl, Nat.le_of_ble_eq_true rfl, by show _ ≤ 603072; omega, by show _ ≤ 7223402; omega⟩ (Nat.le_of_ble_eq_true rfl) ?_
  refine a_istore (lv' := [(7, .int r5), (6, .int r2), (0, .ref b), (1, .ref (ad 0)), (2, .ref (ad 109)), (3, .ref (ad 118)), (4, .ref (ad 119)), (5, .int (nI i))]) C dL_law_506 (by decide) rfl ?_
  refine a_aload_n (q := 4) C dL_law_508 rfl rfl ?_
  obtain ⟨r8, g7, h⟩ := bd_spec h
  refine a_cVi (a := 109) (st := []) C dL_law_509 cv_RL_125 (w_X5_thrown  V6 r8 g7) rfl rfl rfl rfl rfl ⟨Nat.le_of_ble_eq_true rfl, Nat.le_of_ble_eq_true rfl, by show _ ≤ 603072; omega, by show _ ≤ 7223402; omega⟩ (Nat.le_of_ble_eq_true rfl) ?_
  refine a_iload (q := 1) C dL_law_512 rfl ?_
  refine a_icmp_eq (tgt := 519) C dL_law_514 (by decide) (fun c9 => ?_) (fun c9 => ?_)
  · have h := it_t c9 h
    refine a_iload (q := 1) C dL_law_519 rfl ?_
    refine a_if_ne (tgt := 536) C dL_law_521 (by decide) (fun c10 => ?_) (fun c10 => ?_)
    · have h := it_f c10 h
      refine a_goto (tgt := 1956) C dL_law_536 (by decide) ?_
      obtain rfl := ret1 h
      refine a_sub (lv' := [(0, .ref b), (1, .ref (ad 0)), (2, .ref (ad 109)), (3, .ref (ad 118)), (4, .ref (ad 119)), (5, .int (nI i))]) [2, 3, 4, 5, 6, 7] rfl ?_
      refine a_wid (k' := k + 8) (by omega) ?_
      exact kk
    · have h := it_t c10 h
      refine a_aload_n (q := 5) C dL_law_524 rfl rfl ?_
      refine a_iconst (v := (0 : Int32)) C dL_law_525 rfl ?_
      refine a_lald (a := 118) C dL_law_526 rfl (in_lit (by decide)) ?_
      refine a_iload (q := 0) C dL_law_527 rfl ?_
      refine a_i2l (v := (r5).toInt64) C dL_law_529 rfl ?_
      by_cases c11 : (V6 118 (0 : Int32).toNatClampNeg) = r5
      · have h := it_t c11 h
        refine a_lcmpE (x := (V6 118 (0 : Int32).toNatClampNeg)) (y := r5) C c11 dL_law_530 ?_
        refine a_if_eq (tgt := 536) C dL_law_531 (by decide) (fun _ => ?_) (fun q => absurd rfl q)
        refine a_goto (tgt := 1956) C dL_law_536 (by decide) ?_
        obtain rfl := ret1 h
        refine a_sub (lv' := [(0, .ref b), (1, .ref (ad 0)), (2, .ref (ad 109)), (3, .ref (ad 118)), (4, .ref (ad 119)), (5, .int (nI i))]) [2, 3, 4, 5, 6, 7] rfl ?_
        refine a_wid (k' := k + 8) (by omega) ?_
        exact kk
      · have h := it_f c11 h
        cases h
  · have h := it_f c9 h
    cases h
set_option maxRecDepth 20000 in
set_option maxHeartbeats 4000000 in
theorem w_law_c5 {p : Program} {l : Launch} {e : Env} {s : State} {m : MethodId} {args : Array Value} {below : List Frame} {meth : Method} {c : Code} {D : va_G} {cs : Nat → ClassId} {ad : Nat → Nat} {b0 : Nat} {Q : State → Prop} {ret9 : Option FieldType} {b L : Nat} {xs : Nat → Int32} {i k : Nat} {V W9 : VT} (C : Ctx p l s m args meth c D cs ad b0 RL cL_law 9 ret9) (hX : va_X b L xs s s.heap) (hbl : b < b0) (hL : L < 2 ^ 31) (hi : i + 4 ≤ L) (hk : k ≤ 600000) {x1 x2 x3 : Int32} (e1 : xs (i + 1) = x1) (e2 : xs (i + 2) = x2) (e3 : xs (i + 3) = x3) (h : d_law_c5 x1 x2 x3 V = some W9) (kk : AW p l e room_1 s m args below meth c D cs ad b0 Q 9 (k + 8) W9 [(0, .ref b), (1, .ref (ad 0)), (2, .ref (ad 109)), (3, .ref (ad 118)), (4, .ref (ad 119)), (5, .int (nI i))] [] 1956) : AW p l e room_1 s m args below meth c D cs ad b0 Q 9 k V [(0, .ref b), (1, .ref (ad 0)), (2, .ref (ad 109)), (3, .ref (ad 118)), (4, .ref (ad 119)), (5, .int (nI i))] [] 539 := by
  unfold d_law_c5 at h
  subst e1 e2 e3
  refine a_aload_n (q := 1) C dL_law_539 rfl rfl ?_
  refine a_aload_n (q := 0) C dL_law_540 rfl rfl ?_
  refine a_iload (q := 5) C dL_law_541 rfl ?_
  refine a_iconst (v := (1 : Int32)) C dL_law_543 rfl ?_
  refine a_iadd C dL_law_544 ?_
  refine a_sld C hX hbl (nI_add i 1) (show i + 1 < L by omega) hL dL_law_545 ?_
  show AW p l e room_1 s m args below meth c D cs ad b0 Q 9 k V [(0, .ref b), (1, .ref (ad 0)), (2, .ref (ad 109)), (3, .ref (ad 118)), (4, .ref (ad 119)), (5, .int (nI i))] [.int (xs (i + 1)), .ref (ad 0)] _
  refine a_aload_n (q := 3) C dL_law_546 rfl rfl ?_
  obtain ⟨r2, V3, g1, h⟩ := bw_spec h
  refine a_cSX (st := []) (k' := 2) C dL_law_547 cx_RL_141 (w_L_hues (xs (i + 1)) V r2 V3 g1) rfl rfl rfl ⟨Nat.le_of_ble_eq_true rfl, Nat.le_of_ble_eq_true rfl, by show _ ≤ 603072; omega, by show _ ≤ 7223402; omega⟩ (Nat.le_of_ble_eq_true rfl) ?_
  refine a_istore (lv' := [(6, .int r2), (0, .ref b), (1, .ref (ad 0)), (2, .ref (ad 109)), (3, .ref (ad 118)), (4, .ref (ad 119)), (5, .int (nI i))]) C dL_law_550 (by decide) rfl ?_
  refine a_aload_n (q := 3) C dL_law_552 rfl rfl ?_
  refine a_aload_n (q := 1) C dL_law_553 rfl rfl ?_
  refine a_iload (q := 6) C dL_law_554 rfl ?_
  refine a_iconst (v := (1 : Int32)) C dL_law_556 rfl ?_
  refine a_iadd C dL_law_557 ?_
  refine a_sld C hX hbl (nI_add i 1) (show i + 1 < L by omega) hL dL_law_558 ?_
  show AW p l e room_1 s m args below meth c D cs ad b0 Q 9 (k + 2) V3 [(6, .int r2), (0, .ref b), (1, .ref (ad 0)), (2, .ref (ad 109)), (3, .ref (ad 118)), (4, .ref (ad 119)), (5, .int (nI i))] [.int (xs (i + 1)), .ref (ad 109)] _
  obtain ⟨r5, V6, g4, h⟩ := bw_spec h
  refine a_cVi (a := 109) (st := []) C dL_law_559 cv_RL_143 (w_X5_hues (xs (i + 1)) V3 r5 V6 g4) rfl rfl rfl rfl rfl ⟨Nat.le_of_ble_eq_true rfl, Nat.le_of_ble_eq_true rfl, by show _ ≤ 603072; omega, by show _ ≤ 7223402; omega⟩ (Nat.le_of_ble_eq_true rfl) ?_
  refine a_istore (lv' := [(7, .int r5), (6, .int r2), (0, .ref b), (1, .ref (ad 0)), (2, .ref (ad 109)), (3, .ref (ad 118)), (4, .ref (ad 119)), (5, .int (nI i))]) C dL_law_562 (by decide) rfl ?_
  refine a_aload_n (q := 4) C dL_law_564 rfl rfl ?_
  obtain ⟨r8, g7, h⟩ := bd_spec h
  refine a_cVi (a := 109) (st := []) C dL_law_565 cv_RL_125 (w_X5_thrown  V6 r8 g7) rfl rfl rfl rfl rfl ⟨Nat.le_of_ble_eq_true rfl, Nat.le_of_ble_eq_true rfl, by show _ ≤ 603072; omega, by show _ ≤ 7223402; omega⟩ (Nat.le_of_ble_eq_true rfl) ?_
  refine a_iload (q := 1) C dL_law_568 rfl ?_
  refine a_icmp_eq (tgt := 575) C dL_law_570 (by decide) (fun c9 => ?_) (fun c9 => ?_)
  · have h := it_t c9 h
    refine a_iload (q := 1) C dL_law_575 rfl ?_
    refine a_if_ne (tgt := 592) C dL_law_577 (by decide) (fun c10 => ?_) (fun c10 => ?_)
    · have h := it_f c10 h
      refine a_goto (tgt := 1956) C dL_law_592 (by decide) ?_
      obtain rfl := ret1 h
      refine a_sub (lv' := [(0, .ref b), (1, .ref (ad 0)), (2, .ref (ad 109)), (3, .ref (ad 118)), (4, .ref (ad 119)), (5, .int (nI i))]) [2, 3, 4, 5, 6, 7] rfl ?_
      refine a_wid (k' := k + 8) (by omega) ?_
      exact kk
    · have h := it_t c10 h
      refine a_aload_n (q := 5) C dL_law_580 rfl rfl ?_
      refine a_iconst (v := (0 : Int32)) C dL_law_581 rfl ?_
      refine a_lald (a := 118) C dL_law_582 rfl (in_lit (by decide)) ?_
      refine a_iload (q := 0) C dL_law_583 rfl ?_
      refine a_i2l (v := (r5).toInt64) C dL_law_585 rfl ?_
      by_cases c11 : (V6 118 (0 : Int32).toNatClampNeg) = r5
      · have h := it_t c11 h
        refine a_lcmpE (x := (V6 118 (0 : Int32).toNatClampNeg)) (y := r5) C c11 dL_law_586 ?_
        refine a_if_eq (tgt := 592) C dL_law_587 (by decide) (fun _ => ?_) (fun q => absurd rfl q)
        refine a_goto (tgt := 1956) C dL_law_592 (by decide) ?_
        obtain rfl := ret1 h
        refine a_sub (lv' := [(0, .ref b), (1, .ref (ad 0)), (2, .ref (ad 109)), (3, .ref (ad 118)), (4, .ref (ad 119)), (5, .int (nI i))]) [2, 3, 4, 5, 6, 7] rfl ?_
        refine a_wid (k' := k + 8) (by omega) ?_
        exact kk
      · have h := it_f c11 h
        cases h
  · have h := it_f c9 h
    cases h
set_option maxRecDepth 20000 in
set_option maxHeartbeats 4000000 in
theorem w_law_c6 {p : Program} {l : Launch} {e : Env} {s : State} {m : MethodId} {args : Array Value} {below : List Frame} {meth : Method} {c : Code} {D : va_G} {cs : Nat → ClassId} {ad : Nat → Nat} {b0 : Nat} {Q : State → Prop} {ret9 : Option FieldType} {b L : Nat} {xs : Nat → Int32} {i k : Nat} {V W9 : VT} (C : Ctx p l s m args meth c D cs ad b0 RL cL_law 9 ret9) (hX : va_X b L xs s s.heap) (hbl : b < b0) (hL : L < 2 ^ 31) (hi : i + 4 ≤ L) (hk : k ≤ 600000) {x1 x2 x3 : Int32} (e1 : xs (i + 1) = x1) (e2 : xs (i + 2) = x2) (e3 : xs (i + 3) = x3) (h : d_law_c6 x1 x2 x3 V = some W9) (kk : AW p l e room_1 s m args below meth c D cs ad b0 Q 9 (k + 8) W9 [(0, .ref b), (1, .ref (ad 0)), (2, .ref (ad 109)), (3, .ref (ad 118)), (4, .ref (ad 119)), (5, .int (nI i))] [] 1956) : AW p l e room_1 s m args below meth c D cs ad b0 Q 9 k V [(0, .ref b), (1, .ref (ad 0)), (2, .ref (ad 109)), (3, .ref (ad 118)), (4, .ref (ad 119)), (5, .int (nI i))] [] 595 := by
  unfold d_law_c6 at h
  subst e1 e2 e3
  refine a_aload_n (q := 1) C dL_law_595 rfl rfl ?_
  refine a_aload_n (q := 0) C dL_law_596 rfl rfl ?_
  refine a_iload (q := 5) C dL_law_597 rfl ?_
  refine a_iconst (v := (1 : Int32)) C dL_law_599 rfl ?_
  refine a_iadd C dL_law_600 ?_
  refine a_sld C hX hbl (nI_add i 1) (show i + 1 < L by omega) hL dL_law_601 ?_
  show AW p l e room_1 s m args below meth c D cs ad b0 Q 9 k V [(0, .ref b), (1, .ref (ad 0)), (2, .ref (ad 109)), (3, .ref (ad 118)), (4, .ref (ad 119)), (5, .int (nI i))] [.int (xs (i + 1)), .ref (ad 0)] _
  refine a_aload_n (q := 0) C dL_law_602 rfl rfl ?_
  refine a_iload (q := 5) C dL_law_603 rfl ?_
  refine a_iconst (v := (2 : Int32)) C dL_law_605 rfl ?_
  refine a_iadd C dL_law_606 ?_
  refine a_sld C hX hbl (nI_add i 2) (show i + 2 < L by omega) hL dL_law_607 ?_
  show AW p l e room_1 s m args below meth c D cs ad b0 Q 9 k V [(0, .ref b), (1, .ref (ad 0)), (2, .ref (ad 109)), (3, .ref (ad 118)), (4, .ref (ad 119)), (5, .int (nI i))] [.int (xs (i + 2)), .int (xs (i + 1)), .ref (ad 0)] _
  refine a_aload_n (q := 3) C dL_law_608 rfl rfl ?_
  obtain ⟨r2, V3, g1, h⟩ := bw_spec h
  refine a_cSX (st := []) (k' := 2) C dL_law_609 cx_RL_144 (w_L_pots (xs (i + 1)) (xs (i + 2)) V r2 V3 g1) rfl rfl rfl ⟨Nat.le_of_ble_eq_true rfl, Nat.le_of_ble_eq_true rfl, by show _ ≤ 603072; omega, by show _ ≤ 7223402; omega⟩ (Nat.le_of_ble_eq_true rfl) ?_
  refine a_istore (lv' := [(6, .int r2), (0, .ref b), (1, .ref (ad 0)), (2, .ref (ad 109)), (3, .ref (ad 118)), (4, .ref (ad 119)), (5, .int (nI i))]) C dL_law_612 (by decide) rfl ?_
  refine a_aload_n (q := 3) C dL_law_614 rfl rfl ?_
  refine a_aload_n (q := 1) C dL_law_615 rfl rfl ?_
  refine a_iload (q := 6) C dL_law_616 rfl ?_
  refine a_iconst (v := (1 : Int32)) C dL_law_618 rfl ?_
  refine a_iadd C dL_law_619 ?_
  refine a_sld C hX hbl (nI_add i 1) (show i + 1 < L by omega) hL dL_law_620 ?_
  show AW p l e room_1 s m args below meth c D cs ad b0 Q 9 (k + 2) V3 [(6, .int r2), (0, .ref b), (1, .ref (ad 0)), (2, .ref (ad 109)), (3, .ref (ad 118)), (4, .ref (ad 119)), (5, .int (nI i))] [.int (xs (i + 1)), .ref (ad 109)] _
  refine a_aload_n (q := 1) C dL_law_621 rfl rfl ?_
  refine a_iload (q := 6) C dL_law_622 rfl ?_
  refine a_iconst (v := (2 : Int32)) C dL_law_624 rfl ?_
  refine a_iadd C dL_law_625 ?_
  refine a_sld C hX hbl (nI_add i 2) (show i + 2 < L by omega) hL dL_law_626 ?_
  show AW p l e room_1 s m args below meth c D cs ad b0 Q 9 (k + 2) V3 [(6, .int r2), (0, .ref b), (1, .ref (ad 0)), (2, .ref (ad 109)), (3, .ref (ad 118)), (4, .ref (ad 119)), (5, .int (nI i))] [.int (xs (i + 2)), .int (xs (i + 1)), .ref (ad 109)] _
  obtain ⟨r5, V6, g4, h⟩ := bw_spec h
  refine a_cVi (a := 109) (st := []) C dL_law_627 cv_RL_146 (w_X5_pots (xs (i + 1)) (xs (i + 2)) V3 r5 V6 g4) rfl rfl rfl rfl rfl ⟨Nat.le_of_ble_eq_true rfl, Nat.le_of_ble_eq_true rfl, by show _ ≤ 603072; omega, by show _ ≤ 7223402; omega⟩ (Nat.le_of_ble_eq_true rfl) ?_
  refine a_istore (lv' := [(7, .int r5), (6, .int r2), (0, .ref b), (1, .ref (ad 0)), (2, .ref (ad 109)), (3, .ref (ad 118)), (4, .ref (ad 119)), (5, .int (nI i))]) C dL_law_630 (by decide) rfl ?_
  refine a_aload_n (q := 4) C dL_law_632 rfl rfl ?_
  obtain ⟨r8, g7, h⟩ := bd_spec h
  refine a_cVi (a := 109) (st := []) C dL_law_633 cv_RL_125 (w_X5_thrown  V6 r8 g7) rfl rfl rfl rfl rfl ⟨Nat.le_of_ble_eq_true rfl, Nat.le_of_ble_eq_true rfl, by show _ ≤ 603072; omega, by show _ ≤ 7223402; omega⟩ (Nat.le_of_ble_eq_true rfl) ?_
  refine a_iload (q := 1) C dL_law_636 rfl ?_
  refine a_icmp_eq (tgt := 643) C dL_law_638 (by decide) (fun c9 => ?_) (fun c9 => ?_)
  · have h := it_t c9 h
    refine a_iload (q := 1) C dL_law_643 rfl ?_
    refine a_if_ne (tgt := 660) C dL_law_645 (by decide) (fun c10 => ?_) (fun c10 => ?_)
    · have h := it_f c10 h
      refine a_goto (tgt := 1956) C dL_law_660 (by decide) ?_
      obtain rfl := ret1 h
      refine a_sub (lv' := [(0, .ref b), (1, .ref (ad 0)), (2, .ref (ad 109)), (3, .ref (ad 118)), (4, .ref (ad 119)), (5, .int (nI i))]) [2, 3, 4, 5, 6, 7] rfl ?_
      refine a_wid (k' := k + 8) (by omega) ?_
      exact kk
    · have h := it_t c10 h
      refine a_aload_n (q := 5) C dL_law_648 rfl rfl ?_
      refine a_iconst (v := (0 : Int32)) C dL_law_649 rfl ?_
      refine a_lald (a := 118) C dL_law_650 rfl (in_lit (by decide)) ?_
      refine a_iload (q := 0) C dL_law_651 rfl ?_
      refine a_i2l (v := (r5).toInt64) C dL_law_653 rfl ?_
      by_cases c11 : (V6 118 (0 : Int32).toNatClampNeg) = r5
      · have h := it_t c11 h
        refine a_lcmpE (x := (V6 118 (0 : Int32).toNatClampNeg)) (y := r5) C c11 dL_law_654 ?_
        refine a_if_eq (tgt := 660) C dL_law_655 (by decide) (fun _ => ?_) (fun q => absurd rfl q)
        refine a_goto (tgt := 1956) C dL_law_660 (by decide) ?_
        obtain rfl := ret1 h
        refine a_sub (lv' := [(0, .ref b), (1, .ref (ad 0)), (2, .ref (ad 109)), (3, .ref (ad 118)), (4, .ref (ad 119)), (5, .int (nI i))]) [2, 3, 4, 5, 6, 7] rfl ?_
        refine a_wid (k' := k + 8) (by omega) ?_
        exact kk
      · have h := it_f c11 h
        cases h
  · have h := it_f c9 h
    cases h
set_option maxRecDepth 20000 in
set_option maxHeartbeats 4000000 in
theorem w_law_c7 {p : Program} {l : Launch} {e : Env} {s : State} {m : MethodId} {args : Array Value} {below : List Frame} {meth : Method} {c : Code} {D : va_G} {cs : Nat → ClassId} {ad : Nat → Nat} {b0 : Nat} {Q : State → Prop} {ret9 : Option FieldType} {b L : Nat} {xs : Nat → Int32} {i k : Nat} {V W9 : VT} (C : Ctx p l s m args meth c D cs ad b0 RL cL_law 9 ret9) (hX : va_X b L xs s s.heap) (hbl : b < b0) (hL : L < 2 ^ 31) (hi : i + 4 ≤ L) (hk : k ≤ 600000) {x1 x2 x3 : Int32} (e1 : xs (i + 1) = x1) (e2 : xs (i + 2) = x2) (e3 : xs (i + 3) = x3) (h : d_law_c7 x1 x2 x3 V = some W9) (kk : AW p l e room_1 s m args below meth c D cs ad b0 Q 9 (k + 8) W9 [(0, .ref b), (1, .ref (ad 0)), (2, .ref (ad 109)), (3, .ref (ad 118)), (4, .ref (ad 119)), (5, .int (nI i))] [] 1956) : AW p l e room_1 s m args below meth c D cs ad b0 Q 9 k V [(0, .ref b), (1, .ref (ad 0)), (2, .ref (ad 109)), (3, .ref (ad 118)), (4, .ref (ad 119)), (5, .int (nI i))] [] 663 := by
  unfold d_law_c7 at h
  subst e1 e2 e3
  refine a_aload_n (q := 1) C dL_law_663 rfl rfl ?_
  refine a_aload_n (q := 0) C dL_law_664 rfl rfl ?_
  refine a_iload (q := 5) C dL_law_665 rfl ?_
  refine a_iconst (v := (1 : Int32)) C dL_law_667 rfl ?_
  refine a_iadd C dL_law_668 ?_
  refine a_sld C hX hbl (nI_add i 1) (show i + 1 < L by omega) hL dL_law_669 ?_
  show AW p l e room_1 s m args below meth c D cs ad b0 Q 9 k V [(0, .ref b), (1, .ref (ad 0)), (2, .ref (ad 109)), (3, .ref (ad 118)), (4, .ref (ad 119)), (5, .int (nI i))] [.int (xs (i + 1)), .ref (ad 0)] _
  refine a_aload_n (q := 0) C dL_law_670 rfl rfl ?_
  refine a_iload (q := 5) C dL_law_671 rfl ?_
  refine a_iconst (v := (2 : Int32)) C dL_law_673 rfl ?_
  refine a_iadd C dL_law_674 ?_
  refine a_sld C hX hbl (nI_add i 2) (show i + 2 < L by omega) hL dL_law_675 ?_
  show AW p l e room_1 s m args below meth c D cs ad b0 Q 9 k V [(0, .ref b), (1, .ref (ad 0)), (2, .ref (ad 109)), (3, .ref (ad 118)), (4, .ref (ad 119)), (5, .int (nI i))] [.int (xs (i + 2)), .int (xs (i + 1)), .ref (ad 0)] _
  refine a_aload_n (q := 3) C dL_law_676 rfl rfl ?_
  obtain ⟨r2, V3, g1, h⟩ := bw_spec h
  refine a_cSX (st := []) (k' := 2) C dL_law_677 cx_RL_147 (w_L_hueOf (xs (i + 1)) (xs (i + 2)) V r2 V3 g1) rfl rfl rfl ⟨Nat.le_of_ble_eq_true rfl, Nat.le_of_ble_eq_true rfl, by show _ ≤ 603072; omega, by show _ ≤ 7223402; omega⟩ (Nat.le_of_ble_eq_true rfl) ?_
  refine a_istore (lv' := [(6, .int r2), (0, .ref b), (1, .ref (ad 0)), (2, .ref (ad 109)), (3, .ref (ad 118)), (4, .ref (ad 119)), (5, .int (nI i))]) C dL_law_680 (by decide) rfl ?_
  refine a_aload_n (q := 3) C dL_law_682 rfl rfl ?_
  refine a_aload_n (q := 1) C dL_law_683 rfl rfl ?_
  refine a_iload (q := 6) C dL_law_684 rfl ?_
  refine a_iconst (v := (1 : Int32)) C dL_law_686 rfl ?_
  refine a_iadd C dL_law_687 ?_
  refine a_sld C hX hbl (nI_add i 1) (show i + 1 < L by omega) hL dL_law_688 ?_
  show AW p l e room_1 s m args below meth c D cs ad b0 Q 9 (k + 2) V3 [(6, .int r2), (0, .ref b), (1, .ref (ad 0)), (2, .ref (ad 109)), (3, .ref (ad 118)), (4, .ref (ad 119)), (5, .int (nI i))] [.int (xs (i + 1)), .ref (ad 109)] _
  refine a_aload_n (q := 1) C dL_law_689 rfl rfl ?_
  refine a_iload (q := 6) C dL_law_690 rfl ?_
  refine a_iconst (v := (2 : Int32)) C dL_law_692 rfl ?_
  refine a_iadd C dL_law_693 ?_
  refine a_sld C hX hbl (nI_add i 2) (show i + 2 < L by omega) hL dL_law_694 ?_
  show AW p l e room_1 s m args below meth c D cs ad b0 Q 9 (k + 2) V3 [(6, .int r2), (0, .ref b), (1, .ref (ad 0)), (2, .ref (ad 109)), (3, .ref (ad 118)), (4, .ref (ad 119)), (5, .int (nI i))] [.int (xs (i + 2)), .int (xs (i + 1)), .ref (ad 109)] _
  obtain ⟨r5, V6, g4, h⟩ := bw_spec h
  refine a_cVi (a := 109) (st := []) C dL_law_695 cv_RL_149 (w_X5_hueOf (xs (i + 1)) (xs (i + 2)) V3 r5 V6 g4) rfl rfl rfl rfl rfl ⟨Nat.le_of_ble_eq_true rfl, Nat.le_of_ble_eq_true rfl, by show _ ≤ 603072; omega, by show _ ≤ 7223402; omega⟩ (Nat.le_of_ble_eq_true rfl) ?_
  refine a_istore (lv' := [(7, .int r5), (6, .int r2), (0, .ref b), (1, .ref (ad 0)), (2, .ref (ad 109)), (3, .ref (ad 118)), (4, .ref (ad 119)), (5, .int (nI i))]) C dL_law_698 (by decide) rfl ?_
  refine a_aload_n (q := 4) C dL_law_700 rfl rfl ?_
  obtain ⟨r8, g7, h⟩ := bd_spec h
  refine a_cVi (a := 109) (st := []) C dL_law_701 cv_RL_125 (w_X5_thrown  V6 r8 g7) rfl rfl rfl rfl rfl ⟨Nat.le_of_ble_eq_true rfl, Nat.le_of_ble_eq_true rfl, by show _ ≤ 603072; omega, by show _ ≤ 7223402; omega⟩ (Nat.le_of_ble_eq_true rfl) ?_
  refine a_iload (q := 1) C dL_law_704 rfl ?_
  refine a_icmp_eq (tgt := 711) C dL_law_706 (by decide) (fun c9 => ?_) (fun c9 => ?_)
  · have h := it_t c9 h
    refine a_iload (q := 1) C dL_law_711 rfl ?_
    refine a_if_ne (tgt := 728) C dL_law_713 (by decide) (fun c10 => ?_) (fun c10 => ?_)
    · have h := it_f c10 h
      refine a_goto (tgt := 1956) C dL_law_728 (by decide) ?_
      obtain rfl := ret1 h
      refine a_sub (lv' := [(0, .ref b), (1, .ref (ad 0)), (2, .ref (ad 109)), (3, .ref (ad 118)), (4, .ref (ad 119)), (5, .int (nI i))]) [2, 3, 4, 5, 6, 7] rfl ?_
      refine a_wid (k' := k + 8) (by omega) ?_
      exact kk
    · have h := it_t c10 h
      refine a_aload_n (q := 5) C dL_law_716 rfl rfl ?_
      refine a_iconst (v := (0 : Int32)) C dL_law_717 rfl ?_
      refine a_lald (a := 118) C dL_law_718 rfl (in_lit (by decide)) ?_
      refine a_iload (q := 0) C dL_law_719 rfl ?_
      refine a_i2l (v := (r5).toInt64) C dL_law_721 rfl ?_
      by_cases c11 : (V6 118 (0 : Int32).toNatClampNeg) = r5
      · have h := it_t c11 h
        refine a_lcmpE (x := (V6 118 (0 : Int32).toNatClampNeg)) (y := r5) C c11 dL_law_722 ?_
        refine a_if_eq (tgt := 728) C dL_law_723 (by decide) (fun _ => ?_) (fun q => absurd rfl q)
        refine a_goto (tgt := 1956) C dL_law_728 (by decide) ?_
        obtain rfl := ret1 h
        refine a_sub (lv' := [(0, .ref b), (1, .ref (ad 0)), (2, .ref (ad 109)), (3, .ref (ad 118)), (4, .ref (ad 119)), (5, .int (nI i))]) [2, 3, 4, 5, 6, 7] rfl ?_
        refine a_wid (k' := k + 8) (by omega) ?_
        exact kk
      · have h := it_f c11 h
        cases h
  · have h := it_f c9 h
    cases h
set_option maxRecDepth 20000 in
set_option maxHeartbeats 4000000 in
theorem w_law_c8 {p : Program} {l : Launch} {e : Env} {s : State} {m : MethodId} {args : Array Value} {below : List Frame} {meth : Method} {c : Code} {D : va_G} {cs : Nat → ClassId} {ad : Nat → Nat} {b0 : Nat} {Q : State → Prop} {ret9 : Option FieldType} {b L : Nat} {xs : Nat → Int32} {i k : Nat} {V W9 : VT} (C : Ctx p l s m args meth c D cs ad b0 RL cL_law 9 ret9) (hX : va_X b L xs s s.heap) (hbl : b < b0) (hL : L < 2 ^ 31) (hi : i + 4 ≤ L) (hk : k ≤ 600000) {x1 x2 x3 : Int32} (e1 : xs (i + 1) = x1) (e2 : xs (i + 2) = x2) (e3 : xs (i + 3) = x3) (h : d_law_c8 x1 x2 x3 V = some W9) (kk : AW p l e room_1 s m args below meth c D cs ad b0 Q 9 (k + 8) W9 [(0, .ref b), (1, .ref (ad 0)), (2, .ref (ad 109)), (3, .ref (ad 118)), (4, .ref (ad 119)), (5, .int (nI i))] [] 1956) : AW p l e room_1 s m args below meth c D cs ad b0 Q 9 k V [(0, .ref b), (1, .ref (ad 0)), (2, .ref (ad 109)), (3, .ref (ad 118)), (4, .ref (ad 119)), (5, .int (nI i))] [] 731 := by
  unfold d_law_c8 at h
  subst e1 e2 e3
  refine a_aload_n (q := 1) C dL_law_731 rfl rfl ?_
  refine a_aload_n (q := 0) C dL_law_732 rfl rfl ?_
  refine a_iload (q := 5) C dL_law_733 rfl ?_
  refine a_iconst (v := (1 : Int32)) C dL_law_735 rfl ?_
  refine a_iadd C dL_law_736 ?_
  refine a_sld C hX hbl (nI_add i 1) (show i + 1 < L by omega) hL dL_law_737 ?_
  show AW p l e room_1 s m args below meth c D cs ad b0 Q 9 k V [(0, .ref b), (1, .ref (ad 0)), (2, .ref (ad 109)), (3, .ref (ad 118)), (4, .ref (ad 119)), (5, .int (nI i))] [.int (xs (i + 1)), .ref (ad 0)] _
  refine a_aload_n (q := 0) C dL_law_738 rfl rfl ?_
  refine a_iload (q := 5) C dL_law_739 rfl ?_
  refine a_iconst (v := (2 : Int32)) C dL_law_741 rfl ?_
  refine a_iadd C dL_law_742 ?_
  refine a_sld C hX hbl (nI_add i 2) (show i + 2 < L by omega) hL dL_law_743 ?_
  show AW p l e room_1 s m args below meth c D cs ad b0 Q 9 k V [(0, .ref b), (1, .ref (ad 0)), (2, .ref (ad 109)), (3, .ref (ad 118)), (4, .ref (ad 119)), (5, .int (nI i))] [.int (xs (i + 2)), .int (xs (i + 1)), .ref (ad 0)] _
  refine a_aload_n (q := 3) C dL_law_744 rfl rfl ?_
  obtain ⟨r2, V3, g1, h⟩ := bw_spec h
  refine a_cSX (st := []) (k' := 3) C dL_law_745 cx_RL_150 (w_L_paint (xs (i + 1)) (xs (i + 2)) V r2 V3 g1) rfl rfl rfl ⟨Nat.le_of_ble_eq_true rfl, Nat.le_of_ble_eq_true rfl, by show _ ≤ 603072; omega, by show _ ≤ 7223402; omega⟩ (Nat.le_of_ble_eq_true rfl) ?_
  refine a_istore (lv' := [(6, .int r2), (0, .ref b), (1, .ref (ad 0)), (2, .ref (ad 109)), (3, .ref (ad 118)), (4, .ref (ad 119)), (5, .int (nI i))]) C dL_law_748 (by decide) rfl ?_
  refine a_aload_n (q := 3) C dL_law_750 rfl rfl ?_
  refine a_aload_n (q := 1) C dL_law_751 rfl rfl ?_
  refine a_iload (q := 6) C dL_law_752 rfl ?_
  refine a_iconst (v := (1 : Int32)) C dL_law_754 rfl ?_
  refine a_iadd C dL_law_755 ?_
  refine a_sld C hX hbl (nI_add i 1) (show i + 1 < L by omega) hL dL_law_756 ?_
  show AW p l e room_1 s m args below meth c D cs ad b0 Q 9 (k + 3) V3 [(6, .int r2), (0, .ref b), (1, .ref (ad 0)), (2, .ref (ad 109)), (3, .ref (ad 118)), (4, .ref (ad 119)), (5, .int (nI i))] [.int (xs (i + 1)), .ref (ad 109)] _
  refine a_aload_n (q := 1) C dL_law_757 rfl rfl ?_
  refine a_iload (q := 6) C dL_law_758 rfl ?_
  refine a_iconst (v := (2 : Int32)) C dL_law_760 rfl ?_
  refine a_iadd C dL_law_761 ?_
  refine a_sld C hX hbl (nI_add i 2) (show i + 2 < L by omega) hL dL_law_762 ?_
  show AW p l e room_1 s m args below meth c D cs ad b0 Q 9 (k + 3) V3 [(6, .int r2), (0, .ref b), (1, .ref (ad 0)), (2, .ref (ad 109)), (3, .ref (ad 118)), (4, .ref (ad 119)), (5, .int (nI i))] [.int (xs (i + 2)), .int (xs (i + 1)), .ref (ad 109)] _
  obtain ⟨r5, V6, g4, h⟩ := bw_spec h
  refine a_cVi (a := 109) (st := []) C dL_law_763 cv_RL_152 (w_X5_paint (xs (i + 1)) (xs (i + 2)) V3 r5 V6 g4) rfl rfl rfl rfl rfl ⟨Nat.le_of_ble_eq_true rfl, Nat.le_of_ble_eq_true rfl, by show _ ≤ 603072; omega, by show _ ≤ 7223402; omega⟩ (Nat.le_of_ble_eq_true rfl) ?_
  refine a_istore (lv' := [(7, .int r5), (6, .int r2), (0, .ref b), (1, .ref (ad 0)), (2, .ref (ad 109)), (3, .ref (ad 118)), (4, .ref (ad 119)), (5, .int (nI i))]) C dL_law_766 (by decide) rfl ?_
  refine a_aload_n (q := 4) C dL_law_768 rfl rfl ?_
  obtain ⟨r8, g7, h⟩ := bd_spec h
  refine a_cVi (a := 109) (st := []) C dL_law_769 cv_RL_125 (w_X5_thrown  V6 r8 g7) rfl rfl rfl rfl rfl ⟨Nat.le_of_ble_eq_true rfl, Nat.le_of_ble_eq_true rfl, by show _ ≤ 603072; omega, by show _ ≤ 7223402; omega⟩ (Nat.le_of_ble_eq_true rfl) ?_
  refine a_iload (q := 1) C dL_law_772 rfl ?_
  refine a_icmp_eq (tgt := 779) C dL_law_774 (by decide) (fun c9 => ?_) (fun c9 => ?_)
  · have h := it_t c9 h
    refine a_iload (q := 1) C dL_law_779 rfl ?_
    refine a_if_ne (tgt := 796) C dL_law_781 (by decide) (fun c10 => ?_) (fun c10 => ?_)
    · have h := it_f c10 h
      refine a_goto (tgt := 1956) C dL_law_796 (by decide) ?_
      obtain rfl := ret1 h
      refine a_sub (lv' := [(0, .ref b), (1, .ref (ad 0)), (2, .ref (ad 109)), (3, .ref (ad 118)), (4, .ref (ad 119)), (5, .int (nI i))]) [2, 3, 4, 5, 6, 7] rfl ?_
      refine a_wid (k' := k + 8) (by omega) ?_
      exact kk
    · have h := it_t c10 h
      refine a_aload_n (q := 5) C dL_law_784 rfl rfl ?_
      refine a_iconst (v := (0 : Int32)) C dL_law_785 rfl ?_
      refine a_lald (a := 118) C dL_law_786 rfl (in_lit (by decide)) ?_
      refine a_iload (q := 0) C dL_law_787 rfl ?_
      refine a_i2l (v := (r5).toInt64) C dL_law_789 rfl ?_
      by_cases c11 : (V6 118 (0 : Int32).toNatClampNeg) = r5
      · have h := it_t c11 h
        refine a_lcmpE (x := (V6 118 (0 : Int32).toNatClampNeg)) (y := r5) C c11 dL_law_790 ?_
        refine a_if_eq (tgt := 796) C dL_law_791 (by decide) (fun _ => ?_) (fun q => absurd rfl q)
        refine a_goto (tgt := 1956) C dL_law_796 (by decide) ?_
        obtain rfl := ret1 h
        refine a_sub (lv' := [(0, .ref b), (1, .ref (ad 0)), (2, .ref (ad 109)), (3, .ref (ad 118)), (4, .ref (ad 119)), (5, .int (nI i))]) [2, 3, 4, 5, 6, 7] rfl ?_
        refine a_wid (k' := k + 8) (by omega) ?_
        exact kk
      · have h := it_f c11 h
        cases h
  · have h := it_f c9 h
    cases h
set_option maxRecDepth 20000 in
set_option maxHeartbeats 4000000 in
theorem w_law_c9 {p : Program} {l : Launch} {e : Env} {s : State} {m : MethodId} {args : Array Value} {below : List Frame} {meth : Method} {c : Code} {D : va_G} {cs : Nat → ClassId} {ad : Nat → Nat} {b0 : Nat} {Q : State → Prop} {ret9 : Option FieldType} {b L : Nat} {xs : Nat → Int32} {i k : Nat} {V W9 : VT} (C : Ctx p l s m args meth c D cs ad b0 RL cL_law 9 ret9) (hX : va_X b L xs s s.heap) (hbl : b < b0) (hL : L < 2 ^ 31) (hi : i + 4 ≤ L) (hk : k ≤ 600000) {x1 x2 x3 : Int32} (e1 : xs (i + 1) = x1) (e2 : xs (i + 2) = x2) (e3 : xs (i + 3) = x3) (h : d_law_c9 x1 x2 x3 V = some W9) (kk : AW p l e room_1 s m args below meth c D cs ad b0 Q 9 (k + 8) W9 [(0, .ref b), (1, .ref (ad 0)), (2, .ref (ad 109)), (3, .ref (ad 118)), (4, .ref (ad 119)), (5, .int (nI i))] [] 1956) : AW p l e room_1 s m args below meth c D cs ad b0 Q 9 k V [(0, .ref b), (1, .ref (ad 0)), (2, .ref (ad 109)), (3, .ref (ad 118)), (4, .ref (ad 119)), (5, .int (nI i))] [] 799 := by
  unfold d_law_c9 at h
  subst e1 e2 e3
  refine a_aload_n (q := 1) C dL_law_799 rfl rfl ?_
  refine a_aload_n (q := 0) C dL_law_800 rfl rfl ?_
  refine a_iload (q := 5) C dL_law_801 rfl ?_
  refine a_iconst (v := (1 : Int32)) C dL_law_803 rfl ?_
  refine a_iadd C dL_law_804 ?_
  refine a_sld C hX hbl (nI_add i 1) (show i + 1 < L by omega) hL dL_law_805 ?_
  show AW p l e room_1 s m args below meth c D cs ad b0 Q 9 k V [(0, .ref b), (1, .ref (ad 0)), (2, .ref (ad 109)), (3, .ref (ad 118)), (4, .ref (ad 119)), (5, .int (nI i))] [.int (xs (i + 1)), .ref (ad 0)] _
  refine a_aload_n (q := 0) C dL_law_806 rfl rfl ?_
  refine a_iload (q := 5) C dL_law_807 rfl ?_
  refine a_iconst (v := (2 : Int32)) C dL_law_809 rfl ?_
  refine a_iadd C dL_law_810 ?_
  refine a_sld C hX hbl (nI_add i 2) (show i + 2 < L by omega) hL dL_law_811 ?_
  show AW p l e room_1 s m args below meth c D cs ad b0 Q 9 k V [(0, .ref b), (1, .ref (ad 0)), (2, .ref (ad 109)), (3, .ref (ad 118)), (4, .ref (ad 119)), (5, .int (nI i))] [.int (xs (i + 2)), .int (xs (i + 1)), .ref (ad 0)] _
  refine a_aload_n (q := 3) C dL_law_812 rfl rfl ?_
  obtain ⟨r2, V3, g1, h⟩ := bw_spec h
  refine a_cSX (st := []) (k' := 2) C dL_law_813 cx_RL_153 (w_L_bars (xs (i + 1)) (xs (i + 2)) V r2 V3 g1) rfl rfl rfl ⟨Nat.le_of_ble_eq_true rfl, Nat.le_of_ble_eq_true rfl, by show _ ≤ 603072; omega, by show _ ≤ 7223402; omega⟩ (Nat.le_of_ble_eq_true rfl) ?_
  refine a_istore (lv' := [(6, .int r2), (0, .ref b), (1, .ref (ad 0)), (2, .ref (ad 109)), (3, .ref (ad 118)), (4, .ref (ad 119)), (5, .int (nI i))]) C dL_law_816 (by decide) rfl ?_
  refine a_aload_n (q := 3) C dL_law_818 rfl rfl ?_
  refine a_aload_n (q := 1) C dL_law_819 rfl rfl ?_
  refine a_iload (q := 6) C dL_law_820 rfl ?_
  refine a_iconst (v := (1 : Int32)) C dL_law_822 rfl ?_
  refine a_iadd C dL_law_823 ?_
  refine a_sld C hX hbl (nI_add i 1) (show i + 1 < L by omega) hL dL_law_824 ?_
  show AW p l e room_1 s m args below meth c D cs ad b0 Q 9 (k + 2) V3 [(6, .int r2), (0, .ref b), (1, .ref (ad 0)), (2, .ref (ad 109)), (3, .ref (ad 118)), (4, .ref (ad 119)), (5, .int (nI i))] [.int (xs (i + 1)), .ref (ad 109)] _
  refine a_aload_n (q := 1) C dL_law_825 rfl rfl ?_
  refine a_iload (q := 6) C dL_law_826 rfl ?_
  refine a_iconst (v := (2 : Int32)) C dL_law_828 rfl ?_
  refine a_iadd C dL_law_829 ?_
  refine a_sld C hX hbl (nI_add i 2) (show i + 2 < L by omega) hL dL_law_830 ?_
  show AW p l e room_1 s m args below meth c D cs ad b0 Q 9 (k + 2) V3 [(6, .int r2), (0, .ref b), (1, .ref (ad 0)), (2, .ref (ad 109)), (3, .ref (ad 118)), (4, .ref (ad 119)), (5, .int (nI i))] [.int (xs (i + 2)), .int (xs (i + 1)), .ref (ad 109)] _
  obtain ⟨r5, V6, g4, h⟩ := bw_spec h
  refine a_cVi (a := 109) (st := []) C dL_law_831 cv_RL_155 (w_X5_bars (xs (i + 1)) (xs (i + 2)) V3 r5 V6 g4) rfl rfl rfl rfl rfl ⟨Nat.le_of_ble_eq_true rfl, Nat.le_of_ble_eq_true rfl, by show _ ≤ 603072; omega, by show _ ≤ 7223402; omega⟩ (Nat.le_of_ble_eq_true rfl) ?_
  refine a_istore (lv' := [(7, .int r5), (6, .int r2), (0, .ref b), (1, .ref (ad 0)), (2, .ref (ad 109)), (3, .ref (ad 118)), (4, .ref (ad 119)), (5, .int (nI i))]) C dL_law_834 (by decide) rfl ?_
  refine a_aload_n (q := 4) C dL_law_836 rfl rfl ?_
  obtain ⟨r8, g7, h⟩ := bd_spec h
  refine a_cVi (a := 109) (st := []) C dL_law_837 cv_RL_125 (w_X5_thrown  V6 r8 g7) rfl rfl rfl rfl rfl ⟨Nat.le_of_ble_eq_true rfl, Nat.le_of_ble_eq_true rfl, by show _ ≤ 603072; omega, by show _ ≤ 7223402; omega⟩ (Nat.le_of_ble_eq_true rfl) ?_
  refine a_iload (q := 1) C dL_law_840 rfl ?_
  refine a_icmp_eq (tgt := 847) C dL_law_842 (by decide) (fun c9 => ?_) (fun c9 => ?_)
  · have h := it_t c9 h
    refine a_iload (q := 1) C dL_law_847 rfl ?_
    refine a_if_ne (tgt := 864) C dL_law_849 (by decide) (fun c10 => ?_) (fun c10 => ?_)
    · have h := it_f c10 h
      refine a_goto (tgt := 1956) C dL_law_864 (by decide) ?_
      obtain rfl := ret1 h
      refine a_sub (lv' := [(0, .ref b), (1, .ref (ad 0)), (2, .ref (ad 109)), (3, .ref (ad 118)), (4, .ref (ad 119)), (5, .int (nI i))]) [2, 3, 4, 5, 6, 7] rfl ?_
      refine a_wid (k' := k + 8) (by omega) ?_
      exact kk
    · have h := it_t c10 h
      refine a_aload_n (q := 5) C dL_law_852 rfl rfl ?_
      refine a_iconst (v := (0 : Int32)) C dL_law_853 rfl ?_
      refine a_lald (a := 118) C dL_law_854 rfl (in_lit (by decide)) ?_
      refine a_iload (q := 0) C dL_law_855 rfl ?_
      refine a_i2l (v := (r5).toInt64) C dL_law_857 rfl ?_
      by_cases c11 : (V6 118 (0 : Int32).toNatClampNeg) = r5
      · have h := it_t c11 h
        refine a_lcmpE (x := (V6 118 (0 : Int32).toNatClampNeg)) (y := r5) C c11 dL_law_858 ?_
        refine a_if_eq (tgt := 864) C dL_law_859 (by decide) (fun _ => ?_) (fun q => absurd rfl q)
        refine a_goto (tgt := 1956) C dL_law_864 (by decide) ?_
        obtain rfl := ret1 h
        refine a_sub (lv' := [(0, .ref b), (1, .ref (ad 0)), (2, .ref (ad 109)), (3, .ref (ad 118)), (4, .ref (ad 119)), (5, .int (nI i))]) [2, 3, 4, 5, 6, 7] rfl ?_
        refine a_wid (k' := k + 8) (by omega) ?_
        exact kk
      · have h := it_f c11 h
        cases h
  · have h := it_f c9 h
    cases h
set_option maxRecDepth 20000 in
set_option maxHeartbeats 4000000 in
theorem w_law_c10 {p : Program} {l : Launch} {e : Env} {s : State} {m : MethodId} {args : Array Value} {below : List Frame} {meth : Method} {c : Code} {D : va_G} {cs : Nat → ClassId} {ad : Nat → Nat} {b0 : Nat} {Q : State → Prop} {ret9 : Option FieldType} {b L : Nat} {xs : Nat → Int32} {i k : Nat} {V W9 : VT} (C : Ctx p l s m args meth c D cs ad b0 RL cL_law 9 ret9) (hX : va_X b L xs s s.heap) (hbl : b < b0) (hL : L < 2 ^ 31) (hi : i + 4 ≤ L) (hk : k ≤ 600000) {x1 x2 x3 : Int32} (e1 : xs (i + 1) = x1) (e2 : xs (i + 2) = x2) (e3 : xs (i + 3) = x3) (h : d_law_c10 x1 x2 x3 V = some W9) (kk : AW p l e room_1 s m args below meth c D cs ad b0 Q 9 (k + 8) W9 [(0, .ref b), (1, .ref (ad 0)), (2, .ref (ad 109)), (3, .ref (ad 118)), (4, .ref (ad 119)), (5, .int (nI i))] [] 1956) : AW p l e room_1 s m args below meth c D cs ad b0 Q 9 k V [(0, .ref b), (1, .ref (ad 0)), (2, .ref (ad 109)), (3, .ref (ad 118)), (4, .ref (ad 119)), (5, .int (nI i))] [] 867 := by
  unfold d_law_c10 at h
  subst e1 e2 e3
  refine a_aload_n (q := 1) C dL_law_867 rfl rfl ?_
  refine a_aload_n (q := 3) C dL_law_868 rfl rfl ?_
  obtain ⟨r2, V3, g1, h⟩ := bw_spec h
  refine a_cSX (st := []) (k' := 1) C dL_law_869 cx_RL_156 (w_L_back  V r2 V3 g1) rfl rfl rfl ⟨Nat.le_of_ble_eq_true rfl, Nat.le_of_ble_eq_true rfl, by show _ ≤ 603072; omega, by show _ ≤ 7223402; omega⟩ (Nat.le_of_ble_eq_true rfl) ?_
  refine a_istore (lv' := [(6, .int r2), (0, .ref b), (1, .ref (ad 0)), (2, .ref (ad 109)), (3, .ref (ad 118)), (4, .ref (ad 119)), (5, .int (nI i))]) C dL_law_872 (by decide) rfl ?_
  refine a_aload_n (q := 3) C dL_law_874 rfl rfl ?_
  obtain ⟨r5, V6, g4, h⟩ := bw_spec h
  refine a_cVi (a := 109) (st := []) C dL_law_875 cv_RL_159 (w_X5_back  V3 r5 V6 g4) rfl rfl rfl rfl rfl ⟨Nat.le_of_ble_eq_true rfl, Nat.le_of_ble_eq_true rfl, by show _ ≤ 603072; omega, by show _ ≤ 7223402; omega⟩ (Nat.le_of_ble_eq_true rfl) ?_
  refine a_istore (lv' := [(7, .int r5), (6, .int r2), (0, .ref b), (1, .ref (ad 0)), (2, .ref (ad 109)), (3, .ref (ad 118)), (4, .ref (ad 119)), (5, .int (nI i))]) C dL_law_878 (by decide) rfl ?_
  refine a_aload_n (q := 4) C dL_law_880 rfl rfl ?_
  obtain ⟨r8, g7, h⟩ := bd_spec h
  refine a_cVi (a := 109) (st := []) C dL_law_881 cv_RL_125 (w_X5_thrown  V6 r8 g7) rfl rfl rfl rfl rfl ⟨Nat.le_of_ble_eq_true rfl, Nat.le_of_ble_eq_true rfl, by show _ ≤ 603072; omega, by show _ ≤ 7223402; omega⟩ (Nat.le_of_ble_eq_true rfl) ?_
  refine a_iload (q := 1) C dL_law_884 rfl ?_
  refine a_icmp_eq (tgt := 891) C dL_law_886 (by decide) (fun c9 => ?_) (fun c9 => ?_)
  · have h := it_t c9 h
    refine a_iload (q := 1) C dL_law_891 rfl ?_
    refine a_if_ne (tgt := 908) C dL_law_893 (by decide) (fun c10 => ?_) (fun c10 => ?_)
    · have h := it_f c10 h
      refine a_goto (tgt := 1956) C dL_law_908 (by decide) ?_
      obtain rfl := ret1 h
      refine a_sub (lv' := [(0, .ref b), (1, .ref (ad 0)), (2, .ref (ad 109)), (3, .ref (ad 118)), (4, .ref (ad 119)), (5, .int (nI i))]) [2, 3, 4, 5, 6, 7] rfl ?_
      refine a_wid (k' := k + 8) (by omega) ?_
      exact kk
    · have h := it_t c10 h
      refine a_aload_n (q := 5) C dL_law_896 rfl rfl ?_
      refine a_iconst (v := (0 : Int32)) C dL_law_897 rfl ?_
      refine a_lald (a := 118) C dL_law_898 rfl (in_lit (by decide)) ?_
      refine a_iload (q := 0) C dL_law_899 rfl ?_
      refine a_i2l (v := (r5).toInt64) C dL_law_901 rfl ?_
      by_cases c11 : (V6 118 (0 : Int32).toNatClampNeg) = r5
      · have h := it_t c11 h
        refine a_lcmpE (x := (V6 118 (0 : Int32).toNatClampNeg)) (y := r5) C c11 dL_law_902 ?_
        refine a_if_eq (tgt := 908) C dL_law_903 (by decide) (fun _ => ?_) (fun q => absurd rfl q)
        refine a_goto (tgt := 1956) C dL_law_908 (by decide) ?_
        obtain rfl := ret1 h
        refine a_sub (lv' := [(0, .ref b), (1, .ref (ad 0)), (2, .ref (ad 109)), (3, .ref (ad 118)), (4, .ref (ad 119)), (5, .int (nI i))]) [2, 3, 4, 5, 6, 7] rfl ?_
        refine a_wid (k' := k + 8) (by omega) ?_
        exact kk
      · have h := it_f c11 h
        cases h
  · have h := it_f c9 h
    cases h
set_option maxRecDepth 20000 in
set_option maxHeartbeats 4000000 in
theorem w_law_c11 {p : Program} {l : Launch} {e : Env} {s : State} {m : MethodId} {args : Array Value} {below : List Frame} {meth : Method} {c : Code} {D : va_G} {cs : Nat → ClassId} {ad : Nat → Nat} {b0 : Nat} {Q : State → Prop} {ret9 : Option FieldType} {b L : Nat} {xs : Nat → Int32} {i k : Nat} {V W9 : VT} (C : Ctx p l s m args meth c D cs ad b0 RL cL_law 9 ret9) (hX : va_X b L xs s s.heap) (hbl : b < b0) (hL : L < 2 ^ 31) (hi : i + 4 ≤ L) (hk : k ≤ 600000) {x1 x2 x3 : Int32} (e1 : xs (i + 1) = x1) (e2 : xs (i + 2) = x2) (e3 : xs (i + 3) = x3) (h : d_law_c11 x1 x2 x3 V = some W9) (kk : AW p l e room_1 s m args below meth c D cs ad b0 Q 9 (k + 8) W9 [(0, .ref b), (1, .ref (ad 0)), (2, .ref (ad 109)), (3, .ref (ad 118)), (4, .ref (ad 119)), (5, .int (nI i))] [] 1956) : AW p l e room_1 s m args below meth c D cs ad b0 Q 9 k V [(0, .ref b), (1, .ref (ad 0)), (2, .ref (ad 109)), (3, .ref (ad 118)), (4, .ref (ad 119)), (5, .int (nI i))] [] 911 := by
  unfold d_law_c11 at h
  subst e1 e2 e3
  refine a_aload_n (q := 1) C dL_law_911 rfl rfl ?_
  obtain ⟨r2, V3, g1, h⟩ := bw_spec h
  refine a_cVi (a := 0) (st := []) C dL_law_912 cv_RL_160 (w_X4_fill  V r2 V3 g1) rfl rfl rfl rfl rfl ⟨Nat.le_of_ble_eq_true rfl, Nat.le_of_ble_eq_true rfl, by show _ ≤ 603072; omega, by show _ ≤ 7223402; omega⟩ (Nat.le_of_ble_eq_true rfl) ?_
  refine a_aload_n (q := 2) C dL_law_915 rfl rfl ?_
  obtain ⟨r5, V6, g4, h⟩ := bw_spec h
  refine a_cVi (a := 109) (st := [.int r2]) C dL_law_916 cv_RL_163 (w_X5_fill  V3 r5 V6 g4) rfl rfl rfl rfl rfl ⟨Nat.le_of_ble_eq_true rfl, Nat.le_of_ble_eq_true rfl, by show _ ≤ 603072; omega, by show _ ≤ 7223402; omega⟩ (Nat.le_of_ble_eq_true rfl) ?_
  refine a_icmp_eq (tgt := 1956) C dL_law_919 (by decide) (fun c7 => ?_) (fun c7 => ?_)
  · have h := it_t c7 h
    obtain rfl := ret1 h
    refine a_sub (lv' := [(0, .ref b), (1, .ref (ad 0)), (2, .ref (ad 109)), (3, .ref (ad 118)), (4, .ref (ad 119)), (5, .int (nI i))]) [0, 1, 2, 3, 4, 5] rfl ?_
    refine a_wid (k' := k + 8) (by omega) ?_
    exact kk
  · have h := it_f c7 h
    cases h
set_option maxRecDepth 20000 in
set_option maxHeartbeats 4000000 in
theorem w_law_c12 {p : Program} {l : Launch} {e : Env} {s : State} {m : MethodId} {args : Array Value} {below : List Frame} {meth : Method} {c : Code} {D : va_G} {cs : Nat → ClassId} {ad : Nat → Nat} {b0 : Nat} {Q : State → Prop} {ret9 : Option FieldType} {b L : Nat} {xs : Nat → Int32} {i k : Nat} {V W9 : VT} (C : Ctx p l s m args meth c D cs ad b0 RL cL_law 9 ret9) (hX : va_X b L xs s s.heap) (hbl : b < b0) (hL : L < 2 ^ 31) (hi : i + 4 ≤ L) (hk : k ≤ 600000) {x1 x2 x3 : Int32} (e1 : xs (i + 1) = x1) (e2 : xs (i + 2) = x2) (e3 : xs (i + 3) = x3) (h : d_law_c12 x1 x2 x3 V = some W9) (kk : AW p l e room_1 s m args below meth c D cs ad b0 Q 9 (k + 8) W9 [(0, .ref b), (1, .ref (ad 0)), (2, .ref (ad 109)), (3, .ref (ad 118)), (4, .ref (ad 119)), (5, .int (nI i))] [] 1956) : AW p l e room_1 s m args below meth c D cs ad b0 Q 9 k V [(0, .ref b), (1, .ref (ad 0)), (2, .ref (ad 109)), (3, .ref (ad 118)), (4, .ref (ad 119)), (5, .int (nI i))] [] 924 := by
  unfold d_law_c12 at h
  subst e1 e2 e3
  refine a_aload_n (q := 1) C dL_law_924 rfl rfl ?_
  refine a_aload_n (q := 0) C dL_law_925 rfl rfl ?_
  refine a_iload (q := 5) C dL_law_926 rfl ?_
  refine a_iconst (v := (1 : Int32)) C dL_law_928 rfl ?_
  refine a_iadd C dL_law_929 ?_
  refine a_sld C hX hbl (nI_add i 1) (show i + 1 < L by omega) hL dL_law_930 ?_
  show AW p l e room_1 s m args below meth c D cs ad b0 Q 9 k V [(0, .ref b), (1, .ref (ad 0)), (2, .ref (ad 109)), (3, .ref (ad 118)), (4, .ref (ad 119)), (5, .int (nI i))] [.int (xs (i + 1)), .ref (ad 0)] _
  refine a_aload_n (q := 3) C dL_law_931 rfl rfl ?_
  obtain ⟨r2, V3, g1, h⟩ := bw_spec h
  refine a_cSX (st := []) (k' := 1) C dL_law_932 cx_RL_164 (w_L_step (xs (i + 1)) V r2 V3 g1) rfl rfl rfl ⟨Nat.le_of_ble_eq_true rfl, Nat.le_of_ble_eq_true rfl, by show _ ≤ 603072; omega, by show _ ≤ 7223402; omega⟩ (Nat.le_of_ble_eq_true rfl) ?_
  refine a_istore (lv' := [(6, .int r2), (0, .ref b), (1, .ref (ad 0)), (2, .ref (ad 109)), (3, .ref (ad 118)), (4, .ref (ad 119)), (5, .int (nI i))]) C dL_law_935 (by decide) rfl ?_
  refine a_aload_n (q := 3) C dL_law_937 rfl rfl ?_
  refine a_aload_n (q := 1) C dL_law_938 rfl rfl ?_
  refine a_iload (q := 6) C dL_law_939 rfl ?_
  refine a_iconst (v := (1 : Int32)) C dL_law_941 rfl ?_
  refine a_iadd C dL_law_942 ?_
  refine a_sld C hX hbl (nI_add i 1) (show i + 1 < L by omega) hL dL_law_943 ?_
  show AW p l e room_1 s m args below meth c D cs ad b0 Q 9 (k + 1) V3 [(6, .int r2), (0, .ref b), (1, .ref (ad 0)), (2, .ref (ad 109)), (3, .ref (ad 118)), (4, .ref (ad 119)), (5, .int (nI i))] [.int (xs (i + 1)), .ref (ad 109)] _
  obtain ⟨r5, V6, g4, h⟩ := bw_spec h
  refine a_cVi (a := 109) (st := []) C dL_law_944 cv_RL_166 (w_X5_step (xs (i + 1)) V3 r5 V6 g4) rfl rfl rfl rfl rfl ⟨Nat.le_of_ble_eq_true rfl, Nat.le_of_ble_eq_true rfl, by show _ ≤ 603072; omega, by show _ ≤ 7223402; omega⟩ (Nat.le_of_ble_eq_true rfl) ?_
  refine a_istore (lv' := [(7, .int r5), (6, .int r2), (0, .ref b), (1, .ref (ad 0)), (2, .ref (ad 109)), (3, .ref (ad 118)), (4, .ref (ad 119)), (5, .int (nI i))]) C dL_law_947 (by decide) rfl ?_
  refine a_aload_n (q := 4) C dL_law_949 rfl rfl ?_
  obtain ⟨r8, g7, h⟩ := bd_spec h
  refine a_cVi (a := 109) (st := []) C dL_law_950 cv_RL_125 (w_X5_thrown  V6 r8 g7) rfl rfl rfl rfl rfl ⟨Nat.le_of_ble_eq_true rfl, Nat.le_of_ble_eq_true rfl, by show _ ≤ 603072; omega, by show _ ≤ 7223402; omega⟩ (Nat.le_of_ble_eq_true rfl) ?_
  refine a_iload (q := 1) C dL_law_953 rfl ?_
  refine a_icmp_eq (tgt := 960) C dL_law_955 (by decide) (fun c9 => ?_) (fun c9 => ?_)
  · have h := it_t c9 h
    refine a_iload (q := 1) C dL_law_960 rfl ?_
    refine a_if_ne (tgt := 977) C dL_law_962 (by decide) (fun c10 => ?_) (fun c10 => ?_)
    · have h := it_f c10 h
      refine a_goto (tgt := 1956) C dL_law_977 (by decide) ?_
      obtain rfl := ret1 h
      refine a_sub (lv' := [(0, .ref b), (1, .ref (ad 0)), (2, .ref (ad 109)), (3, .ref (ad 118)), (4, .ref (ad 119)), (5, .int (nI i))]) [2, 3, 4, 5, 6, 7] rfl ?_
      refine a_wid (k' := k + 8) (by omega) ?_
      exact kk
    · have h := it_t c10 h
      refine a_aload_n (q := 5) C dL_law_965 rfl rfl ?_
      refine a_iconst (v := (0 : Int32)) C dL_law_966 rfl ?_
      refine a_lald (a := 118) C dL_law_967 rfl (in_lit (by decide)) ?_
      refine a_iload (q := 0) C dL_law_968 rfl ?_
      refine a_i2l (v := (r5).toInt64) C dL_law_970 rfl ?_
      by_cases c11 : (V6 118 (0 : Int32).toNatClampNeg) = r5
      · have h := it_t c11 h
        refine a_lcmpE (x := (V6 118 (0 : Int32).toNatClampNeg)) (y := r5) C c11 dL_law_971 ?_
        refine a_if_eq (tgt := 977) C dL_law_972 (by decide) (fun _ => ?_) (fun q => absurd rfl q)
        refine a_goto (tgt := 1956) C dL_law_977 (by decide) ?_
        obtain rfl := ret1 h
        refine a_sub (lv' := [(0, .ref b), (1, .ref (ad 0)), (2, .ref (ad 109)), (3, .ref (ad 118)), (4, .ref (ad 119)), (5, .int (nI i))]) [2, 3, 4, 5, 6, 7] rfl ?_
        refine a_wid (k' := k + 8) (by omega) ?_
        exact kk
      · have h := it_f c11 h
        cases h
  · have h := it_f c9 h
    cases h
set_option maxRecDepth 20000 in
set_option maxHeartbeats 4000000 in
theorem w_law_c13 {p : Program} {l : Launch} {e : Env} {s : State} {m : MethodId} {args : Array Value} {below : List Frame} {meth : Method} {c : Code} {D : va_G} {cs : Nat → ClassId} {ad : Nat → Nat} {b0 : Nat} {Q : State → Prop} {ret9 : Option FieldType} {b L : Nat} {xs : Nat → Int32} {i k : Nat} {V W9 : VT} (C : Ctx p l s m args meth c D cs ad b0 RL cL_law 9 ret9) (hX : va_X b L xs s s.heap) (hbl : b < b0) (hL : L < 2 ^ 31) (hi : i + 4 ≤ L) (hk : k ≤ 600000) {x1 x2 x3 : Int32} (e1 : xs (i + 1) = x1) (e2 : xs (i + 2) = x2) (e3 : xs (i + 3) = x3) (h : d_law_c13 x1 x2 x3 V = some W9) (kk : AW p l e room_1 s m args below meth c D cs ad b0 Q 9 (k + 8) W9 [(0, .ref b), (1, .ref (ad 0)), (2, .ref (ad 109)), (3, .ref (ad 118)), (4, .ref (ad 119)), (5, .int (nI i))] [] 1956) : AW p l e room_1 s m args below meth c D cs ad b0 Q 9 k V [(0, .ref b), (1, .ref (ad 0)), (2, .ref (ad 109)), (3, .ref (ad 118)), (4, .ref (ad 119)), (5, .int (nI i))] [] 980 := by
  unfold d_law_c13 at h
  subst e1 e2 e3
  refine a_aload_n (q := 1) C dL_law_980 rfl rfl ?_
  refine a_aload_n (q := 3) C dL_law_981 rfl rfl ?_
  obtain ⟨r2, V3, g1, h⟩ := bw_spec h
  refine a_cSX (st := []) (k' := 1) C dL_law_982 cx_RL_167 (w_L_stuck  V r2 V3 g1) rfl rfl rfl ⟨Nat.le_of_ble_eq_true rfl, Nat.le_of_ble_eq_true rfl, by show _ ≤ 603072; omega, by show _ ≤ 7223402; omega⟩ (Nat.le_of_ble_eq_true rfl) ?_
  refine a_istore (lv' := [(6, .int r2), (0, .ref b), (1, .ref (ad 0)), (2, .ref (ad 109)), (3, .ref (ad 118)), (4, .ref (ad 119)), (5, .int (nI i))]) C dL_law_985 (by decide) rfl ?_
  refine a_aload_n (q := 3) C dL_law_987 rfl rfl ?_
  obtain ⟨r5, V6, g4, h⟩ := bw_spec h
  refine a_cVi (a := 109) (st := []) C dL_law_988 cv_RL_169 (w_X5_stuck  V3 r5 V6 g4) rfl rfl rfl rfl rfl ⟨Nat.le_of_ble_eq_true rfl, Nat.le_of_ble_eq_true rfl, by show _ ≤ 603072; omega, by show _ ≤ 7223402; omega⟩ (Nat.le_of_ble_eq_true rfl) ?_
  refine a_istore (lv' := [(7, .int r5), (6, .int r2), (0, .ref b), (1, .ref (ad 0)), (2, .ref (ad 109)), (3, .ref (ad 118)), (4, .ref (ad 119)), (5, .int (nI i))]) C dL_law_991 (by decide) rfl ?_
  refine a_aload_n (q := 4) C dL_law_993 rfl rfl ?_
  obtain ⟨r8, g7, h⟩ := bd_spec h
  refine a_cVi (a := 109) (st := []) C dL_law_994 cv_RL_125 (w_X5_thrown  V6 r8 g7) rfl rfl rfl rfl rfl ⟨Nat.le_of_ble_eq_true rfl, Nat.le_of_ble_eq_true rfl, by show _ ≤ 603072; omega, by show _ ≤ 7223402; omega⟩ (Nat.le_of_ble_eq_true rfl) ?_
  refine a_iload (q := 1) C dL_law_997 rfl ?_
  refine a_icmp_eq (tgt := 1004) C dL_law_999 (by decide) (fun c9 => ?_) (fun c9 => ?_)
  · have h := it_t c9 h
    refine a_iload (q := 1) C dL_law_1004 rfl ?_
    refine a_if_ne (tgt := 1021) C dL_law_1006 (by decide) (fun c10 => ?_) (fun c10 => ?_)
    · have h := it_f c10 h
      refine a_goto (tgt := 1956) C dL_law_1021 (by decide) ?_
      obtain rfl := ret1 h
      refine a_sub (lv' := [(0, .ref b), (1, .ref (ad 0)), (2, .ref (ad 109)), (3, .ref (ad 118)), (4, .ref (ad 119)), (5, .int (nI i))]) [2, 3, 4, 5, 6, 7] rfl ?_
      refine a_wid (k' := k + 8) (by omega) ?_
      exact kk
    · have h := it_t c10 h
      refine a_aload_n (q := 5) C dL_law_1009 rfl rfl ?_
      refine a_iconst (v := (0 : Int32)) C dL_law_1010 rfl ?_
      refine a_lald (a := 118) C dL_law_1011 rfl (in_lit (by decide)) ?_
      refine a_iload (q := 0) C dL_law_1012 rfl ?_
      refine a_i2l (v := (r5).toInt64) C dL_law_1014 rfl ?_
      by_cases c11 : (V6 118 (0 : Int32).toNatClampNeg) = r5
      · have h := it_t c11 h
        refine a_lcmpE (x := (V6 118 (0 : Int32).toNatClampNeg)) (y := r5) C c11 dL_law_1015 ?_
        refine a_if_eq (tgt := 1021) C dL_law_1016 (by decide) (fun _ => ?_) (fun q => absurd rfl q)
        refine a_goto (tgt := 1956) C dL_law_1021 (by decide) ?_
        obtain rfl := ret1 h
        refine a_sub (lv' := [(0, .ref b), (1, .ref (ad 0)), (2, .ref (ad 109)), (3, .ref (ad 118)), (4, .ref (ad 119)), (5, .int (nI i))]) [2, 3, 4, 5, 6, 7] rfl ?_
        refine a_wid (k' := k + 8) (by omega) ?_
        exact kk
      · have h := it_f c11 h
        cases h
  · have h := it_f c9 h
    cases h
set_option maxRecDepth 20000 in
set_option maxHeartbeats 4000000 in
theorem w_law_c14 {p : Program} {l : Launch} {e : Env} {s : State} {m : MethodId} {args : Array Value} {below : List Frame} {meth : Method} {c : Code} {D : va_G} {cs : Nat → ClassId} {ad : Nat → Nat} {b0 : Nat} {Q : State → Prop} {ret9 : Option FieldType} {b L : Nat} {xs : Nat → Int32} {i k : Nat} {V W9 : VT} (C : Ctx p l s m args meth c D cs ad b0 RL cL_law 9 ret9) (hX : va_X b L xs s s.heap) (hbl : b < b0) (hL : L < 2 ^ 31) (hi : i + 4 ≤ L) (hk : k ≤ 600000) {x1 x2 x3 : Int32} (e1 : xs (i + 1) = x1) (e2 : xs (i + 2) = x2) (e3 : xs (i + 3) = x3) (h : d_law_c14 x1 x2 x3 V = some W9) (kk : AW p l e room_1 s m args below meth c D cs ad b0 Q 9 (k + 8) W9 [(0, .ref b), (1, .ref (ad 0)), (2, .ref (ad 109)), (3, .ref (ad 118)), (4, .ref (ad 119)), (5, .int (nI i))] [] 1956) : AW p l e room_1 s m args below meth c D cs ad b0 Q 9 k V [(0, .ref b), (1, .ref (ad 0)), (2, .ref (ad 109)), (3, .ref (ad 118)), (4, .ref (ad 119)), (5, .int (nI i))] [] 1024 := by
  unfold d_law_c14 at h
  subst e1 e2 e3
  refine a_aload_n (q := 1) C dL_law_1024 rfl rfl ?_
  refine a_aload_n (q := 3) C dL_law_1025 rfl rfl ?_
  obtain ⟨r2, V3, g1, h⟩ := bw_spec h
  refine a_cSX (st := []) (k' := 1) C dL_law_1026 cx_RL_170 (w_L_next  V r2 V3 g1) rfl rfl rfl ⟨Nat.le_of_ble_eq_true rfl, Nat.le_of_ble_eq_true rfl, by show _ ≤ 603072; omega, by show _ ≤ 7223402; omega⟩ (Nat.le_of_ble_eq_true rfl) ?_
  refine a_istore (lv' := [(6, .int r2), (0, .ref b), (1, .ref (ad 0)), (2, .ref (ad 109)), (3, .ref (ad 118)), (4, .ref (ad 119)), (5, .int (nI i))]) C dL_law_1029 (by decide) rfl ?_
  refine a_aload_n (q := 3) C dL_law_1031 rfl rfl ?_
  obtain ⟨r5, V6, g4, h⟩ := bw_spec h
  refine a_cVi (a := 109) (st := []) C dL_law_1032 cv_RL_172 (w_X5_next  V3 r5 V6 g4) rfl rfl rfl rfl rfl ⟨Nat.le_of_ble_eq_true rfl, Nat.le_of_ble_eq_true rfl, by show _ ≤ 603072; omega, by show _ ≤ 7223402; omega⟩ (Nat.le_of_ble_eq_true rfl) ?_
  refine a_istore (lv' := [(7, .int r5), (6, .int r2), (0, .ref b), (1, .ref (ad 0)), (2, .ref (ad 109)), (3, .ref (ad 118)), (4, .ref (ad 119)), (5, .int (nI i))]) C dL_law_1035 (by decide) rfl ?_
  refine a_aload_n (q := 4) C dL_law_1037 rfl rfl ?_
  obtain ⟨r8, g7, h⟩ := bd_spec h
  refine a_cVi (a := 109) (st := []) C dL_law_1038 cv_RL_125 (w_X5_thrown  V6 r8 g7) rfl rfl rfl rfl rfl ⟨Nat.le_of_ble_eq_true rfl, Nat.le_of_ble_eq_true rfl, by show _ ≤ 603072; omega, by show _ ≤ 7223402; omega⟩ (Nat.le_of_ble_eq_true rfl) ?_
  refine a_iload (q := 1) C dL_law_1041 rfl ?_
  refine a_icmp_eq (tgt := 1048) C dL_law_1043 (by decide) (fun c9 => ?_) (fun c9 => ?_)
  · have h := it_t c9 h
    refine a_iload (q := 1) C dL_law_1048 rfl ?_
    refine a_if_ne (tgt := 1065) C dL_law_1050 (by decide) (fun c10 => ?_) (fun c10 => ?_)
    · have h := it_f c10 h
      refine a_goto (tgt := 1956) C dL_law_1065 (by decide) ?_
      obtain rfl := ret1 h
      refine a_sub (lv' := [(0, .ref b), (1, .ref (ad 0)), (2, .ref (ad 109)), (3, .ref (ad 118)), (4, .ref (ad 119)), (5, .int (nI i))]) [2, 3, 4, 5, 6, 7] rfl ?_
      refine a_wid (k' := k + 8) (by omega) ?_
      exact kk
    · have h := it_t c10 h
      refine a_aload_n (q := 5) C dL_law_1053 rfl rfl ?_
      refine a_iconst (v := (0 : Int32)) C dL_law_1054 rfl ?_
      refine a_lald (a := 118) C dL_law_1055 rfl (in_lit (by decide)) ?_
      refine a_iload (q := 0) C dL_law_1056 rfl ?_
      refine a_i2l (v := (r5).toInt64) C dL_law_1058 rfl ?_
      by_cases c11 : (V6 118 (0 : Int32).toNatClampNeg) = r5
      · have h := it_t c11 h
        refine a_lcmpE (x := (V6 118 (0 : Int32).toNatClampNeg)) (y := r5) C c11 dL_law_1059 ?_
        refine a_if_eq (tgt := 1065) C dL_law_1060 (by decide) (fun _ => ?_) (fun q => absurd rfl q)
        refine a_goto (tgt := 1956) C dL_law_1065 (by decide) ?_
        obtain rfl := ret1 h
        refine a_sub (lv' := [(0, .ref b), (1, .ref (ad 0)), (2, .ref (ad 109)), (3, .ref (ad 118)), (4, .ref (ad 119)), (5, .int (nI i))]) [2, 3, 4, 5, 6, 7] rfl ?_
        refine a_wid (k' := k + 8) (by omega) ?_
        exact kk
      · have h := it_f c11 h
        cases h
  · have h := it_f c9 h
    cases h
set_option maxRecDepth 20000 in
set_option maxHeartbeats 4000000 in
theorem w_law_c15 {p : Program} {l : Launch} {e : Env} {s : State} {m : MethodId} {args : Array Value} {below : List Frame} {meth : Method} {c : Code} {D : va_G} {cs : Nat → ClassId} {ad : Nat → Nat} {b0 : Nat} {Q : State → Prop} {ret9 : Option FieldType} {b L : Nat} {xs : Nat → Int32} {i k : Nat} {V W9 : VT} (C : Ctx p l s m args meth c D cs ad b0 RL cL_law 9 ret9) (hX : va_X b L xs s s.heap) (hbl : b < b0) (hL : L < 2 ^ 31) (hi : i + 4 ≤ L) (hk : k ≤ 600000) {x1 x2 x3 : Int32} (e1 : xs (i + 1) = x1) (e2 : xs (i + 2) = x2) (e3 : xs (i + 3) = x3) (h : d_law_c15 x1 x2 x3 V = some W9) (kk : AW p l e room_1 s m args below meth c D cs ad b0 Q 9 (k + 8) W9 [(0, .ref b), (1, .ref (ad 0)), (2, .ref (ad 109)), (3, .ref (ad 118)), (4, .ref (ad 119)), (5, .int (nI i))] [] 1956) : AW p l e room_1 s m args below meth c D cs ad b0 Q 9 k V [(0, .ref b), (1, .ref (ad 0)), (2, .ref (ad 109)), (3, .ref (ad 118)), (4, .ref (ad 119)), (5, .int (nI i))] [] 1068 := by
  unfold d_law_c15 at h
  subst e1 e2 e3
  refine a_aload_n (q := 1) C dL_law_1068 rfl rfl ?_
  refine a_aload_n (q := 0) C dL_law_1069 rfl rfl ?_
  refine a_iload (q := 5) C dL_law_1070 rfl ?_
  refine a_iconst (v := (1 : Int32)) C dL_law_1072 rfl ?_
  refine a_iadd C dL_law_1073 ?_
  refine a_sld C hX hbl (nI_add i 1) (show i + 1 < L by omega) hL dL_law_1074 ?_
  show AW p l e room_1 s m args below meth c D cs ad b0 Q 9 k V [(0, .ref b), (1, .ref (ad 0)), (2, .ref (ad 109)), (3, .ref (ad 118)), (4, .ref (ad 119)), (5, .int (nI i))] [.int (xs (i + 1)), .ref (ad 0)] _
  refine a_aload_n (q := 3) C dL_law_1075 rfl rfl ?_
  obtain ⟨r2, V3, g1, h⟩ := bw_spec h
  refine a_cSX (st := []) (k' := 2) C dL_law_1076 cx_RL_173 (w_L_gentle (xs (i + 1)) V r2 V3 g1) rfl rfl rfl ⟨Nat.le_of_ble_eq_true rfl, Nat.le_of_ble_eq_true rfl, by show _ ≤ 603072; omega, by show _ ≤ 7223402; omega⟩ (Nat.le_of_ble_eq_true rfl) ?_
  refine a_istore (lv' := [(6, .int r2), (0, .ref b), (1, .ref (ad 0)), (2, .ref (ad 109)), (3, .ref (ad 118)), (4, .ref (ad 119)), (5, .int (nI i))]) C dL_law_1079 (by decide) rfl ?_
  refine a_aload_n (q := 3) C dL_law_1081 rfl rfl ?_
  refine a_aload_n (q := 1) C dL_law_1082 rfl rfl ?_
  refine a_iload (q := 6) C dL_law_1083 rfl ?_
  refine a_iconst (v := (1 : Int32)) C dL_law_1085 rfl ?_
  refine a_iadd C dL_law_1086 ?_
  refine a_sld C hX hbl (nI_add i 1) (show i + 1 < L by omega) hL dL_law_1087 ?_
  show AW p l e room_1 s m args below meth c D cs ad b0 Q 9 (k + 2) V3 [(6, .int r2), (0, .ref b), (1, .ref (ad 0)), (2, .ref (ad 109)), (3, .ref (ad 118)), (4, .ref (ad 119)), (5, .int (nI i))] [.int (xs (i + 1)), .ref (ad 109)] _
  obtain ⟨r5, V6, g4, h⟩ := bw_spec h
  refine a_cVi (a := 109) (st := []) C dL_law_1088 cv_RL_175 (w_X5_gentle (xs (i + 1)) V3 r5 V6 g4) rfl rfl rfl rfl rfl ⟨Nat.le_of_ble_eq_true rfl, Nat.le_of_ble_eq_true rfl, by show _ ≤ 603072; omega, by show _ ≤ 7223402; omega⟩ (Nat.le_of_ble_eq_true rfl) ?_
  refine a_istore (lv' := [(7, .int r5), (6, .int r2), (0, .ref b), (1, .ref (ad 0)), (2, .ref (ad 109)), (3, .ref (ad 118)), (4, .ref (ad 119)), (5, .int (nI i))]) C dL_law_1091 (by decide) rfl ?_
  refine a_aload_n (q := 4) C dL_law_1093 rfl rfl ?_
  obtain ⟨r8, g7, h⟩ := bd_spec h
  refine a_cVi (a := 109) (st := []) C dL_law_1094 cv_RL_125 (w_X5_thrown  V6 r8 g7) rfl rfl rfl rfl rfl ⟨Nat.le_of_ble_eq_true rfl, Nat.le_of_ble_eq_true rfl, by show _ ≤ 603072; omega, by show _ ≤ 7223402; omega⟩ (Nat.le_of_ble_eq_true rfl) ?_
  refine a_iload (q := 1) C dL_law_1097 rfl ?_
  refine a_icmp_eq (tgt := 1104) C dL_law_1099 (by decide) (fun c9 => ?_) (fun c9 => ?_)
  · have h := it_t c9 h
    refine a_iload (q := 1) C dL_law_1104 rfl ?_
    refine a_if_ne (tgt := 1121) C dL_law_1106 (by decide) (fun c10 => ?_) (fun c10 => ?_)
    · have h := it_f c10 h
      refine a_goto (tgt := 1956) C dL_law_1121 (by decide) ?_
      obtain rfl := ret1 h
      refine a_sub (lv' := [(0, .ref b), (1, .ref (ad 0)), (2, .ref (ad 109)), (3, .ref (ad 118)), (4, .ref (ad 119)), (5, .int (nI i))]) [2, 3, 4, 5, 6, 7] rfl ?_
      refine a_wid (k' := k + 8) (by omega) ?_
      exact kk
    · have h := it_t c10 h
      refine a_aload_n (q := 5) C dL_law_1109 rfl rfl ?_
      refine a_iconst (v := (0 : Int32)) C dL_law_1110 rfl ?_
      refine a_lald (a := 118) C dL_law_1111 rfl (in_lit (by decide)) ?_
      refine a_iload (q := 0) C dL_law_1112 rfl ?_
      refine a_i2l (v := (r5).toInt64) C dL_law_1114 rfl ?_
      by_cases c11 : (V6 118 (0 : Int32).toNatClampNeg) = r5
      · have h := it_t c11 h
        refine a_lcmpE (x := (V6 118 (0 : Int32).toNatClampNeg)) (y := r5) C c11 dL_law_1115 ?_
        refine a_if_eq (tgt := 1121) C dL_law_1116 (by decide) (fun _ => ?_) (fun q => absurd rfl q)
        refine a_goto (tgt := 1956) C dL_law_1121 (by decide) ?_
        obtain rfl := ret1 h
        refine a_sub (lv' := [(0, .ref b), (1, .ref (ad 0)), (2, .ref (ad 109)), (3, .ref (ad 118)), (4, .ref (ad 119)), (5, .int (nI i))]) [2, 3, 4, 5, 6, 7] rfl ?_
        refine a_wid (k' := k + 8) (by omega) ?_
        exact kk
      · have h := it_f c11 h
        cases h
  · have h := it_f c9 h
    cases h
set_option maxRecDepth 20000 in
set_option maxHeartbeats 4000000 in
theorem w_law_c16 {p : Program} {l : Launch} {e : Env} {s : State} {m : MethodId} {args : Array Value} {below : List Frame} {meth : Method} {c : Code} {D : va_G} {cs : Nat → ClassId} {ad : Nat → Nat} {b0 : Nat} {Q : State → Prop} {ret9 : Option FieldType} {b L : Nat} {xs : Nat → Int32} {i k : Nat} {V W9 : VT} (C : Ctx p l s m args meth c D cs ad b0 RL cL_law 9 ret9) (hX : va_X b L xs s s.heap) (hbl : b < b0) (hL : L < 2 ^ 31) (hi : i + 4 ≤ L) (hk : k ≤ 600000) {x1 x2 x3 : Int32} (e1 : xs (i + 1) = x1) (e2 : xs (i + 2) = x2) (e3 : xs (i + 3) = x3) (h : d_law_c16 x1 x2 x3 V = some W9) (kk : AW p l e room_1 s m args below meth c D cs ad b0 Q 9 (k + 8) W9 [(0, .ref b), (1, .ref (ad 0)), (2, .ref (ad 109)), (3, .ref (ad 118)), (4, .ref (ad 119)), (5, .int (nI i))] [] 1956) : AW p l e room_1 s m args below meth c D cs ad b0 Q 9 k V [(0, .ref b), (1, .ref (ad 0)), (2, .ref (ad 109)), (3, .ref (ad 118)), (4, .ref (ad 119)), (5, .int (nI i))] [] 1124 := by
  unfold d_law_c16 at h
  subst e1 e2 e3
  refine a_aload_n (q := 1) C dL_law_1124 rfl rfl ?_
  refine a_aload_n (q := 0) C dL_law_1125 rfl rfl ?_
  refine a_iload (q := 5) C dL_law_1126 rfl ?_
  refine a_iconst (v := (1 : Int32)) C dL_law_1128 rfl ?_
  refine a_iadd C dL_law_1129 ?_
  refine a_sld C hX hbl (nI_add i 1) (show i + 1 < L by omega) hL dL_law_1130 ?_
  show AW p l e room_1 s m args below meth c D cs ad b0 Q 9 k V [(0, .ref b), (1, .ref (ad 0)), (2, .ref (ad 109)), (3, .ref (ad 118)), (4, .ref (ad 119)), (5, .int (nI i))] [.int (xs (i + 1)), .ref (ad 0)] _
  refine a_aload_n (q := 0) C dL_law_1131 rfl rfl ?_
  refine a_iload (q := 5) C dL_law_1132 rfl ?_
  refine a_iconst (v := (2 : Int32)) C dL_law_1134 rfl ?_
  refine a_iadd C dL_law_1135 ?_
  refine a_sld C hX hbl (nI_add i 2) (show i + 2 < L by omega) hL dL_law_1136 ?_
  show AW p l e room_1 s m args below meth c D cs ad b0 Q 9 k V [(0, .ref b), (1, .ref (ad 0)), (2, .ref (ad 109)), (3, .ref (ad 118)), (4, .ref (ad 119)), (5, .int (nI i))] [.int (xs (i + 2)), .int (xs (i + 1)), .ref (ad 0)] _
  refine a_aload_n (q := 0) C dL_law_1137 rfl rfl ?_
  refine a_iload (q := 5) C dL_law_1138 rfl ?_
  refine a_iconst (v := (3 : Int32)) C dL_law_1140 rfl ?_
  refine a_iadd C dL_law_1141 ?_
  refine a_sld C hX hbl (nI_add i 3) (show i + 3 < L by omega) hL dL_law_1142 ?_
  show AW p l e room_1 s m args below meth c D cs ad b0 Q 9 k V [(0, .ref b), (1, .ref (ad 0)), (2, .ref (ad 109)), (3, .ref (ad 118)), (4, .ref (ad 119)), (5, .int (nI i))] [.int (xs (i + 3)), .int (xs (i + 2)), .int (xs (i + 1)), .ref (ad 0)] _
  refine a_aload_n (q := 3) C dL_law_1143 rfl rfl ?_
  obtain ⟨r2, V3, g1, h⟩ := bw_spec h
  refine a_cSX (st := []) (k' := 3) C dL_law_1144 cx_RL_176 (w_L_wish (xs (i + 1)) (xs (i + 2)) (xs (i + 3)) V r2 V3 g1) rfl rfl rfl ⟨Nat.le_of_ble_eq_true rfl, Nat.le_of_ble_eq_true rfl, by show _ ≤ 603072; omega, by show _ ≤ 7223402; omega⟩ (Nat.le_of_ble_eq_true rfl) ?_
  refine a_istore (lv' := [(6, .int r2), (0, .ref b), (1, .ref (ad 0)), (2, .ref (ad 109)), (3, .ref (ad 118)), (4, .ref (ad 119)), (5, .int (nI i))]) C dL_law_1147 (by decide) rfl ?_
  refine a_aload_n (q := 3) C dL_law_1149 rfl rfl ?_
  refine a_aload_n (q := 1) C dL_law_1150 rfl rfl ?_
  refine a_iload (q := 6) C dL_law_1151 rfl ?_
  refine a_iconst (v := (1 : Int32)) C dL_law_1153 rfl ?_
  refine a_iadd C dL_law_1154 ?_
  refine a_sld C hX hbl (nI_add i 1) (show i + 1 < L by omega) hL dL_law_1155 ?_
  show AW p l e room_1 s m args below meth c D cs ad b0 Q 9 (k + 3) V3 [(6, .int r2), (0, .ref b), (1, .ref (ad 0)), (2, .ref (ad 109)), (3, .ref (ad 118)), (4, .ref (ad 119)), (5, .int (nI i))] [.int (xs (i + 1)), .ref (ad 109)] _
  refine a_aload_n (q := 1) C dL_law_1156 rfl rfl ?_
  refine a_iload (q := 6) C dL_law_1157 rfl ?_
  refine a_iconst (v := (2 : Int32)) C dL_law_1159 rfl ?_
  refine a_iadd C dL_law_1160 ?_
  refine a_sld C hX hbl (nI_add i 2) (show i + 2 < L by omega) hL dL_law_1161 ?_
  show AW p l e room_1 s m args below meth c D cs ad b0 Q 9 (k + 3) V3 [(6, .int r2), (0, .ref b), (1, .ref (ad 0)), (2, .ref (ad 109)), (3, .ref (ad 118)), (4, .ref (ad 119)), (5, .int (nI i))] [.int (xs (i + 2)), .int (xs (i + 1)), .ref (ad 109)] _
  refine a_aload_n (q := 1) C dL_law_1162 rfl rfl ?_
  refine a_iload (q := 6) C dL_law_1163 rfl ?_
  refine a_iconst (v := (3 : Int32)) C dL_law_1165 rfl ?_
  refine a_iadd C dL_law_1166 ?_
  refine a_sld C hX hbl (nI_add i 3) (show i + 3 < L by omega) hL dL_law_1167 ?_
  show AW p l e room_1 s m args below meth c D cs ad b0 Q 9 (k + 3) V3 [(6, .int r2), (0, .ref b), (1, .ref (ad 0)), (2, .ref (ad 109)), (3, .ref (ad 118)), (4, .ref (ad 119)), (5, .int (nI i))] [.int (xs (i + 3)), .int (xs (i + 2)), .int (xs (i + 1)), .ref (ad 109)] _
  obtain ⟨r5, V6, g4, h⟩ := bw_spec h
  refine a_cVi (a := 109) (st := []) C dL_law_1168 cv_RL_179 (w_X5_wish (xs (i + 1)) (xs (i + 2)) (xs (i + 3)) V3 r5 V6 g4) rfl rfl rfl rfl rfl ⟨Nat.le_of_ble_eq_true rfl, Nat.le_of_ble_eq_true rfl, by show _ ≤ 603072; omega, by show _ ≤ 7223402; omega⟩ (Nat.le_of_ble_eq_true rfl) ?_
  refine a_istore (lv' := [(7, .int r5), (6, .int r2), (0, .ref b), (1, .ref (ad 0)), (2, .ref (ad 109)), (3, .ref (ad 118)), (4, .ref (ad 119)), (5, .int (nI i))]) C dL_law_1171 (by decide) rfl ?_
  refine a_aload_n (q := 4) C dL_law_1173 rfl rfl ?_
  obtain ⟨r8, g7, h⟩ := bd_spec h
  refine a_cVi (a := 109) (st := []) C dL_law_1174 cv_RL_125 (w_X5_thrown  V6 r8 g7) rfl rfl rfl rfl rfl ⟨Nat.le_of_ble_eq_true rfl, Nat.le_of_ble_eq_true rfl, by show _ ≤ 603072; omega, by show _ ≤ 7223402; omega⟩ (Nat.le_of_ble_eq_true rfl) ?_
  refine a_iload (q := 1) C dL_law_1177 rfl ?_
  refine a_icmp_eq (tgt := 1184) C dL_law_1179 (by decide) (fun c9 => ?_) (fun c9 => ?_)
  · have h := it_t c9 h
    refine a_iload (q := 1) C dL_law_1184 rfl ?_
    refine a_if_ne (tgt := 1201) C dL_law_1186 (by decide) (fun c10 => ?_) (fun c10 => ?_)
    · have h := it_f c10 h
      refine a_goto (tgt := 1956) C dL_law_1201 (by decide) ?_
      obtain rfl := ret1 h
      refine a_sub (lv' := [(0, .ref b), (1, .ref (ad 0)), (2, .ref (ad 109)), (3, .ref (ad 118)), (4, .ref (ad 119)), (5, .int (nI i))]) [2, 3, 4, 5, 6, 7] rfl ?_
      refine a_wid (k' := k + 8) (by omega) ?_
      exact kk
    · have h := it_t c10 h
      refine a_aload_n (q := 5) C dL_law_1189 rfl rfl ?_
      refine a_iconst (v := (0 : Int32)) C dL_law_1190 rfl ?_
      refine a_lald (a := 118) C dL_law_1191 rfl (in_lit (by decide)) ?_
      refine a_iload (q := 0) C dL_law_1192 rfl ?_
      refine a_i2l (v := (r5).toInt64) C dL_law_1194 rfl ?_
      by_cases c11 : (V6 118 (0 : Int32).toNatClampNeg) = r5
      · have h := it_t c11 h
        refine a_lcmpE (x := (V6 118 (0 : Int32).toNatClampNeg)) (y := r5) C c11 dL_law_1195 ?_
        refine a_if_eq (tgt := 1201) C dL_law_1196 (by decide) (fun _ => ?_) (fun q => absurd rfl q)
        refine a_goto (tgt := 1956) C dL_law_1201 (by decide) ?_
        obtain rfl := ret1 h
        refine a_sub (lv' := [(0, .ref b), (1, .ref (ad 0)), (2, .ref (ad 109)), (3, .ref (ad 118)), (4, .ref (ad 119)), (5, .int (nI i))]) [2, 3, 4, 5, 6, 7] rfl ?_
        refine a_wid (k' := k + 8) (by omega) ?_
        exact kk
      · have h := it_f c11 h
        cases h
  · have h := it_f c9 h
    cases h
set_option maxRecDepth 20000 in
set_option maxHeartbeats 4000000 in
theorem w_law_c17 {p : Program} {l : Launch} {e : Env} {s : State} {m : MethodId} {args : Array Value} {below : List Frame} {meth : Method} {c : Code} {D : va_G} {cs : Nat → ClassId} {ad : Nat → Nat} {b0 : Nat} {Q : State → Prop} {ret9 : Option FieldType} {b L : Nat} {xs : Nat → Int32} {i k : Nat} {V W9 : VT} (C : Ctx p l s m args meth c D cs ad b0 RL cL_law 9 ret9) (hX : va_X b L xs s s.heap) (hbl : b < b0) (hL : L < 2 ^ 31) (hi : i + 4 ≤ L) (hk : k ≤ 600000) {x1 x2 x3 : Int32} (e1 : xs (i + 1) = x1) (e2 : xs (i + 2) = x2) (e3 : xs (i + 3) = x3) (h : d_law_c17 x1 x2 x3 V = some W9) (kk : AW p l e room_1 s m args below meth c D cs ad b0 Q 9 (k + 8) W9 [(0, .ref b), (1, .ref (ad 0)), (2, .ref (ad 109)), (3, .ref (ad 118)), (4, .ref (ad 119)), (5, .int (nI i))] [] 1956) : AW p l e room_1 s m args below meth c D cs ad b0 Q 9 k V [(0, .ref b), (1, .ref (ad 0)), (2, .ref (ad 109)), (3, .ref (ad 118)), (4, .ref (ad 119)), (5, .int (nI i))] [] 1204 := by
  unfold d_law_c17 at h
  subst e1 e2 e3
  refine a_aload_n (q := 1) C dL_law_1204 rfl rfl ?_
  obtain ⟨r2, g1, h⟩ := bd_spec h
  refine a_cVi (a := 0) (st := []) C dL_law_1205 cv_RL_180 (w_X4_fulfilled  V r2 g1) rfl rfl rfl rfl rfl ⟨Nat.le_of_ble_eq_true rfl, Nat.le_of_ble_eq_true rfl, by show _ ≤ 603072; omega, by show _ ≤ 7223402; omega⟩ (Nat.le_of_ble_eq_true rfl) ?_
  refine a_aload_n (q := 2) C dL_law_1208 rfl rfl ?_
  obtain ⟨r4, V5, g3, h⟩ := bw_spec h
  refine a_cVi (a := 109) (st := [.int r2]) C dL_law_1209 cv_RL_183 (w_X5_fulfilled  V r4 V5 g3) rfl rfl rfl rfl rfl ⟨Nat.le_of_ble_eq_true rfl, Nat.le_of_ble_eq_true rfl, by show _ ≤ 603072; omega, by show _ ≤ 7223402; omega⟩ (Nat.le_of_ble_eq_true rfl) ?_
  refine a_icmp_eq (tgt := 1956) C dL_law_1212 (by decide) (fun c6 => ?_) (fun c6 => ?_)
  · have h := it_t c6 h
    obtain rfl := ret1 h
    refine a_sub (lv' := [(0, .ref b), (1, .ref (ad 0)), (2, .ref (ad 109)), (3, .ref (ad 118)), (4, .ref (ad 119)), (5, .int (nI i))]) [0, 1, 2, 3, 4, 5] rfl ?_
    refine a_wid (k' := k + 8) (by omega) ?_
    exact kk
  · have h := it_f c6 h
    cases h
set_option maxRecDepth 20000 in
set_option maxHeartbeats 4000000 in
theorem w_law_c18 {p : Program} {l : Launch} {e : Env} {s : State} {m : MethodId} {args : Array Value} {below : List Frame} {meth : Method} {c : Code} {D : va_G} {cs : Nat → ClassId} {ad : Nat → Nat} {b0 : Nat} {Q : State → Prop} {ret9 : Option FieldType} {b L : Nat} {xs : Nat → Int32} {i k : Nat} {V W9 : VT} (C : Ctx p l s m args meth c D cs ad b0 RL cL_law 9 ret9) (hX : va_X b L xs s s.heap) (hbl : b < b0) (hL : L < 2 ^ 31) (hi : i + 4 ≤ L) (hk : k ≤ 600000) {x1 x2 x3 : Int32} (e1 : xs (i + 1) = x1) (e2 : xs (i + 2) = x2) (e3 : xs (i + 3) = x3) (h : d_law_c18 x1 x2 x3 V = some W9) (kk : AW p l e room_1 s m args below meth c D cs ad b0 Q 9 (k + 8) W9 [(0, .ref b), (1, .ref (ad 0)), (2, .ref (ad 109)), (3, .ref (ad 118)), (4, .ref (ad 119)), (5, .int (nI i))] [] 1956) : AW p l e room_1 s m args below meth c D cs ad b0 Q 9 k V [(0, .ref b), (1, .ref (ad 0)), (2, .ref (ad 109)), (3, .ref (ad 118)), (4, .ref (ad 119)), (5, .int (nI i))] [] 1217 := by
  unfold d_law_c18 at h
  subst e1 e2 e3
  refine a_aload_n (q := 1) C dL_law_1217 rfl rfl ?_
  obtain ⟨r2, V3, g1, h⟩ := bw_spec h
  refine a_cVi (a := 0) (st := []) C dL_law_1218 cv_RL_184 (w_X4_ways  V r2 V3 g1) rfl rfl rfl rfl rfl ⟨Nat.le_of_ble_eq_true rfl, Nat.le_of_ble_eq_true rfl, by show _ ≤ 603072; omega, by show _ ≤ 7223402; omega⟩ (Nat.le_of_ble_eq_true rfl) ?_
  refine a_aload_n (q := 2) C dL_law_1221 rfl rfl ?_
  obtain ⟨r5, V6, g4, h⟩ := bw_spec h
  refine a_cVi (a := 109) (st := [.int r2]) C dL_law_1222 cv_RL_187 (w_X5_ways  V3 r5 V6 g4) rfl rfl rfl rfl rfl ⟨Nat.le_of_ble_eq_true rfl, Nat.le_of_ble_eq_true rfl, by show _ ≤ 603072; omega, by show _ ≤ 7223402; omega⟩ (Nat.le_of_ble_eq_true rfl) ?_
  refine a_icmp_eq (tgt := 1956) C dL_law_1225 (by decide) (fun c7 => ?_) (fun c7 => ?_)
  · have h := it_t c7 h
    obtain rfl := ret1 h
    refine a_sub (lv' := [(0, .ref b), (1, .ref (ad 0)), (2, .ref (ad 109)), (3, .ref (ad 118)), (4, .ref (ad 119)), (5, .int (nI i))]) [0, 1, 2, 3, 4, 5] rfl ?_
    refine a_wid (k' := k + 8) (by omega) ?_
    exact kk
  · have h := it_f c7 h
    cases h
set_option maxRecDepth 20000 in
set_option maxHeartbeats 4000000 in
theorem w_law_c19 {p : Program} {l : Launch} {e : Env} {s : State} {m : MethodId} {args : Array Value} {below : List Frame} {meth : Method} {c : Code} {D : va_G} {cs : Nat → ClassId} {ad : Nat → Nat} {b0 : Nat} {Q : State → Prop} {ret9 : Option FieldType} {b L : Nat} {xs : Nat → Int32} {i k : Nat} {V W9 : VT} (C : Ctx p l s m args meth c D cs ad b0 RL cL_law 9 ret9) (hX : va_X b L xs s s.heap) (hbl : b < b0) (hL : L < 2 ^ 31) (hi : i + 4 ≤ L) (hk : k ≤ 600000) {x1 x2 x3 : Int32} (e1 : xs (i + 1) = x1) (e2 : xs (i + 2) = x2) (e3 : xs (i + 3) = x3) (h : d_law_c19 x1 x2 x3 V = some W9) (kk : AW p l e room_1 s m args below meth c D cs ad b0 Q 9 (k + 8) W9 [(0, .ref b), (1, .ref (ad 0)), (2, .ref (ad 109)), (3, .ref (ad 118)), (4, .ref (ad 119)), (5, .int (nI i))] [] 1956) : AW p l e room_1 s m args below meth c D cs ad b0 Q 9 k V [(0, .ref b), (1, .ref (ad 0)), (2, .ref (ad 109)), (3, .ref (ad 118)), (4, .ref (ad 119)), (5, .int (nI i))] [] 1230 := by
  unfold d_law_c19 at h
  subst e1 e2 e3
  refine a_aload_n (q := 1) C dL_law_1230 rfl rfl ?_
  obtain ⟨r2, V3, g1, h⟩ := bw_spec h
  refine a_cVi (a := 0) (st := []) C dL_law_1231 cv_RL_188 (w_X4_waysAgain  V r2 V3 g1) rfl rfl rfl rfl rfl ⟨Nat.le_of_ble_eq_true rfl, Nat.le_of_ble_eq_true rfl, by show _ ≤ 603072; omega, by show _ ≤ 7223402; omega⟩ (Nat.le_of_ble_eq_true rfl) ?_
  refine a_aload_n (q := 2) C dL_law_1234 rfl rfl ?_
  obtain ⟨r5, V6, g4, h⟩ := bw_spec h
  refine a_cVi (a := 109) (st := [.int r2]) C dL_law_1235 cv_RL_191 (w_X5_waysAgain  V3 r5 V6 g4) rfl rfl rfl rfl rfl ⟨Nat.le_of_ble_eq_true rfl, Nat.le_of_ble_eq_true rfl, by show _ ≤ 603072; omega, by show _ ≤ 7223402; omega⟩ (Nat.le_of_ble_eq_true rfl) ?_
  refine a_icmp_eq (tgt := 1956) C dL_law_1238 (by decide) (fun c7 => ?_) (fun c7 => ?_)
  · have h := it_t c7 h
    obtain rfl := ret1 h
    refine a_sub (lv' := [(0, .ref b), (1, .ref (ad 0)), (2, .ref (ad 109)), (3, .ref (ad 118)), (4, .ref (ad 119)), (5, .int (nI i))]) [0, 1, 2, 3, 4, 5] rfl ?_
    refine a_wid (k' := k + 8) (by omega) ?_
    exact kk
  · have h := it_f c7 h
    cases h
set_option maxRecDepth 20000 in
set_option maxHeartbeats 4000000 in
theorem w_law_c20 {p : Program} {l : Launch} {e : Env} {s : State} {m : MethodId} {args : Array Value} {below : List Frame} {meth : Method} {c : Code} {D : va_G} {cs : Nat → ClassId} {ad : Nat → Nat} {b0 : Nat} {Q : State → Prop} {ret9 : Option FieldType} {b L : Nat} {xs : Nat → Int32} {i k : Nat} {V W9 : VT} (C : Ctx p l s m args meth c D cs ad b0 RL cL_law 9 ret9) (hX : va_X b L xs s s.heap) (hbl : b < b0) (hL : L < 2 ^ 31) (hi : i + 4 ≤ L) (hk : k ≤ 600000) {x1 x2 x3 : Int32} (e1 : xs (i + 1) = x1) (e2 : xs (i + 2) = x2) (e3 : xs (i + 3) = x3) (h : d_law_c20 x1 x2 x3 V = some W9) (kk : AW p l e room_1 s m args below meth c D cs ad b0 Q 9 (k + 8) W9 [(0, .ref b), (1, .ref (ad 0)), (2, .ref (ad 109)), (3, .ref (ad 118)), (4, .ref (ad 119)), (5, .int (nI i))] [] 1956) : AW p l e room_1 s m args below meth c D cs ad b0 Q 9 k V [(0, .ref b), (1, .ref (ad 0)), (2, .ref (ad 109)), (3, .ref (ad 118)), (4, .ref (ad 119)), (5, .int (nI i))] [] 1243 := by
  unfold d_law_c20 at h
  subst e1 e2 e3
  refine a_aload_n (q := 1) C dL_law_1243 rfl rfl ?_
  refine a_aload_n (q := 0) C dL_law_1244 rfl rfl ?_
  refine a_iload (q := 5) C dL_law_1245 rfl ?_
  refine a_iconst (v := (1 : Int32)) C dL_law_1247 rfl ?_
  refine a_iadd C dL_law_1248 ?_
  refine a_sld C hX hbl (nI_add i 1) (show i + 1 < L by omega) hL dL_law_1249 ?_
  show AW p l e room_1 s m args below meth c D cs ad b0 Q 9 k V [(0, .ref b), (1, .ref (ad 0)), (2, .ref (ad 109)), (3, .ref (ad 118)), (4, .ref (ad 119)), (5, .int (nI i))] [.int (xs (i + 1)), .ref (ad 0)] _
  refine a_aload_n (q := 3) C dL_law_1250 rfl rfl ?_
  obtain ⟨r2, V3, g1, h⟩ := bw_spec h
  refine a_cSX (st := []) (k' := 2) C dL_law_1251 cx_RL_192 (w_L_waysFor (xs (i + 1)) V r2 V3 g1) rfl rfl rfl ⟨Nat.le_of_ble_eq_true rfl, Nat.le_of_ble_eq_true rfl, by show _ ≤ 603072; omega, by show _ ≤ 7223402; omega⟩ (Nat.le_of_ble_eq_true rfl) ?_
  refine a_istore (lv' := [(6, .int r2), (0, .ref b), (1, .ref (ad 0)), (2, .ref (ad 109)), (3, .ref (ad 118)), (4, .ref (ad 119)), (5, .int (nI i))]) C dL_law_1254 (by decide) rfl ?_
  refine a_aload_n (q := 3) C dL_law_1256 rfl rfl ?_
  refine a_aload_n (q := 1) C dL_law_1257 rfl rfl ?_
  refine a_iload (q := 6) C dL_law_1258 rfl ?_
  refine a_iconst (v := (1 : Int32)) C dL_law_1260 rfl ?_
  refine a_iadd C dL_law_1261 ?_
  refine a_sld C hX hbl (nI_add i 1) (show i + 1 < L by omega) hL dL_law_1262 ?_
  show AW p l e room_1 s m args below meth c D cs ad b0 Q 9 (k + 2) V3 [(6, .int r2), (0, .ref b), (1, .ref (ad 0)), (2, .ref (ad 109)), (3, .ref (ad 118)), (4, .ref (ad 119)), (5, .int (nI i))] [.int (xs (i + 1)), .ref (ad 109)] _
  obtain ⟨r5, V6, g4, h⟩ := bw_spec h
  refine a_cVi (a := 109) (st := []) C dL_law_1263 cv_RL_194 (w_X5_waysFor (xs (i + 1)) V3 r5 V6 g4) rfl rfl rfl rfl rfl ⟨Nat.le_of_ble_eq_true rfl, Nat.le_of_ble_eq_true rfl, by show _ ≤ 603072; omega, by show _ ≤ 7223402; omega⟩ (Nat.le_of_ble_eq_true rfl) ?_
  refine a_istore (lv' := [(7, .int r5), (6, .int r2), (0, .ref b), (1, .ref (ad 0)), (2, .ref (ad 109)), (3, .ref (ad 118)), (4, .ref (ad 119)), (5, .int (nI i))]) C dL_law_1266 (by decide) rfl ?_
  refine a_aload_n (q := 4) C dL_law_1268 rfl rfl ?_
  obtain ⟨r8, g7, h⟩ := bd_spec h
  refine a_cVi (a := 109) (st := []) C dL_law_1269 cv_RL_125 (w_X5_thrown  V6 r8 g7) rfl rfl rfl rfl rfl ⟨Nat.le_of_ble_eq_true rfl, Nat.le_of_ble_eq_true rfl, by show _ ≤ 603072; omega, by show _ ≤ 7223402; omega⟩ (Nat.le_of_ble_eq_true rfl) ?_
  refine a_iload (q := 1) C dL_law_1272 rfl ?_
  refine a_icmp_eq (tgt := 1279) C dL_law_1274 (by decide) (fun c9 => ?_) (fun c9 => ?_)
  · have h := it_t c9 h
    refine a_iload (q := 1) C dL_law_1279 rfl ?_
    refine a_if_ne (tgt := 1296) C dL_law_1281 (by decide) (fun c10 => ?_) (fun c10 => ?_)
    · have h := it_f c10 h
      refine a_goto (tgt := 1956) C dL_law_1296 (by decide) ?_
      obtain rfl := ret1 h
      refine a_sub (lv' := [(0, .ref b), (1, .ref (ad 0)), (2, .ref (ad 109)), (3, .ref (ad 118)), (4, .ref (ad 119)), (5, .int (nI i))]) [2, 3, 4, 5, 6, 7] rfl ?_
      refine a_wid (k' := k + 8) (by omega) ?_
      exact kk
    · have h := it_t c10 h
      refine a_aload_n (q := 5) C dL_law_1284 rfl rfl ?_
      refine a_iconst (v := (0 : Int32)) C dL_law_1285 rfl ?_
      refine a_lald (a := 118) C dL_law_1286 rfl (in_lit (by decide)) ?_
      refine a_iload (q := 0) C dL_law_1287 rfl ?_
      refine a_i2l (v := (r5).toInt64) C dL_law_1289 rfl ?_
      by_cases c11 : (V6 118 (0 : Int32).toNatClampNeg) = r5
      · have h := it_t c11 h
        refine a_lcmpE (x := (V6 118 (0 : Int32).toNatClampNeg)) (y := r5) C c11 dL_law_1290 ?_
        refine a_if_eq (tgt := 1296) C dL_law_1291 (by decide) (fun _ => ?_) (fun q => absurd rfl q)
        refine a_goto (tgt := 1956) C dL_law_1296 (by decide) ?_
        obtain rfl := ret1 h
        refine a_sub (lv' := [(0, .ref b), (1, .ref (ad 0)), (2, .ref (ad 109)), (3, .ref (ad 118)), (4, .ref (ad 119)), (5, .int (nI i))]) [2, 3, 4, 5, 6, 7] rfl ?_
        refine a_wid (k' := k + 8) (by omega) ?_
        exact kk
      · have h := it_f c11 h
        cases h
  · have h := it_f c9 h
    cases h
set_option maxRecDepth 20000 in
set_option maxHeartbeats 4000000 in
theorem w_law_c21 {p : Program} {l : Launch} {e : Env} {s : State} {m : MethodId} {args : Array Value} {below : List Frame} {meth : Method} {c : Code} {D : va_G} {cs : Nat → ClassId} {ad : Nat → Nat} {b0 : Nat} {Q : State → Prop} {ret9 : Option FieldType} {b L : Nat} {xs : Nat → Int32} {i k : Nat} {V W9 : VT} (C : Ctx p l s m args meth c D cs ad b0 RL cL_law 9 ret9) (hX : va_X b L xs s s.heap) (hbl : b < b0) (hL : L < 2 ^ 31) (hi : i + 4 ≤ L) (hk : k ≤ 600000) {x1 x2 x3 : Int32} (e1 : xs (i + 1) = x1) (e2 : xs (i + 2) = x2) (e3 : xs (i + 3) = x3) (h : d_law_c21 x1 x2 x3 V = some W9) (kk : AW p l e room_1 s m args below meth c D cs ad b0 Q 9 (k + 8) W9 [(0, .ref b), (1, .ref (ad 0)), (2, .ref (ad 109)), (3, .ref (ad 118)), (4, .ref (ad 119)), (5, .int (nI i))] [] 1956) : AW p l e room_1 s m args below meth c D cs ad b0 Q 9 k V [(0, .ref b), (1, .ref (ad 0)), (2, .ref (ad 109)), (3, .ref (ad 118)), (4, .ref (ad 119)), (5, .int (nI i))] [] 1299 := by
  unfold d_law_c21 at h
  subst e1 e2 e3
  refine a_aload_n (q := 1) C dL_law_1299 rfl rfl ?_
  refine a_aload_n (q := 3) C dL_law_1300 rfl rfl ?_
  obtain ⟨r2, V3, g1, h⟩ := bw_spec h
  refine a_cSX (st := []) (k' := 1) C dL_law_1301 cx_RL_195 (w_L_fewest  V r2 V3 g1) rfl rfl rfl ⟨Nat.le_of_ble_eq_true rfl, Nat.le_of_ble_eq_true rfl, by show _ ≤ 603072; omega, by show _ ≤ 7223402; omega⟩ (Nat.le_of_ble_eq_true rfl) ?_
  refine a_istore (lv' := [(6, .int r2), (0, .ref b), (1, .ref (ad 0)), (2, .ref (ad 109)), (3, .ref (ad 118)), (4, .ref (ad 119)), (5, .int (nI i))]) C dL_law_1304 (by decide) rfl ?_
  refine a_aload_n (q := 3) C dL_law_1306 rfl rfl ?_
  obtain ⟨r5, V6, g4, h⟩ := bw_spec h
  refine a_cVi (a := 109) (st := []) C dL_law_1307 cv_RL_197 (w_X5_fewest  V3 r5 V6 g4) rfl rfl rfl rfl rfl ⟨Nat.le_of_ble_eq_true rfl, Nat.le_of_ble_eq_true rfl, by show _ ≤ 603072; omega, by show _ ≤ 7223402; omega⟩ (Nat.le_of_ble_eq_true rfl) ?_
  refine a_istore (lv' := [(7, .int r5), (6, .int r2), (0, .ref b), (1, .ref (ad 0)), (2, .ref (ad 109)), (3, .ref (ad 118)), (4, .ref (ad 119)), (5, .int (nI i))]) C dL_law_1310 (by decide) rfl ?_
  refine a_aload_n (q := 4) C dL_law_1312 rfl rfl ?_
  obtain ⟨r8, g7, h⟩ := bd_spec h
  refine a_cVi (a := 109) (st := []) C dL_law_1313 cv_RL_125 (w_X5_thrown  V6 r8 g7) rfl rfl rfl rfl rfl ⟨Nat.le_of_ble_eq_true rfl, Nat.le_of_ble_eq_true rfl, by show _ ≤ 603072; omega, by show _ ≤ 7223402; omega⟩ (Nat.le_of_ble_eq_true rfl) ?_
  refine a_iload (q := 1) C dL_law_1316 rfl ?_
  refine a_icmp_eq (tgt := 1323) C dL_law_1318 (by decide) (fun c9 => ?_) (fun c9 => ?_)
  · have h := it_t c9 h
    refine a_iload (q := 1) C dL_law_1323 rfl ?_
    refine a_if_ne (tgt := 1340) C dL_law_1325 (by decide) (fun c10 => ?_) (fun c10 => ?_)
    · have h := it_f c10 h
      refine a_goto (tgt := 1956) C dL_law_1340 (by decide) ?_
      obtain rfl := ret1 h
      refine a_sub (lv' := [(0, .ref b), (1, .ref (ad 0)), (2, .ref (ad 109)), (3, .ref (ad 118)), (4, .ref (ad 119)), (5, .int (nI i))]) [2, 3, 4, 5, 6, 7] rfl ?_
      refine a_wid (k' := k + 8) (by omega) ?_
      exact kk
    · have h := it_t c10 h
      refine a_aload_n (q := 5) C dL_law_1328 rfl rfl ?_
      refine a_iconst (v := (0 : Int32)) C dL_law_1329 rfl ?_
      refine a_lald (a := 118) C dL_law_1330 rfl (in_lit (by decide)) ?_
      refine a_iload (q := 0) C dL_law_1331 rfl ?_
      refine a_i2l (v := (r5).toInt64) C dL_law_1333 rfl ?_
      by_cases c11 : (V6 118 (0 : Int32).toNatClampNeg) = r5
      · have h := it_t c11 h
        refine a_lcmpE (x := (V6 118 (0 : Int32).toNatClampNeg)) (y := r5) C c11 dL_law_1334 ?_
        refine a_if_eq (tgt := 1340) C dL_law_1335 (by decide) (fun _ => ?_) (fun q => absurd rfl q)
        refine a_goto (tgt := 1956) C dL_law_1340 (by decide) ?_
        obtain rfl := ret1 h
        refine a_sub (lv' := [(0, .ref b), (1, .ref (ad 0)), (2, .ref (ad 109)), (3, .ref (ad 118)), (4, .ref (ad 119)), (5, .int (nI i))]) [2, 3, 4, 5, 6, 7] rfl ?_
        refine a_wid (k' := k + 8) (by omega) ?_
        exact kk
      · have h := it_f c11 h
        cases h
  · have h := it_f c9 h
    cases h
set_option maxRecDepth 20000 in
set_option maxHeartbeats 4000000 in
theorem w_law_c22 {p : Program} {l : Launch} {e : Env} {s : State} {m : MethodId} {args : Array Value} {below : List Frame} {meth : Method} {c : Code} {D : va_G} {cs : Nat → ClassId} {ad : Nat → Nat} {b0 : Nat} {Q : State → Prop} {ret9 : Option FieldType} {b L : Nat} {xs : Nat → Int32} {i k : Nat} {V W9 : VT} (C : Ctx p l s m args meth c D cs ad b0 RL cL_law 9 ret9) (hX : va_X b L xs s s.heap) (hbl : b < b0) (hL : L < 2 ^ 31) (hi : i + 4 ≤ L) (hk : k ≤ 600000) {x1 x2 x3 : Int32} (e1 : xs (i + 1) = x1) (e2 : xs (i + 2) = x2) (e3 : xs (i + 3) = x3) (h : d_law_c22 x1 x2 x3 V = some W9) (kk : AW p l e room_1 s m args below meth c D cs ad b0 Q 9 (k + 8) W9 [(0, .ref b), (1, .ref (ad 0)), (2, .ref (ad 109)), (3, .ref (ad 118)), (4, .ref (ad 119)), (5, .int (nI i))] [] 1956) : AW p l e room_1 s m args below meth c D cs ad b0 Q 9 k V [(0, .ref b), (1, .ref (ad 0)), (2, .ref (ad 109)), (3, .ref (ad 118)), (4, .ref (ad 119)), (5, .int (nI i))] [] 1343 := by
  unfold d_law_c22 at h
  subst e1 e2 e3
  refine a_aload_n (q := 1) C dL_law_1343 rfl rfl ?_
  obtain ⟨r2, g1, h⟩ := bd_spec h
  refine a_cVi (a := 0) (st := []) C dL_law_1344 cv_RL_198 (w_X4_clique  V r2 g1) rfl rfl rfl rfl rfl ⟨Nat.le_of_ble_eq_true rfl, Nat.le_of_ble_eq_true rfl, by show _ ≤ 603072; omega, by show _ ≤ 7223402; omega⟩ (Nat.le_of_ble_eq_true rfl) ?_
  refine a_aload_n (q := 2) C dL_law_1347 rfl rfl ?_
  obtain ⟨r4, V5, g3, h⟩ := bw_spec h
  refine a_cVi (a := 109) (st := [.int r2]) C dL_law_1348 cv_RL_201 (w_X5_clique  V r4 V5 g3) rfl rfl rfl rfl rfl ⟨Nat.le_of_ble_eq_true rfl, Nat.le_of_ble_eq_true rfl, by show _ ≤ 603072; omega, by show _ ≤ 7223402; omega⟩ (Nat.le_of_ble_eq_true rfl) ?_
  refine a_icmp_eq (tgt := 1956) C dL_law_1351 (by decide) (fun c6 => ?_) (fun c6 => ?_)
  · have h := it_t c6 h
    obtain rfl := ret1 h
    refine a_sub (lv' := [(0, .ref b), (1, .ref (ad 0)), (2, .ref (ad 109)), (3, .ref (ad 118)), (4, .ref (ad 119)), (5, .int (nI i))]) [0, 1, 2, 3, 4, 5] rfl ?_
    refine a_wid (k' := k + 8) (by omega) ?_
    exact kk
  · have h := it_f c6 h
    cases h
set_option maxRecDepth 20000 in
set_option maxHeartbeats 4000000 in
theorem w_law_c23 {p : Program} {l : Launch} {e : Env} {s : State} {m : MethodId} {args : Array Value} {below : List Frame} {meth : Method} {c : Code} {D : va_G} {cs : Nat → ClassId} {ad : Nat → Nat} {b0 : Nat} {Q : State → Prop} {ret9 : Option FieldType} {b L : Nat} {xs : Nat → Int32} {i k : Nat} {V W9 : VT} (C : Ctx p l s m args meth c D cs ad b0 RL cL_law 9 ret9) (hX : va_X b L xs s s.heap) (hbl : b < b0) (hL : L < 2 ^ 31) (hi : i + 4 ≤ L) (hk : k ≤ 600000) {x1 x2 x3 : Int32} (e1 : xs (i + 1) = x1) (e2 : xs (i + 2) = x2) (e3 : xs (i + 3) = x3) (h : d_law_c23 x1 x2 x3 V = some W9) (kk : AW p l e room_1 s m args below meth c D cs ad b0 Q 9 (k + 8) W9 [(0, .ref b), (1, .ref (ad 0)), (2, .ref (ad 109)), (3, .ref (ad 118)), (4, .ref (ad 119)), (5, .int (nI i))] [] 1956) : AW p l e room_1 s m args below meth c D cs ad b0 Q 9 k V [(0, .ref b), (1, .ref (ad 0)), (2, .ref (ad 109)), (3, .ref (ad 118)), (4, .ref (ad 119)), (5, .int (nI i))] [] 1356 := by
  unfold d_law_c23 at h
  subst e1 e2 e3
  refine a_aload_n (q := 1) C dL_law_1356 rfl rfl ?_
  refine a_aload_n (q := 0) C dL_law_1357 rfl rfl ?_
  refine a_iload (q := 5) C dL_law_1358 rfl ?_
  refine a_iconst (v := (1 : Int32)) C dL_law_1360 rfl ?_
  refine a_iadd C dL_law_1361 ?_
  refine a_sld C hX hbl (nI_add i 1) (show i + 1 < L by omega) hL dL_law_1362 ?_
  show AW p l e room_1 s m args below meth c D cs ad b0 Q 9 k V [(0, .ref b), (1, .ref (ad 0)), (2, .ref (ad 109)), (3, .ref (ad 118)), (4, .ref (ad 119)), (5, .int (nI i))] [.int (xs (i + 1)), .ref (ad 0)] _
  refine a_aload_n (q := 3) C dL_law_1363 rfl rfl ?_
  obtain ⟨r2, V3, g1, h⟩ := bw_spec h
  refine a_cSX (st := []) (k' := 1) C dL_law_1364 cx_RL_202 (w_L_line (xs (i + 1)) V r2 V3 g1) rfl rfl rfl ⟨Nat.le_of_ble_eq_true rfl, Nat.le_of_ble_eq_true rfl, by show _ ≤ 603072; omega, by show _ ≤ 7223402; omega⟩ (Nat.le_of_ble_eq_true rfl) ?_
  refine a_istore (lv' := [(6, .int r2), (0, .ref b), (1, .ref (ad 0)), (2, .ref (ad 109)), (3, .ref (ad 118)), (4, .ref (ad 119)), (5, .int (nI i))]) C dL_law_1367 (by decide) rfl ?_
  refine a_aload_n (q := 3) C dL_law_1369 rfl rfl ?_
  refine a_aload_n (q := 1) C dL_law_1370 rfl rfl ?_
  refine a_iload (q := 6) C dL_law_1371 rfl ?_
  refine a_iconst (v := (1 : Int32)) C dL_law_1373 rfl ?_
  refine a_iadd C dL_law_1374 ?_
  refine a_sld C hX hbl (nI_add i 1) (show i + 1 < L by omega) hL dL_law_1375 ?_
  show AW p l e room_1 s m args below meth c D cs ad b0 Q 9 (k + 1) V3 [(6, .int r2), (0, .ref b), (1, .ref (ad 0)), (2, .ref (ad 109)), (3, .ref (ad 118)), (4, .ref (ad 119)), (5, .int (nI i))] [.int (xs (i + 1)), .ref (ad 109)] _
  obtain ⟨r5, V6, g4, h⟩ := bw_spec h
  refine a_cVi (a := 109) (st := []) C dL_law_1376 cv_RL_204 (w_X5_line (xs (i + 1)) V3 r5 V6 g4) rfl rfl rfl rfl rfl ⟨Nat.le_of_ble_eq_true rfl, Nat.le_of_ble_eq_true rfl, by show _ ≤ 603072; omega, by show _ ≤ 7223402; omega⟩ (Nat.le_of_ble_eq_true rfl) ?_
  refine a_istore (lv' := [(7, .int r5), (6, .int r2), (0, .ref b), (1, .ref (ad 0)), (2, .ref (ad 109)), (3, .ref (ad 118)), (4, .ref (ad 119)), (5, .int (nI i))]) C dL_law_1379 (by decide) rfl ?_
  refine a_aload_n (q := 4) C dL_law_1381 rfl rfl ?_
  obtain ⟨r8, g7, h⟩ := bd_spec h
  refine a_cVi (a := 109) (st := []) C dL_law_1382 cv_RL_125 (w_X5_thrown  V6 r8 g7) rfl rfl rfl rfl rfl ⟨Nat.le_of_ble_eq_true rfl, Nat.le_of_ble_eq_true rfl, by show _ ≤ 603072; omega, by show _ ≤ 7223402; omega⟩ (Nat.le_of_ble_eq_true rfl) ?_
  refine a_iload (q := 1) C dL_law_1385 rfl ?_
  refine a_icmp_eq (tgt := 1392) C dL_law_1387 (by decide) (fun c9 => ?_) (fun c9 => ?_)
  · have h := it_t c9 h
    refine a_iload (q := 1) C dL_law_1392 rfl ?_
    refine a_if_ne (tgt := 1409) C dL_law_1394 (by decide) (fun c10 => ?_) (fun c10 => ?_)
    · have h := it_f c10 h
      refine a_goto (tgt := 1956) C dL_law_1409 (by decide) ?_
      obtain rfl := ret1 h
      refine a_sub (lv' := [(0, .ref b), (1, .ref (ad 0)), (2, .ref (ad 109)), (3, .ref (ad 118)), (4, .ref (ad 119)), (5, .int (nI i))]) [2, 3, 4, 5, 6, 7] rfl ?_
      refine a_wid (k' := k + 8) (by omega) ?_
      exact kk
    · have h := it_t c10 h
      refine a_aload_n (q := 5) C dL_law_1397 rfl rfl ?_
      refine a_iconst (v := (0 : Int32)) C dL_law_1398 rfl ?_
      refine a_lald (a := 118) C dL_law_1399 rfl (in_lit (by decide)) ?_
      refine a_iload (q := 0) C dL_law_1400 rfl ?_
      refine a_i2l (v := (r5).toInt64) C dL_law_1402 rfl ?_
      by_cases c11 : (V6 118 (0 : Int32).toNatClampNeg) = r5
      · have h := it_t c11 h
        refine a_lcmpE (x := (V6 118 (0 : Int32).toNatClampNeg)) (y := r5) C c11 dL_law_1403 ?_
        refine a_if_eq (tgt := 1409) C dL_law_1404 (by decide) (fun _ => ?_) (fun q => absurd rfl q)
        refine a_goto (tgt := 1956) C dL_law_1409 (by decide) ?_
        obtain rfl := ret1 h
        refine a_sub (lv' := [(0, .ref b), (1, .ref (ad 0)), (2, .ref (ad 109)), (3, .ref (ad 118)), (4, .ref (ad 119)), (5, .int (nI i))]) [2, 3, 4, 5, 6, 7] rfl ?_
        refine a_wid (k' := k + 8) (by omega) ?_
        exact kk
      · have h := it_f c11 h
        cases h
  · have h := it_f c9 h
    cases h
set_option maxRecDepth 20000 in
set_option maxHeartbeats 4000000 in
theorem w_law_c24 {p : Program} {l : Launch} {e : Env} {s : State} {m : MethodId} {args : Array Value} {below : List Frame} {meth : Method} {c : Code} {D : va_G} {cs : Nat → ClassId} {ad : Nat → Nat} {b0 : Nat} {Q : State → Prop} {ret9 : Option FieldType} {b L : Nat} {xs : Nat → Int32} {i k : Nat} {V W9 : VT} (C : Ctx p l s m args meth c D cs ad b0 RL cL_law 9 ret9) (hX : va_X b L xs s s.heap) (hbl : b < b0) (hL : L < 2 ^ 31) (hi : i + 4 ≤ L) (hk : k ≤ 600000) {x1 x2 x3 : Int32} (e1 : xs (i + 1) = x1) (e2 : xs (i + 2) = x2) (e3 : xs (i + 3) = x3) (h : d_law_c24 x1 x2 x3 V = some W9) (kk : AW p l e room_1 s m args below meth c D cs ad b0 Q 9 (k + 8) W9 [(0, .ref b), (1, .ref (ad 0)), (2, .ref (ad 109)), (3, .ref (ad 118)), (4, .ref (ad 119)), (5, .int (nI i))] [] 1956) : AW p l e room_1 s m args below meth c D cs ad b0 Q 9 k V [(0, .ref b), (1, .ref (ad 0)), (2, .ref (ad 109)), (3, .ref (ad 118)), (4, .ref (ad 119)), (5, .int (nI i))] [] 1412 := by
  unfold d_law_c24 at h
  subst e1 e2 e3
  refine a_aload_n (q := 1) C dL_law_1412 rfl rfl ?_
  refine a_aload_n (q := 0) C dL_law_1413 rfl rfl ?_
  refine a_iload (q := 5) C dL_law_1414 rfl ?_
  refine a_iconst (v := (1 : Int32)) C dL_law_1416 rfl ?_
  refine a_iadd C dL_law_1417 ?_
  refine a_sld C hX hbl (nI_add i 1) (show i + 1 < L by omega) hL dL_law_1418 ?_
  show AW p l e room_1 s m args below meth c D cs ad b0 Q 9 k V [(0, .ref b), (1, .ref (ad 0)), (2, .ref (ad 109)), (3, .ref (ad 118)), (4, .ref (ad 119)), (5, .int (nI i))] [.int (xs (i + 1)), .ref (ad 0)] _
  refine a_aload_n (q := 3) C dL_law_1419 rfl rfl ?_
  obtain ⟨r2, V3, g1, h⟩ := bw_spec h
  refine a_cSX (st := []) (k' := 1) C dL_law_1420 cx_RL_205 (w_L_character (xs (i + 1)) V r2 V3 g1) rfl rfl rfl ⟨Nat.le_of_ble_eq_true rfl, Nat.le_of_ble_eq_true rfl, by show _ ≤ 603072; omega, by show _ ≤ 7223402; omega⟩ (Nat.le_of_ble_eq_true rfl) ?_
  refine a_istore (lv' := [(6, .int r2), (0, .ref b), (1, .ref (ad 0)), (2, .ref (ad 109)), (3, .ref (ad 118)), (4, .ref (ad 119)), (5, .int (nI i))]) C dL_law_1423 (by decide) rfl ?_
  refine a_aload_n (q := 3) C dL_law_1425 rfl rfl ?_
  refine a_aload_n (q := 1) C dL_law_1426 rfl rfl ?_
  refine a_iload (q := 6) C dL_law_1427 rfl ?_
  refine a_iconst (v := (1 : Int32)) C dL_law_1429 rfl ?_
  refine a_iadd C dL_law_1430 ?_
  refine a_sld C hX hbl (nI_add i 1) (show i + 1 < L by omega) hL dL_law_1431 ?_
  show AW p l e room_1 s m args below meth c D cs ad b0 Q 9 (k + 1) V3 [(6, .int r2), (0, .ref b), (1, .ref (ad 0)), (2, .ref (ad 109)), (3, .ref (ad 118)), (4, .ref (ad 119)), (5, .int (nI i))] [.int (xs (i + 1)), .ref (ad 109)] _
  obtain ⟨r5, V6, g4, h⟩ := bw_spec h
  refine a_cVi (a := 109) (st := []) C dL_law_1432 cv_RL_207 (w_X5_character (xs (i + 1)) V3 r5 V6 g4) rfl rfl rfl rfl rfl ⟨Nat.le_of_ble_eq_true rfl, Nat.le_of_ble_eq_true rfl, by show _ ≤ 603072; omega, by show _ ≤ 7223402; omega⟩ (Nat.le_of_ble_eq_true rfl) ?_
  refine a_istore (lv' := [(7, .int r5), (6, .int r2), (0, .ref b), (1, .ref (ad 0)), (2, .ref (ad 109)), (3, .ref (ad 118)), (4, .ref (ad 119)), (5, .int (nI i))]) C dL_law_1435 (by decide) rfl ?_
  refine a_aload_n (q := 4) C dL_law_1437 rfl rfl ?_
  obtain ⟨r8, g7, h⟩ := bd_spec h
  refine a_cVi (a := 109) (st := []) C dL_law_1438 cv_RL_125 (w_X5_thrown  V6 r8 g7) rfl rfl rfl rfl rfl ⟨Nat.le_of_ble_eq_true rfl, Nat.le_of_ble_eq_true rfl, by show _ ≤ 603072; omega, by show _ ≤ 7223402; omega⟩ (Nat.le_of_ble_eq_true rfl) ?_
  refine a_iload (q := 1) C dL_law_1441 rfl ?_
  refine a_icmp_eq (tgt := 1448) C dL_law_1443 (by decide) (fun c9 => ?_) (fun c9 => ?_)
  · have h := it_t c9 h
    refine a_iload (q := 1) C dL_law_1448 rfl ?_
    refine a_if_ne (tgt := 1465) C dL_law_1450 (by decide) (fun c10 => ?_) (fun c10 => ?_)
    · have h := it_f c10 h
      refine a_goto (tgt := 1956) C dL_law_1465 (by decide) ?_
      obtain rfl := ret1 h
      refine a_sub (lv' := [(0, .ref b), (1, .ref (ad 0)), (2, .ref (ad 109)), (3, .ref (ad 118)), (4, .ref (ad 119)), (5, .int (nI i))]) [2, 3, 4, 5, 6, 7] rfl ?_
      refine a_wid (k' := k + 8) (by omega) ?_
      exact kk
    · have h := it_t c10 h
      refine a_aload_n (q := 5) C dL_law_1453 rfl rfl ?_
      refine a_iconst (v := (0 : Int32)) C dL_law_1454 rfl ?_
      refine a_lald (a := 118) C dL_law_1455 rfl (in_lit (by decide)) ?_
      refine a_iload (q := 0) C dL_law_1456 rfl ?_
      refine a_i2l (v := (r5).toInt64) C dL_law_1458 rfl ?_
      by_cases c11 : (V6 118 (0 : Int32).toNatClampNeg) = r5
      · have h := it_t c11 h
        refine a_lcmpE (x := (V6 118 (0 : Int32).toNatClampNeg)) (y := r5) C c11 dL_law_1459 ?_
        refine a_if_eq (tgt := 1465) C dL_law_1460 (by decide) (fun _ => ?_) (fun q => absurd rfl q)
        refine a_goto (tgt := 1956) C dL_law_1465 (by decide) ?_
        obtain rfl := ret1 h
        refine a_sub (lv' := [(0, .ref b), (1, .ref (ad 0)), (2, .ref (ad 109)), (3, .ref (ad 118)), (4, .ref (ad 119)), (5, .int (nI i))]) [2, 3, 4, 5, 6, 7] rfl ?_
        refine a_wid (k' := k + 8) (by omega) ?_
        exact kk
      · have h := it_f c11 h
        cases h
  · have h := it_f c9 h
    cases h
set_option maxRecDepth 20000 in
set_option maxHeartbeats 4000000 in
theorem w_law_c25 {p : Program} {l : Launch} {e : Env} {s : State} {m : MethodId} {args : Array Value} {below : List Frame} {meth : Method} {c : Code} {D : va_G} {cs : Nat → ClassId} {ad : Nat → Nat} {b0 : Nat} {Q : State → Prop} {ret9 : Option FieldType} {b L : Nat} {xs : Nat → Int32} {i k : Nat} {V W9 : VT} (C : Ctx p l s m args meth c D cs ad b0 RL cL_law 9 ret9) (hX : va_X b L xs s s.heap) (hbl : b < b0) (hL : L < 2 ^ 31) (hi : i + 4 ≤ L) (hk : k ≤ 600000) {x1 x2 x3 : Int32} (e1 : xs (i + 1) = x1) (e2 : xs (i + 2) = x2) (e3 : xs (i + 3) = x3) (h : d_law_c25 x1 x2 x3 V = some W9) (kk : AW p l e room_1 s m args below meth c D cs ad b0 Q 9 (k + 8) W9 [(0, .ref b), (1, .ref (ad 0)), (2, .ref (ad 109)), (3, .ref (ad 118)), (4, .ref (ad 119)), (5, .int (nI i))] [] 1956) : AW p l e room_1 s m args below meth c D cs ad b0 Q 9 k V [(0, .ref b), (1, .ref (ad 0)), (2, .ref (ad 109)), (3, .ref (ad 118)), (4, .ref (ad 119)), (5, .int (nI i))] [] 1468 := by
  unfold d_law_c25 at h
  subst e1 e2 e3
  refine a_aload_n (q := 1) C dL_law_1468 rfl rfl ?_
  refine a_aload_n (q := 0) C dL_law_1469 rfl rfl ?_
  refine a_iload (q := 5) C dL_law_1470 rfl ?_
  refine a_iconst (v := (1 : Int32)) C dL_law_1472 rfl ?_
  refine a_iadd C dL_law_1473 ?_
  refine a_sld C hX hbl (nI_add i 1) (show i + 1 < L by omega) hL dL_law_1474 ?_
  show AW p l e room_1 s m args below meth c D cs ad b0 Q 9 k V [(0, .ref b), (1, .ref (ad 0)), (2, .ref (ad 109)), (3, .ref (ad 118)), (4, .ref (ad 119)), (5, .int (nI i))] [.int (xs (i + 1)), .ref (ad 0)] _
  refine a_i2c (v := ((xs (i + 1)).toUInt32 % 65536).toInt32) C dL_law_1475 rfl ?_
  refine a_aload_n (q := 3) C dL_law_1476 rfl rfl ?_
  obtain ⟨r2, V3, g1, h⟩ := bw_spec h
  refine a_cSX (st := []) (k' := 1) C dL_law_1477 cx_RL_208 (w_L_append ((xs (i + 1)).toUInt32 % 65536).toInt32 V r2 V3 g1) rfl rfl rfl ⟨Nat.le_of_ble_eq_true rfl, Nat.le_of_ble_eq_true rfl, by show _ ≤ 603072; omega, by show _ ≤ 7223402; omega⟩ (Nat.le_of_ble_eq_true rfl) ?_
  refine a_istore (lv' := [(6, .int r2), (0, .ref b), (1, .ref (ad 0)), (2, .ref (ad 109)), (3, .ref (ad 118)), (4, .ref (ad 119)), (5, .int (nI i))]) C dL_law_1480 (by decide) rfl ?_
  refine a_aload_n (q := 3) C dL_law_1482 rfl rfl ?_
  refine a_aload_n (q := 1) C dL_law_1483 rfl rfl ?_
  refine a_iload (q := 6) C dL_law_1484 rfl ?_
  refine a_iconst (v := (1 : Int32)) C dL_law_1486 rfl ?_
  refine a_iadd C dL_law_1487 ?_
  refine a_sld C hX hbl (nI_add i 1) (show i + 1 < L by omega) hL dL_law_1488 ?_
  show AW p l e room_1 s m args below meth c D cs ad b0 Q 9 (k + 1) V3 [(6, .int r2), (0, .ref b), (1, .ref (ad 0)), (2, .ref (ad 109)), (3, .ref (ad 118)), (4, .ref (ad 119)), (5, .int (nI i))] [.int (xs (i + 1)), .ref (ad 109)] _
  refine a_i2c (v := ((xs (i + 1)).toUInt32 % 65536).toInt32) C dL_law_1489 rfl ?_
  obtain ⟨r5, V6, g4, h⟩ := bw_spec h
  refine a_cVi (a := 109) (st := []) C dL_law_1490 cv_RL_211 (w_X5_append ((xs (i + 1)).toUInt32 % 65536).toInt32 V3 r5 V6 g4) rfl rfl rfl rfl rfl ⟨Nat.le_of_ble_eq_true rfl, Nat.le_of_ble_eq_true rfl, by show _ ≤ 603072; omega, by show _ ≤ 7223402; omega⟩ (Nat.le_of_ble_eq_true rfl) ?_
  refine a_istore (lv' := [(7, .int r5), (6, .int r2), (0, .ref b), (1, .ref (ad 0)), (2, .ref (ad 109)), (3, .ref (ad 118)), (4, .ref (ad 119)), (5, .int (nI i))]) C dL_law_1493 (by decide) rfl ?_
  refine a_aload_n (q := 4) C dL_law_1495 rfl rfl ?_
  obtain ⟨r8, g7, h⟩ := bd_spec h
  refine a_cVi (a := 109) (st := []) C dL_law_1496 cv_RL_125 (w_X5_thrown  V6 r8 g7) rfl rfl rfl rfl rfl ⟨Nat.le_of_ble_eq_true rfl, Nat.le_of_ble_eq_true rfl, by show _ ≤ 603072; omega, by show _ ≤ 7223402; omega⟩ (Nat.le_of_ble_eq_true rfl) ?_
  refine a_iload (q := 1) C dL_law_1499 rfl ?_
  refine a_icmp_eq (tgt := 1506) C dL_law_1501 (by decide) (fun c9 => ?_) (fun c9 => ?_)
  · have h := it_t c9 h
    refine a_iload (q := 1) C dL_law_1506 rfl ?_
    refine a_if_ne (tgt := 1523) C dL_law_1508 (by decide) (fun c10 => ?_) (fun c10 => ?_)
    · have h := it_f c10 h
      refine a_goto (tgt := 1956) C dL_law_1523 (by decide) ?_
      obtain rfl := ret1 h
      refine a_sub (lv' := [(0, .ref b), (1, .ref (ad 0)), (2, .ref (ad 109)), (3, .ref (ad 118)), (4, .ref (ad 119)), (5, .int (nI i))]) [2, 3, 4, 5, 6, 7] rfl ?_
      refine a_wid (k' := k + 8) (by omega) ?_
      exact kk
    · have h := it_t c10 h
      refine a_aload_n (q := 5) C dL_law_1511 rfl rfl ?_
      refine a_iconst (v := (0 : Int32)) C dL_law_1512 rfl ?_
      refine a_lald (a := 118) C dL_law_1513 rfl (in_lit (by decide)) ?_
      refine a_iload (q := 0) C dL_law_1514 rfl ?_
      refine a_i2l (v := (r5).toInt64) C dL_law_1516 rfl ?_
      by_cases c11 : (V6 118 (0 : Int32).toNatClampNeg) = r5
      · have h := it_t c11 h
        refine a_lcmpE (x := (V6 118 (0 : Int32).toNatClampNeg)) (y := r5) C c11 dL_law_1517 ?_
        refine a_if_eq (tgt := 1523) C dL_law_1518 (by decide) (fun _ => ?_) (fun q => absurd rfl q)
        refine a_goto (tgt := 1956) C dL_law_1523 (by decide) ?_
        obtain rfl := ret1 h
        refine a_sub (lv' := [(0, .ref b), (1, .ref (ad 0)), (2, .ref (ad 109)), (3, .ref (ad 118)), (4, .ref (ad 119)), (5, .int (nI i))]) [2, 3, 4, 5, 6, 7] rfl ?_
        refine a_wid (k' := k + 8) (by omega) ?_
        exact kk
      · have h := it_f c11 h
        cases h
  · have h := it_f c9 h
    cases h
set_option maxRecDepth 20000 in
set_option maxHeartbeats 4000000 in
theorem w_law_c26 {p : Program} {l : Launch} {e : Env} {s : State} {m : MethodId} {args : Array Value} {below : List Frame} {meth : Method} {c : Code} {D : va_G} {cs : Nat → ClassId} {ad : Nat → Nat} {b0 : Nat} {Q : State → Prop} {ret9 : Option FieldType} {b L : Nat} {xs : Nat → Int32} {i k : Nat} {V W9 : VT} (C : Ctx p l s m args meth c D cs ad b0 RL cL_law 9 ret9) (hX : va_X b L xs s s.heap) (hbl : b < b0) (hL : L < 2 ^ 31) (hi : i + 4 ≤ L) (hk : k ≤ 600000) {x1 x2 x3 : Int32} (e1 : xs (i + 1) = x1) (e2 : xs (i + 2) = x2) (e3 : xs (i + 3) = x3) (h : d_law_c26 x1 x2 x3 V = some W9) (kk : AW p l e room_1 s m args below meth c D cs ad b0 Q 9 (k + 8) W9 [(0, .ref b), (1, .ref (ad 0)), (2, .ref (ad 109)), (3, .ref (ad 118)), (4, .ref (ad 119)), (5, .int (nI i))] [] 1956) : AW p l e room_1 s m args below meth c D cs ad b0 Q 9 k V [(0, .ref b), (1, .ref (ad 0)), (2, .ref (ad 109)), (3, .ref (ad 118)), (4, .ref (ad 119)), (5, .int (nI i))] [] 1526 := by
  unfold d_law_c26 at h
  subst e1 e2 e3
  refine a_aload_n (q := 1) C dL_law_1526 rfl rfl ?_
  refine a_aload_n (q := 3) C dL_law_1527 rfl rfl ?_
  obtain ⟨r2, V3, g1, h⟩ := bw_spec h
  refine a_cSX (st := []) (k' := 1) C dL_law_1528 cx_RL_212 (w_L_read  V r2 V3 g1) rfl rfl rfl ⟨Nat.le_of_ble_eq_true rfl, Nat.le_of_ble_eq_true rfl, by show _ ≤ 603072; omega, by show _ ≤ 7223402; omega⟩ (Nat.le_of_ble_eq_true rfl) ?_
  refine a_istore (lv' := [(6, .int r2), (0, .ref b), (1, .ref (ad 0)), (2, .ref (ad 109)), (3, .ref (ad 118)), (4, .ref (ad 119)), (5, .int (nI i))]) C dL_law_1531 (by decide) rfl ?_
  refine a_aload_n (q := 3) C dL_law_1533 rfl rfl ?_
  obtain ⟨r5, V6, g4, h⟩ := bw_spec h
  refine a_cVi (a := 109) (st := []) C dL_law_1534 cv_RL_214 (w_X5_read  V3 r5 V6 g4) rfl rfl rfl rfl rfl ⟨Nat.le_of_ble_eq_true rfl, Nat.le_of_ble_eq_true rfl, by show _ ≤ 603072; omega, by show _ ≤ 7223402; omega⟩ (Nat.le_of_ble_eq_true rfl) ?_
  refine a_istore (lv' := [(7, .int r5), (6, .int r2), (0, .ref b), (1, .ref (ad 0)), (2, .ref (ad 109)), (3, .ref (ad 118)), (4, .ref (ad 119)), (5, .int (nI i))]) C dL_law_1537 (by decide) rfl ?_
  refine a_aload_n (q := 4) C dL_law_1539 rfl rfl ?_
  obtain ⟨r8, g7, h⟩ := bd_spec h
  refine a_cVi (a := 109) (st := []) C dL_law_1540 cv_RL_125 (w_X5_thrown  V6 r8 g7) rfl rfl rfl rfl rfl ⟨Nat.le_of_ble_eq_true rfl, Nat.le_of_ble_eq_true rfl, by show _ ≤ 603072; omega, by show _ ≤ 7223402; omega⟩ (Nat.le_of_ble_eq_true rfl) ?_
  refine a_iload (q := 1) C dL_law_1543 rfl ?_
  refine a_icmp_eq (tgt := 1550) C dL_law_1545 (by decide) (fun c9 => ?_) (fun c9 => ?_)
  · have h := it_t c9 h
    refine a_iload (q := 1) C dL_law_1550 rfl ?_
    refine a_if_ne (tgt := 1567) C dL_law_1552 (by decide) (fun c10 => ?_) (fun c10 => ?_)
    · have h := it_f c10 h
      refine a_goto (tgt := 1956) C dL_law_1567 (by decide) ?_
      obtain rfl := ret1 h
      refine a_sub (lv' := [(0, .ref b), (1, .ref (ad 0)), (2, .ref (ad 109)), (3, .ref (ad 118)), (4, .ref (ad 119)), (5, .int (nI i))]) [2, 3, 4, 5, 6, 7] rfl ?_
      refine a_wid (k' := k + 8) (by omega) ?_
      exact kk
    · have h := it_t c10 h
      refine a_aload_n (q := 5) C dL_law_1555 rfl rfl ?_
      refine a_iconst (v := (0 : Int32)) C dL_law_1556 rfl ?_
      refine a_lald (a := 118) C dL_law_1557 rfl (in_lit (by decide)) ?_
      refine a_iload (q := 0) C dL_law_1558 rfl ?_
      refine a_i2l (v := (r5).toInt64) C dL_law_1560 rfl ?_
      by_cases c11 : (V6 118 (0 : Int32).toNatClampNeg) = r5
      · have h := it_t c11 h
        refine a_lcmpE (x := (V6 118 (0 : Int32).toNatClampNeg)) (y := r5) C c11 dL_law_1561 ?_
        refine a_if_eq (tgt := 1567) C dL_law_1562 (by decide) (fun _ => ?_) (fun q => absurd rfl q)
        refine a_goto (tgt := 1956) C dL_law_1567 (by decide) ?_
        obtain rfl := ret1 h
        refine a_sub (lv' := [(0, .ref b), (1, .ref (ad 0)), (2, .ref (ad 109)), (3, .ref (ad 118)), (4, .ref (ad 119)), (5, .int (nI i))]) [2, 3, 4, 5, 6, 7] rfl ?_
        refine a_wid (k' := k + 8) (by omega) ?_
        exact kk
      · have h := it_f c11 h
        cases h
  · have h := it_f c9 h
    cases h
set_option maxRecDepth 20000 in
set_option maxHeartbeats 4000000 in
theorem w_law_c27 {p : Program} {l : Launch} {e : Env} {s : State} {m : MethodId} {args : Array Value} {below : List Frame} {meth : Method} {c : Code} {D : va_G} {cs : Nat → ClassId} {ad : Nat → Nat} {b0 : Nat} {Q : State → Prop} {ret9 : Option FieldType} {b L : Nat} {xs : Nat → Int32} {i k : Nat} {V W9 : VT} (C : Ctx p l s m args meth c D cs ad b0 RL cL_law 9 ret9) (hX : va_X b L xs s s.heap) (hbl : b < b0) (hL : L < 2 ^ 31) (hi : i + 4 ≤ L) (hk : k ≤ 600000) {x1 x2 x3 : Int32} (e1 : xs (i + 1) = x1) (e2 : xs (i + 2) = x2) (e3 : xs (i + 3) = x3) (h : d_law_c27 x1 x2 x3 V = some W9) (kk : AW p l e room_1 s m args below meth c D cs ad b0 Q 9 (k + 8) W9 [(0, .ref b), (1, .ref (ad 0)), (2, .ref (ad 109)), (3, .ref (ad 118)), (4, .ref (ad 119)), (5, .int (nI i))] [] 1956) : AW p l e room_1 s m args below meth c D cs ad b0 Q 9 k V [(0, .ref b), (1, .ref (ad 0)), (2, .ref (ad 109)), (3, .ref (ad 118)), (4, .ref (ad 119)), (5, .int (nI i))] [] 1570 := by
  unfold d_law_c27 at h
  subst e1 e2 e3
  refine a_aload_n (q := 1) C dL_law_1570 rfl rfl ?_
  obtain ⟨r2, g1, h⟩ := bd_spec h
  refine a_cVi (a := 0) (st := []) C dL_law_1571 cv_RL_215 (w_X4_errorPosition  V r2 g1) rfl rfl rfl rfl rfl ⟨Nat.le_of_ble_eq_true rfl, Nat.le_of_ble_eq_true rfl, by show _ ≤ 603072; omega, by show _ ≤ 7223402; omega⟩ (Nat.le_of_ble_eq_true rfl) ?_
  refine a_aload_n (q := 2) C dL_law_1574 rfl rfl ?_
  obtain ⟨r4, V5, g3, h⟩ := bw_spec h
  refine a_cVi (a := 109) (st := [.int r2]) C dL_law_1575 cv_RL_218 (w_X5_errorPosition  V r4 V5 g3) rfl rfl rfl rfl rfl ⟨Nat.le_of_ble_eq_true rfl, Nat.le_of_ble_eq_true rfl, by show _ ≤ 603072; omega, by show _ ≤ 7223402; omega⟩ (Nat.le_of_ble_eq_true rfl) ?_
  refine a_icmp_eq (tgt := 1956) C dL_law_1578 (by decide) (fun c6 => ?_) (fun c6 => ?_)
  · have h := it_t c6 h
    obtain rfl := ret1 h
    refine a_sub (lv' := [(0, .ref b), (1, .ref (ad 0)), (2, .ref (ad 109)), (3, .ref (ad 118)), (4, .ref (ad 119)), (5, .int (nI i))]) [0, 1, 2, 3, 4, 5] rfl ?_
    refine a_wid (k' := k + 8) (by omega) ?_
    exact kk
  · have h := it_f c6 h
    cases h
set_option maxRecDepth 20000 in
set_option maxHeartbeats 4000000 in
theorem w_law_c28 {p : Program} {l : Launch} {e : Env} {s : State} {m : MethodId} {args : Array Value} {below : List Frame} {meth : Method} {c : Code} {D : va_G} {cs : Nat → ClassId} {ad : Nat → Nat} {b0 : Nat} {Q : State → Prop} {ret9 : Option FieldType} {b L : Nat} {xs : Nat → Int32} {i k : Nat} {V W9 : VT} (C : Ctx p l s m args meth c D cs ad b0 RL cL_law 9 ret9) (hX : va_X b L xs s s.heap) (hbl : b < b0) (hL : L < 2 ^ 31) (hi : i + 4 ≤ L) (hk : k ≤ 600000) {x1 x2 x3 : Int32} (e1 : xs (i + 1) = x1) (e2 : xs (i + 2) = x2) (e3 : xs (i + 3) = x3) (h : d_law_c28 x1 x2 x3 V = some W9) (kk : AW p l e room_1 s m args below meth c D cs ad b0 Q 9 (k + 8) W9 [(0, .ref b), (1, .ref (ad 0)), (2, .ref (ad 109)), (3, .ref (ad 118)), (4, .ref (ad 119)), (5, .int (nI i))] [] 1956) : AW p l e room_1 s m args below meth c D cs ad b0 Q 9 k V [(0, .ref b), (1, .ref (ad 0)), (2, .ref (ad 109)), (3, .ref (ad 118)), (4, .ref (ad 119)), (5, .int (nI i))] [] 1583 := by
  unfold d_law_c28 at h
  subst e1 e2 e3
  refine a_aload_n (q := 1) C dL_law_1583 rfl rfl ?_
  refine a_aload_n (q := 0) C dL_law_1584 rfl rfl ?_
  refine a_iload (q := 5) C dL_law_1585 rfl ?_
  refine a_iconst (v := (1 : Int32)) C dL_law_1587 rfl ?_
  refine a_iadd C dL_law_1588 ?_
  refine a_sld C hX hbl (nI_add i 1) (show i + 1 < L by omega) hL dL_law_1589 ?_
  show AW p l e room_1 s m args below meth c D cs ad b0 Q 9 k V [(0, .ref b), (1, .ref (ad 0)), (2, .ref (ad 109)), (3, .ref (ad 118)), (4, .ref (ad 119)), (5, .int (nI i))] [.int (xs (i + 1)), .ref (ad 0)] _
  refine a_if_eq (tgt := 1597) C dL_law_1590 (by decide) (fun c1 => ?_) (fun c1 => ?_)
  · have h := it_t c1 h
    refine a_iconst (v := (0 : Int32)) C dL_law_1597 rfl ?_
    refine a_aload_n (q := 3) C dL_law_1598 rfl rfl ?_
    obtain ⟨r3, V4, g2, h⟩ := bw_spec h
    refine a_cSX (st := []) (k' := 1) C dL_law_1599 cx_RL_219 (w_L_refusal (0 : Int32) V r3 V4 g2) rfl rfl rfl ⟨Nat.le_of_ble_eq_true rfl, Nat.le_of_ble_eq_true rfl, by show _ ≤ 603072; omega, by show _ ≤ 7223402; omega⟩ (Nat.le_of_ble_eq_true rfl) ?_
    refine a_istore (lv' := [(6, .int r3), (0, .ref b), (1, .ref (ad 0)), (2, .ref (ad 109)), (3, .ref (ad 118)), (4, .ref (ad 119)), (5, .int (nI i))]) C dL_law_1602 (by decide) rfl ?_
    refine a_aload_n (q := 3) C dL_law_1604 rfl rfl ?_
    refine a_aload_n (q := 1) C dL_law_1605 rfl rfl ?_
    refine a_iload (q := 6) C dL_law_1606 rfl ?_
    refine a_iconst (v := (1 : Int32)) C dL_law_1608 rfl ?_
    refine a_iadd C dL_law_1609 ?_
    refine a_sld C hX hbl (nI_add i 1) (show i + 1 < L by omega) hL dL_law_1610 ?_
    show AW p l e room_1 s m args below meth c D cs ad b0 Q 9 (k + 1) V4 [(6, .int r3), (0, .ref b), (1, .ref (ad 0)), (2, .ref (ad 109)), (3, .ref (ad 118)), (4, .ref (ad 119)), (5, .int (nI i))] [.int (xs (i + 1)), .ref (ad 109)] _
    refine a_if_eq (tgt := 1618) C dL_law_1611 (by decide) (fun c5 => ?_) (fun c5 => ?_)
    · have h := it_t c5 h
      refine a_iconst (v := (0 : Int32)) C dL_law_1618 rfl ?_
      obtain ⟨r7, V8, g6, h⟩ := bw_spec h
      refine a_cVi (a := 109) (st := []) C dL_law_1619 cv_RL_222 (w_X5_refusal (0 : Int32) V4 r7 V8 g6) rfl rfl rfl rfl rfl ⟨Nat.le_of_ble_eq_true rfl, Nat.le_of_ble_eq_true rfl, by show _ ≤ 603072; omega, by show _ ≤ 7223402; omega⟩ (Nat.le_of_ble_eq_true rfl) ?_
      refine a_istore (lv' := [(7, .int r7), (6, .int r3), (0, .ref b), (1, .ref (ad 0)), (2, .ref (ad 109)), (3, .ref (ad 118)), (4, .ref (ad 119)), (5, .int (nI i))]) C dL_law_1622 (by decide) rfl ?_
      refine a_aload_n (q := 4) C dL_law_1624 rfl rfl ?_
      obtain ⟨r10, g9, h⟩ := bd_spec h
      refine a_cVi (a := 109) (st := []) C dL_law_1625 cv_RL_125 (w_X5_thrown  V8 r10 g9) rfl rfl rfl rfl rfl ⟨Nat.le_of_ble_eq_true rfl, Nat.le_of_ble_eq_true rfl, by show _ ≤ 603072; omega, by show _ ≤ 7223402; omega⟩ (Nat.le_of_ble_eq_true rfl) ?_
      refine a_iload (q := 1) C dL_law_1628 rfl ?_
      refine a_icmp_eq (tgt := 1635) C dL_law_1630 (by decide) (fun c11 => ?_) (fun c11 => ?_)
      · have h := it_t c11 h
        refine a_iload (q := 1) C dL_law_1635 rfl ?_
        refine a_if_ne (tgt := 1652) C dL_law_1637 (by decide) (fun c12 => ?_) (fun c12 => ?_)
        · have h := it_f c12 h
          refine a_goto (tgt := 1956) C dL_law_1652 (by decide) ?_
          obtain rfl := ret1 h
          refine a_sub (lv' := [(0, .ref b), (1, .ref (ad 0)), (2, .ref (ad 109)), (3, .ref (ad 118)), (4, .ref (ad 119)), (5, .int (nI i))]) [2, 3, 4, 5, 6, 7] rfl ?_
          refine a_wid (k' := k + 8) (by omega) ?_
          exact kk
        · have h := it_t c12 h
          refine a_aload_n (q := 5) C dL_law_1640 rfl rfl ?_
          refine a_iconst (v := (0 : Int32)) C dL_law_1641 rfl ?_
          refine a_lald (a := 118) C dL_law_1642 rfl (in_lit (by decide)) ?_
          refine a_iload (q := 0) C dL_law_1643 rfl ?_
          refine a_i2l (v := (r7).toInt64) C dL_law_1645 rfl ?_
          by_cases c13 : (V8 118 (0 : Int32).toNatClampNeg) = r7
          · have h := it_t c13 h
            refine a_lcmpE (x := (V8 118 (0 : Int32).toNatClampNeg)) (y := r7) C c13 dL_law_1646 ?_
            refine a_if_eq (tgt := 1652) C dL_law_1647 (by decide) (fun _ => ?_) (fun q => absurd rfl q)
            refine a_goto (tgt := 1956) C dL_law_1652 (by decide) ?_
            obtain rfl := ret1 h
            refine a_sub (lv' := [(0, .ref b), (1, .ref (ad 0)), (2, .ref (ad 109)), (3, .ref (ad 118)), (4, .ref (ad 119)), (5, .int (nI i))]) [2, 3, 4, 5, 6, 7] rfl ?_
            refine a_wid (k' := k + 8) (by omega) ?_
            exact kk
          · have h := it_f c13 h
            cases h
      · have h := it_f c11 h
        cases h
    · have h := it_f c5 h
      refine a_iconst (v := (1 : Int32)) C dL_law_1614 rfl ?_
      refine a_goto (tgt := 1619) C dL_law_1615 (by decide) ?_
      obtain ⟨r15, V16, g14, h⟩ := bw_spec h
      refine a_cVi (a := 109) (st := []) C dL_law_1619 cv_RL_222 (w_X5_refusal (1 : Int32) V4 r15 V16 g14) rfl rfl rfl rfl rfl ⟨Nat.le_of_ble_eq_true rfl, Nat.le_of_ble_eq_true rfl, by show _ ≤ 603072; omega, by show _ ≤ 7223402; omega⟩ (Nat.le_of_ble_eq_true rfl) ?_
      refine a_istore (lv' := [(7, .int r15), (6, .int r3), (0, .ref b), (1, .ref (ad 0)), (2, .ref (ad 109)), (3, .ref (ad 118)), (4, .ref (ad 119)), (5, .int (nI i))]) C dL_law_1622 (by decide) rfl ?_
      refine a_aload_n (q := 4) C dL_law_1624 rfl rfl ?_
      obtain ⟨r18, g17, h⟩ := bd_spec h
      refine a_cVi (a := 109) (st := []) C dL_law_1625 cv_RL_125 (w_X5_thrown  V16 r18 g17) rfl rfl rfl rfl rfl ⟨Nat.le_of_ble_eq_true rfl, Nat.le_of_ble_eq_true rfl, by show _ ≤ 603072; omega, by show _ ≤ 7223402; omega⟩ (Nat.le_of_ble_eq_true rfl) ?_
      refine a_iload (q := 1) C dL_law_1628 rfl ?_
      refine a_icmp_eq (tgt := 1635) C dL_law_1630 (by decide) (fun c19 => ?_) (fun c19 => ?_)
      · have h := it_t c19 h
        refine a_iload (q := 1) C dL_law_1635 rfl ?_
        refine a_if_ne (tgt := 1652) C dL_law_1637 (by decide) (fun c20 => ?_) (fun c20 => ?_)
        · have h := it_f c20 h
          refine a_goto (tgt := 1956) C dL_law_1652 (by decide) ?_
          obtain rfl := ret1 h
          refine a_sub (lv' := [(0, .ref b), (1, .ref (ad 0)), (2, .ref (ad 109)), (3, .ref (ad 118)), (4, .ref (ad 119)), (5, .int (nI i))]) [2, 3, 4, 5, 6, 7] rfl ?_
          refine a_wid (k' := k + 8) (by omega) ?_
          exact kk
        · have h := it_t c20 h
          refine a_aload_n (q := 5) C dL_law_1640 rfl rfl ?_
          refine a_iconst (v := (0 : Int32)) C dL_law_1641 rfl ?_
          refine a_lald (a := 118) C dL_law_1642 rfl (in_lit (by decide)) ?_
          refine a_iload (q := 0) C dL_law_1643 rfl ?_
          refine a_i2l (v := (r15).toInt64) C dL_law_1645 rfl ?_
          by_cases c21 : (V16 118 (0 : Int32).toNatClampNeg) = r15
          · have h := it_t c21 h
            refine a_lcmpE (x := (V16 118 (0 : Int32).toNatClampNeg)) (y := r15) C c21 dL_law_1646 ?_
            refine a_if_eq (tgt := 1652) C dL_law_1647 (by decide) (fun _ => ?_) (fun q => absurd rfl q)
            refine a_goto (tgt := 1956) C dL_law_1652 (by decide) ?_
            obtain rfl := ret1 h
            refine a_sub (lv' := [(0, .ref b), (1, .ref (ad 0)), (2, .ref (ad 109)), (3, .ref (ad 118)), (4, .ref (ad 119)), (5, .int (nI i))]) [2, 3, 4, 5, 6, 7] rfl ?_
            refine a_wid (k' := k + 8) (by omega) ?_
            exact kk
          · have h := it_f c21 h
            cases h
      · have h := it_f c19 h
        cases h
  · have h := it_f c1 h
    refine a_iconst (v := (1 : Int32)) C dL_law_1593 rfl ?_
    refine a_goto (tgt := 1598) C dL_law_1594 (by decide) ?_
    refine a_aload_n (q := 3) C dL_law_1598 rfl rfl ?_
    obtain ⟨r23, V24, g22, h⟩ := bw_spec h
    refine a_cSX (st := []) (k' := 1) C dL_law_1599 cx_RL_219 (w_L_refusal (1 : Int32) V r23 V24 g22) rfl rfl rfl ⟨Nat.le_of_ble_eq_true rfl, Nat.le_of_ble_eq_true rfl, by show _ ≤ 603072; omega, by show _ ≤ 7223402; omega⟩ (Nat.le_of_ble_eq_true rfl) ?_
    refine a_istore (lv' := [(6, .int r23), (0, .ref b), (1, .ref (ad 0)), (2, .ref (ad 109)), (3, .ref (ad 118)), (4, .ref (ad 119)), (5, .int (nI i))]) C dL_law_1602 (by decide) rfl ?_
    refine a_aload_n (q := 3) C dL_law_1604 rfl rfl ?_
    refine a_aload_n (q := 1) C dL_law_1605 rfl rfl ?_
    refine a_iload (q := 6) C dL_law_1606 rfl ?_
    refine a_iconst (v := (1 : Int32)) C dL_law_1608 rfl ?_
    refine a_iadd C dL_law_1609 ?_
    refine a_sld C hX hbl (nI_add i 1) (show i + 1 < L by omega) hL dL_law_1610 ?_
    show AW p l e room_1 s m args below meth c D cs ad b0 Q 9 (k + 1) V24 [(6, .int r23), (0, .ref b), (1, .ref (ad 0)), (2, .ref (ad 109)), (3, .ref (ad 118)), (4, .ref (ad 119)), (5, .int (nI i))] [.int (xs (i + 1)), .ref (ad 109)] _
    refine a_if_eq (tgt := 1618) C dL_law_1611 (by decide) (fun c25 => ?_) (fun c25 => ?_)
    · have h := it_t c25 h
      refine a_iconst (v := (0 : Int32)) C dL_law_1618 rfl ?_
      obtain ⟨r27, V28, g26, h⟩ := bw_spec h
      refine a_cVi (a := 109) (st := []) C dL_law_1619 cv_RL_222 (w_X5_refusal (0 : Int32) V24 r27 V28 g26) rfl rfl rfl rfl rfl ⟨Nat.le_of_ble_eq_true rfl, Nat.le_of_ble_eq_true rfl, by show _ ≤ 603072; omega, by show _ ≤ 7223402; omega⟩ (Nat.le_of_ble_eq_true rfl) ?_
      refine a_istore (lv' := [(7, .int r27), (6, .int r23), (0, .ref b), (1, .ref (ad 0)), (2, .ref (ad 109)), (3, .ref (ad 118)), (4, .ref (ad 119)), (5, .int (nI i))]) C dL_law_1622 (by decide) rfl ?_
      refine a_aload_n (q := 4) C dL_law_1624 rfl rfl ?_
      obtain ⟨r30, g29, h⟩ := bd_spec h
      refine a_cVi (a := 109) (st := []) C dL_law_1625 cv_RL_125 (w_X5_thrown  V28 r30 g29) rfl rfl rfl rfl rfl ⟨Nat.le_of_ble_eq_true rfl, Nat.le_of_ble_eq_true rfl, by show _ ≤ 603072; omega, by show _ ≤ 7223402; omega⟩ (Nat.le_of_ble_eq_true rfl) ?_
      refine a_iload (q := 1) C dL_law_1628 rfl ?_
      refine a_icmp_eq (tgt := 1635) C dL_law_1630 (by decide) (fun c31 => ?_) (fun c31 => ?_)
      · have h := it_t c31 h
        refine a_iload (q := 1) C dL_law_1635 rfl ?_
        refine a_if_ne (tgt := 1652) C dL_law_1637 (by decide) (fun c32 => ?_) (fun c32 => ?_)
        · have h := it_f c32 h
          refine a_goto (tgt := 1956) C dL_law_1652 (by decide) ?_
          obtain rfl := ret1 h
          refine a_sub (lv' := [(0, .ref b), (1, .ref (ad 0)), (2, .ref (ad 109)), (3, .ref (ad 118)), (4, .ref (ad 119)), (5, .int (nI i))]) [2, 3, 4, 5, 6, 7] rfl ?_
          refine a_wid (k' := k + 8) (by omega) ?_
          exact kk
        · have h := it_t c32 h
          refine a_aload_n (q := 5) C dL_law_1640 rfl rfl ?_
          refine a_iconst (v := (0 : Int32)) C dL_law_1641 rfl ?_
          refine a_lald (a := 118) C dL_law_1642 rfl (in_lit (by decide)) ?_
          refine a_iload (q := 0) C dL_law_1643 rfl ?_
          refine a_i2l (v := (r27).toInt64) C dL_law_1645 rfl ?_
          by_cases c33 : (V28 118 (0 : Int32).toNatClampNeg) = r27
          · have h := it_t c33 h
            refine a_lcmpE (x := (V28 118 (0 : Int32).toNatClampNeg)) (y := r27) C c33 dL_law_1646 ?_
            refine a_if_eq (tgt := 1652) C dL_law_1647 (by decide) (fun _ => ?_) (fun q => absurd rfl q)
            refine a_goto (tgt := 1956) C dL_law_1652 (by decide) ?_
            obtain rfl := ret1 h
            refine a_sub (lv' := [(0, .ref b), (1, .ref (ad 0)), (2, .ref (ad 109)), (3, .ref (ad 118)), (4, .ref (ad 119)), (5, .int (nI i))]) [2, 3, 4, 5, 6, 7] rfl ?_
            refine a_wid (k' := k + 8) (by omega) ?_
            exact kk
          · have h := it_f c33 h
            cases h
      · have h := it_f c31 h
        cases h
    · have h := it_f c25 h
      refine a_iconst (v := (1 : Int32)) C dL_law_1614 rfl ?_
      refine a_goto (tgt := 1619) C dL_law_1615 (by decide) ?_
      obtain ⟨r35, V36, g34, h⟩ := bw_spec h
      refine a_cVi (a := 109) (st := []) C dL_law_1619 cv_RL_222 (w_X5_refusal (1 : Int32) V24 r35 V36 g34) rfl rfl rfl rfl rfl ⟨Nat.le_of_ble_eq_true rfl, Nat.le_of_ble_eq_true rfl, by show _ ≤ 603072; omega, by show _ ≤ 7223402; omega⟩ (Nat.le_of_ble_eq_true rfl) ?_
      refine a_istore (lv' := [(7, .int r35), (6, .int r23), (0, .ref b), (1, .ref (ad 0)), (2, .ref (ad 109)), (3, .ref (ad 118)), (4, .ref (ad 119)), (5, .int (nI i))]) C dL_law_1622 (by decide) rfl ?_
      refine a_aload_n (q := 4) C dL_law_1624 rfl rfl ?_
      obtain ⟨r38, g37, h⟩ := bd_spec h
      refine a_cVi (a := 109) (st := []) C dL_law_1625 cv_RL_125 (w_X5_thrown  V36 r38 g37) rfl rfl rfl rfl rfl ⟨Nat.le_of_ble_eq_true rfl, Nat.le_of_ble_eq_true rfl, by show _ ≤ 603072; omega, by show _ ≤ 7223402; omega⟩ (Nat.le_of_ble_eq_true rfl) ?_
      refine a_iload (q := 1) C dL_law_1628 rfl ?_
      refine a_icmp_eq (tgt := 1635) C dL_law_1630 (by decide) (fun c39 => ?_) (fun c39 => ?_)
      · have h := it_t c39 h
        refine a_iload (q := 1) C dL_law_1635 rfl ?_
        refine a_if_ne (tgt := 1652) C dL_law_1637 (by decide) (fun c40 => ?_) (fun c40 => ?_)
        · have h := it_f c40 h
          refine a_goto (tgt := 1956) C dL_law_1652 (by decide) ?_
          obtain rfl := ret1 h
          refine a_sub (lv' := [(0, .ref b), (1, .ref (ad 0)), (2, .ref (ad 109)), (3, .ref (ad 118)), (4, .ref (ad 119)), (5, .int (nI i))]) [2, 3, 4, 5, 6, 7] rfl ?_
          refine a_wid (k' := k + 8) (by omega) ?_
          exact kk
        · have h := it_t c40 h
          refine a_aload_n (q := 5) C dL_law_1640 rfl rfl ?_
          refine a_iconst (v := (0 : Int32)) C dL_law_1641 rfl ?_
          refine a_lald (a := 118) C dL_law_1642 rfl (in_lit (by decide)) ?_
          refine a_iload (q := 0) C dL_law_1643 rfl ?_
          refine a_i2l (v := (r35).toInt64) C dL_law_1645 rfl ?_
          by_cases c41 : (V36 118 (0 : Int32).toNatClampNeg) = r35
          · have h := it_t c41 h
            refine a_lcmpE (x := (V36 118 (0 : Int32).toNatClampNeg)) (y := r35) C c41 dL_law_1646 ?_
            refine a_if_eq (tgt := 1652) C dL_law_1647 (by decide) (fun _ => ?_) (fun q => absurd rfl q)
            refine a_goto (tgt := 1956) C dL_law_1652 (by decide) ?_
            obtain rfl := ret1 h
            refine a_sub (lv' := [(0, .ref b), (1, .ref (ad 0)), (2, .ref (ad 109)), (3, .ref (ad 118)), (4, .ref (ad 119)), (5, .int (nI i))]) [2, 3, 4, 5, 6, 7] rfl ?_
            refine a_wid (k' := k + 8) (by omega) ?_
            exact kk
          · have h := it_f c41 h
            cases h
      · have h := it_f c39 h
        cases h
set_option maxRecDepth 20000 in
set_option maxHeartbeats 4000000 in
theorem w_law_c29 {p : Program} {l : Launch} {e : Env} {s : State} {m : MethodId} {args : Array Value} {below : List Frame} {meth : Method} {c : Code} {D : va_G} {cs : Nat → ClassId} {ad : Nat → Nat} {b0 : Nat} {Q : State → Prop} {ret9 : Option FieldType} {b L : Nat} {xs : Nat → Int32} {i k : Nat} {V W9 : VT} (C : Ctx p l s m args meth c D cs ad b0 RL cL_law 9 ret9) (hX : va_X b L xs s s.heap) (hbl : b < b0) (hL : L < 2 ^ 31) (hi : i + 4 ≤ L) (hk : k ≤ 600000) {x1 x2 x3 : Int32} (e1 : xs (i + 1) = x1) (e2 : xs (i + 2) = x2) (e3 : xs (i + 3) = x3) (h : d_law_c29 x1 x2 x3 V = some W9) (kk : AW p l e room_1 s m args below meth c D cs ad b0 Q 9 (k + 8) W9 [(0, .ref b), (1, .ref (ad 0)), (2, .ref (ad 109)), (3, .ref (ad 118)), (4, .ref (ad 119)), (5, .int (nI i))] [] 1956) : AW p l e room_1 s m args below meth c D cs ad b0 Q 9 k V [(0, .ref b), (1, .ref (ad 0)), (2, .ref (ad 109)), (3, .ref (ad 118)), (4, .ref (ad 119)), (5, .int (nI i))] [] 1655 := by
  unfold d_law_c29 at h
  subst e1 e2 e3
  refine a_aload_n (q := 1) C dL_law_1655 rfl rfl ?_
  refine a_aload_n (q := 0) C dL_law_1656 rfl rfl ?_
  refine a_iload (q := 5) C dL_law_1657 rfl ?_
  refine a_iconst (v := (1 : Int32)) C dL_law_1659 rfl ?_
  refine a_iadd C dL_law_1660 ?_
  refine a_sld C hX hbl (nI_add i 1) (show i + 1 < L by omega) hL dL_law_1661 ?_
  show AW p l e room_1 s m args below meth c D cs ad b0 Q 9 k V [(0, .ref b), (1, .ref (ad 0)), (2, .ref (ad 109)), (3, .ref (ad 118)), (4, .ref (ad 119)), (5, .int (nI i))] [.int (xs (i + 1)), .ref (ad 0)] _
  refine a_aload_n (q := 3) C dL_law_1662 rfl rfl ?_
  obtain ⟨r2, V3, g1, h⟩ := bw_spec h
  refine a_cSX (st := []) (k' := 1) C dL_law_1663 cx_RL_223 (w_L_account (xs (i + 1)) V r2 V3 g1) rfl rfl rfl ⟨Nat.le_of_ble_eq_true rfl, Nat.le_of_ble_eq_true rfl, by show _ ≤ 603072; omega, by show _ ≤ 7223402; omega⟩ (Nat.le_of_ble_eq_true rfl) ?_
  refine a_istore (lv' := [(6, .int r2), (0, .ref b), (1, .ref (ad 0)), (2, .ref (ad 109)), (3, .ref (ad 118)), (4, .ref (ad 119)), (5, .int (nI i))]) C dL_law_1666 (by decide) rfl ?_
  refine a_aload_n (q := 3) C dL_law_1668 rfl rfl ?_
  refine a_aload_n (q := 1) C dL_law_1669 rfl rfl ?_
  refine a_iload (q := 6) C dL_law_1670 rfl ?_
  refine a_iconst (v := (1 : Int32)) C dL_law_1672 rfl ?_
  refine a_iadd C dL_law_1673 ?_
  refine a_sld C hX hbl (nI_add i 1) (show i + 1 < L by omega) hL dL_law_1674 ?_
  show AW p l e room_1 s m args below meth c D cs ad b0 Q 9 (k + 1) V3 [(6, .int r2), (0, .ref b), (1, .ref (ad 0)), (2, .ref (ad 109)), (3, .ref (ad 118)), (4, .ref (ad 119)), (5, .int (nI i))] [.int (xs (i + 1)), .ref (ad 109)] _
  obtain ⟨r5, V6, g4, h⟩ := bw_spec h
  refine a_cVi (a := 109) (st := []) C dL_law_1675 cv_RL_225 (w_X5_account (xs (i + 1)) V3 r5 V6 g4) rfl rfl rfl rfl rfl ⟨Nat.le_of_ble_eq_true rfl, Nat.le_of_ble_eq_true rfl, by show _ ≤ 603072; omega, by show _ ≤ 7223402; omega⟩ (Nat.le_of_ble_eq_true rfl) ?_
  refine a_istore (lv' := [(7, .int r5), (6, .int r2), (0, .ref b), (1, .ref (ad 0)), (2, .ref (ad 109)), (3, .ref (ad 118)), (4, .ref (ad 119)), (5, .int (nI i))]) C dL_law_1678 (by decide) rfl ?_
  refine a_aload_n (q := 4) C dL_law_1680 rfl rfl ?_
  obtain ⟨r8, g7, h⟩ := bd_spec h
  refine a_cVi (a := 109) (st := []) C dL_law_1681 cv_RL_125 (w_X5_thrown  V6 r8 g7) rfl rfl rfl rfl rfl ⟨Nat.le_of_ble_eq_true rfl, Nat.le_of_ble_eq_true rfl, by show _ ≤ 603072; omega, by show _ ≤ 7223402; omega⟩ (Nat.le_of_ble_eq_true rfl) ?_
  refine a_iload (q := 1) C dL_law_1684 rfl ?_
  refine a_icmp_eq (tgt := 1691) C dL_law_1686 (by decide) (fun c9 => ?_) (fun c9 => ?_)
  · have h := it_t c9 h
    refine a_iload (q := 1) C dL_law_1691 rfl ?_
    refine a_if_ne (tgt := 1708) C dL_law_1693 (by decide) (fun c10 => ?_) (fun c10 => ?_)
    · have h := it_f c10 h
      refine a_goto (tgt := 1956) C dL_law_1708 (by decide) ?_
      obtain rfl := ret1 h
      refine a_sub (lv' := [(0, .ref b), (1, .ref (ad 0)), (2, .ref (ad 109)), (3, .ref (ad 118)), (4, .ref (ad 119)), (5, .int (nI i))]) [2, 3, 4, 5, 6, 7] rfl ?_
      refine a_wid (k' := k + 8) (by omega) ?_
      exact kk
    · have h := it_t c10 h
      refine a_aload_n (q := 5) C dL_law_1696 rfl rfl ?_
      refine a_iconst (v := (0 : Int32)) C dL_law_1697 rfl ?_
      refine a_lald (a := 118) C dL_law_1698 rfl (in_lit (by decide)) ?_
      refine a_iload (q := 0) C dL_law_1699 rfl ?_
      refine a_i2l (v := (r5).toInt64) C dL_law_1701 rfl ?_
      by_cases c11 : (V6 118 (0 : Int32).toNatClampNeg) = r5
      · have h := it_t c11 h
        refine a_lcmpE (x := (V6 118 (0 : Int32).toNatClampNeg)) (y := r5) C c11 dL_law_1702 ?_
        refine a_if_eq (tgt := 1708) C dL_law_1703 (by decide) (fun _ => ?_) (fun q => absurd rfl q)
        refine a_goto (tgt := 1956) C dL_law_1708 (by decide) ?_
        obtain rfl := ret1 h
        refine a_sub (lv' := [(0, .ref b), (1, .ref (ad 0)), (2, .ref (ad 109)), (3, .ref (ad 118)), (4, .ref (ad 119)), (5, .int (nI i))]) [2, 3, 4, 5, 6, 7] rfl ?_
        refine a_wid (k' := k + 8) (by omega) ?_
        exact kk
      · have h := it_f c11 h
        cases h
  · have h := it_f c9 h
    cases h
set_option maxRecDepth 20000 in
set_option maxHeartbeats 4000000 in
theorem w_law_c30 {p : Program} {l : Launch} {e : Env} {s : State} {m : MethodId} {args : Array Value} {below : List Frame} {meth : Method} {c : Code} {D : va_G} {cs : Nat → ClassId} {ad : Nat → Nat} {b0 : Nat} {Q : State → Prop} {ret9 : Option FieldType} {b L : Nat} {xs : Nat → Int32} {i k : Nat} {V W9 : VT} (C : Ctx p l s m args meth c D cs ad b0 RL cL_law 9 ret9) (hX : va_X b L xs s s.heap) (hbl : b < b0) (hL : L < 2 ^ 31) (hi : i + 4 ≤ L) (hk : k ≤ 600000) {x1 x2 x3 : Int32} (e1 : xs (i + 1) = x1) (e2 : xs (i + 2) = x2) (e3 : xs (i + 3) = x3) (h : d_law_c30 x1 x2 x3 V = some W9) (kk : AW p l e room_1 s m args below meth c D cs ad b0 Q 9 (k + 8) W9 [(0, .ref b), (1, .ref (ad 0)), (2, .ref (ad 109)), (3, .ref (ad 118)), (4, .ref (ad 119)), (5, .int (nI i))] [] 1956) : AW p l e room_1 s m args below meth c D cs ad b0 Q 9 k V [(0, .ref b), (1, .ref (ad 0)), (2, .ref (ad 109)), (3, .ref (ad 118)), (4, .ref (ad 119)), (5, .int (nI i))] [] 1711 := by
  unfold d_law_c30 at h
  subst e1 e2 e3
  refine a_aload_n (q := 1) C dL_law_1711 rfl rfl ?_
  obtain ⟨r2, g1, h⟩ := bd_spec h
  refine a_cVi (a := 0) (st := []) C dL_law_1712 cv_RL_226 (w_X4_isWell  V r2 g1) rfl rfl rfl rfl rfl ⟨Nat.le_of_ble_eq_true rfl, Nat.le_of_ble_eq_true rfl, by show _ ≤ 603072; omega, by show _ ≤ 7223402; omega⟩ (Nat.le_of_ble_eq_true rfl) ?_
  refine a_aload_n (q := 2) C dL_law_1715 rfl rfl ?_
  obtain ⟨r4, V5, g3, h⟩ := bw_spec h
  refine a_cVi (a := 109) (st := [.int r2]) C dL_law_1716 cv_RL_230 (w_X5_isWell  V r4 V5 g3) rfl rfl rfl rfl rfl ⟨Nat.le_of_ble_eq_true rfl, Nat.le_of_ble_eq_true rfl, by show _ ≤ 603072; omega, by show _ ≤ 7223402; omega⟩ (Nat.le_of_ble_eq_true rfl) ?_
  refine a_icmp_eq (tgt := 1956) C dL_law_1719 (by decide) (fun c6 => ?_) (fun c6 => ?_)
  · have h := it_t c6 h
    obtain rfl := ret1 h
    refine a_sub (lv' := [(0, .ref b), (1, .ref (ad 0)), (2, .ref (ad 109)), (3, .ref (ad 118)), (4, .ref (ad 119)), (5, .int (nI i))]) [0, 1, 2, 3, 4, 5] rfl ?_
    refine a_wid (k' := k + 8) (by omega) ?_
    exact kk
  · have h := it_f c6 h
    cases h
set_option maxRecDepth 20000 in
set_option maxHeartbeats 4000000 in
theorem w_law_c31 {p : Program} {l : Launch} {e : Env} {s : State} {m : MethodId} {args : Array Value} {below : List Frame} {meth : Method} {c : Code} {D : va_G} {cs : Nat → ClassId} {ad : Nat → Nat} {b0 : Nat} {Q : State → Prop} {ret9 : Option FieldType} {b L : Nat} {xs : Nat → Int32} {i k : Nat} {V W9 : VT} (C : Ctx p l s m args meth c D cs ad b0 RL cL_law 9 ret9) (hX : va_X b L xs s s.heap) (hbl : b < b0) (hL : L < 2 ^ 31) (hi : i + 4 ≤ L) (hk : k ≤ 600000) {x1 x2 x3 : Int32} (e1 : xs (i + 1) = x1) (e2 : xs (i + 2) = x2) (e3 : xs (i + 3) = x3) (h : d_law_c31 x1 x2 x3 V = some W9) (kk : AW p l e room_1 s m args below meth c D cs ad b0 Q 9 (k + 8) W9 [(0, .ref b), (1, .ref (ad 0)), (2, .ref (ad 109)), (3, .ref (ad 118)), (4, .ref (ad 119)), (5, .int (nI i))] [] 1956) : AW p l e room_1 s m args below meth c D cs ad b0 Q 9 k V [(0, .ref b), (1, .ref (ad 0)), (2, .ref (ad 109)), (3, .ref (ad 118)), (4, .ref (ad 119)), (5, .int (nI i))] [] 1724 := by
  unfold d_law_c31 at h
  subst e1 e2 e3
  refine a_aload_n (q := 1) C dL_law_1724 rfl rfl ?_
  refine a_aload (q := 4) C dL_law_1725 rfl ?_
  obtain ⟨r2, V3, g1, h⟩ := bw_spec h
  refine a_cSX (st := []) (k' := 1) C dL_law_1727 cx_RL_231 (w_L_meanSize  V r2 V3 g1) rfl rfl rfl ⟨Nat.le_of_ble_eq_true rfl, Nat.le_of_ble_eq_true rfl, by show _ ≤ 603072; omega, by show _ ≤ 7223402; omega⟩ (Nat.le_of_ble_eq_true rfl) ?_
  refine a_istore (lv' := [(6, .int r2), (0, .ref b), (1, .ref (ad 0)), (2, .ref (ad 109)), (3, .ref (ad 118)), (4, .ref (ad 119)), (5, .int (nI i))]) C dL_law_1730 (by decide) rfl ?_
  refine a_aload_n (q := 3) C dL_law_1732 rfl rfl ?_
  obtain ⟨r5, V6, g4, h⟩ := bw_spec h
  refine a_cVd (a := 109) (st := []) C dL_law_1733 cv_RL_234 (w_X5_meanSize  V3 r5 V6 g4) rfl rfl rfl rfl rfl ⟨Nat.le_of_ble_eq_true rfl, Nat.le_of_ble_eq_true rfl, by show _ ≤ 603072; omega, by show _ ≤ 7223402; omega⟩ (Nat.le_of_ble_eq_true rfl) ?_
  refine a_dstore (lv' := [(7, .double r5), (6, .int r2), (0, .ref b), (1, .ref (ad 0)), (2, .ref (ad 109)), (3, .ref (ad 118)), (4, .ref (ad 119)), (5, .int (nI i))]) C dL_law_1736 (by decide) rfl ?_
  refine a_aload_n (q := 4) C dL_law_1738 rfl rfl ?_
  obtain ⟨r8, g7, h⟩ := bd_spec h
  refine a_cVi (a := 109) (st := []) C dL_law_1739 cv_RL_125 (w_X5_thrown  V6 r8 g7) rfl rfl rfl rfl rfl ⟨Nat.le_of_ble_eq_true rfl, Nat.le_of_ble_eq_true rfl, by show _ ≤ 603072; omega, by show _ ≤ 7223402; omega⟩ (Nat.le_of_ble_eq_true rfl) ?_
  refine a_iload (q := 1) C dL_law_1742 rfl ?_
  refine a_icmp_eq (tgt := 1749) C dL_law_1744 (by decide) (fun c9 => ?_) (fun c9 => ?_)
  · have h := it_t c9 h
    refine a_iload (q := 1) C dL_law_1749 rfl ?_
    refine a_if_ne (tgt := 1786) C dL_law_1751 (by decide) (fun c10 => ?_) (fun c10 => ?_)
    · have h := it_f c10 h
      refine a_goto (tgt := 1956) C dL_law_1786 (by decide) ?_
      obtain rfl := ret1 h
      refine a_sub (lv' := [(0, .ref b), (1, .ref (ad 0)), (2, .ref (ad 109)), (3, .ref (ad 118)), (4, .ref (ad 119)), (5, .int (nI i))]) [2, 3, 4, 5, 6, 7] rfl ?_
      refine a_wid (k' := k + 8) (by omega) ?_
      exact kk
    · have h := it_t c10 h
      refine a_aload (q := 6) C dL_law_1754 rfl ?_
      refine a_iconst (v := (0 : Int32)) C dL_law_1756 rfl ?_
      refine a_dald (a := 119) C dL_law_1757 rfl (in_lit (by decide)) ?_
      refine a_dload (q := 0) C dL_law_1758 rfl ?_
      by_cases c11 : Op.cmpValue (FP.dcmp (u64 (V6 119 (2 * (0 : Int32).toNatClampNeg)) (V6 119 (2 * (0 : Int32).toNatClampNeg + 1))) r5) .l = 0
      · have h := it_t c11 h
        refine a_dcmp C dL_law_1760 ?_
        refine a_if_eq (tgt := 1786) C dL_law_1761 (by decide) (fun _ => ?_) (fun q => absurd c11 q)
        refine a_goto (tgt := 1956) C dL_law_1786 (by decide) ?_
        obtain rfl := ret1 h
        refine a_sub (lv' := [(0, .ref b), (1, .ref (ad 0)), (2, .ref (ad 109)), (3, .ref (ad 118)), (4, .ref (ad 119)), (5, .int (nI i))]) [2, 3, 4, 5, 6, 7] rfl ?_
        refine a_wid (k' := k + 8) (by omega) ?_
        exact kk
      · have h := it_f c11 h
        cases h
  · have h := it_f c9 h
    cases h
set_option maxRecDepth 20000 in
set_option maxHeartbeats 4000000 in
theorem w_law_c32 {p : Program} {l : Launch} {e : Env} {s : State} {m : MethodId} {args : Array Value} {below : List Frame} {meth : Method} {c : Code} {D : va_G} {cs : Nat → ClassId} {ad : Nat → Nat} {b0 : Nat} {Q : State → Prop} {ret9 : Option FieldType} {b L : Nat} {xs : Nat → Int32} {i k : Nat} {V W9 : VT} (C : Ctx p l s m args meth c D cs ad b0 RL cL_law 9 ret9) (hX : va_X b L xs s s.heap) (hbl : b < b0) (hL : L < 2 ^ 31) (hi : i + 4 ≤ L) (hk : k ≤ 600000) {x1 x2 x3 : Int32} (e1 : xs (i + 1) = x1) (e2 : xs (i + 2) = x2) (e3 : xs (i + 3) = x3) (h : d_law_c32 x1 x2 x3 V = some W9) (kk : AW p l e room_1 s m args below meth c D cs ad b0 Q 9 (k + 8) W9 [(0, .ref b), (1, .ref (ad 0)), (2, .ref (ad 109)), (3, .ref (ad 118)), (4, .ref (ad 119)), (5, .int (nI i))] [] 1956) : AW p l e room_1 s m args below meth c D cs ad b0 Q 9 k V [(0, .ref b), (1, .ref (ad 0)), (2, .ref (ad 109)), (3, .ref (ad 118)), (4, .ref (ad 119)), (5, .int (nI i))] [] 1789 := by
  unfold d_law_c32 at h
  subst e1 e2 e3
  refine a_aload_n (q := 1) C dL_law_1789 rfl rfl ?_
  refine a_aload (q := 4) C dL_law_1790 rfl ?_
  obtain ⟨r2, V3, g1, h⟩ := bw_spec h
  refine a_cSX (st := []) (k' := 1) C dL_law_1792 cx_RL_235 (w_L_painted  V r2 V3 g1) rfl rfl rfl ⟨Nat.le_of_ble_eq_true rfl, Nat.le_of_ble_eq_true rfl, by show _ ≤ 603072; omega, by show _ ≤ 7223402; omega⟩ (Nat.le_of_ble_eq_true rfl) ?_
  refine a_istore (lv' := [(6, .int r2), (0, .ref b), (1, .ref (ad 0)), (2, .ref (ad 109)), (3, .ref (ad 118)), (4, .ref (ad 119)), (5, .int (nI i))]) C dL_law_1795 (by decide) rfl ?_
  refine a_aload_n (q := 3) C dL_law_1797 rfl rfl ?_
  obtain ⟨r5, V6, g4, h⟩ := bw_spec h
  refine a_cVf (a := 109) (st := []) C dL_law_1798 cv_RL_237 (w_X5_painted  V3 r5 V6 g4) rfl rfl rfl rfl rfl ⟨Nat.le_of_ble_eq_true rfl, Nat.le_of_ble_eq_true rfl, by show _ ≤ 603072; omega, by show _ ≤ 7223402; omega⟩ (Nat.le_of_ble_eq_true rfl) ?_
  refine a_fstore (lv' := [(7, .float r5), (6, .int r2), (0, .ref b), (1, .ref (ad 0)), (2, .ref (ad 109)), (3, .ref (ad 118)), (4, .ref (ad 119)), (5, .int (nI i))]) C dL_law_1801 (by decide) rfl ?_
  refine a_aload_n (q := 4) C dL_law_1803 rfl rfl ?_
  obtain ⟨r8, g7, h⟩ := bd_spec h
  refine a_cVi (a := 109) (st := []) C dL_law_1804 cv_RL_125 (w_X5_thrown  V6 r8 g7) rfl rfl rfl rfl rfl ⟨Nat.le_of_ble_eq_true rfl, Nat.le_of_ble_eq_true rfl, by show _ ≤ 603072; omega, by show _ ≤ 7223402; omega⟩ (Nat.le_of_ble_eq_true rfl) ?_
  refine a_iload (q := 1) C dL_law_1807 rfl ?_
  refine a_icmp_eq (tgt := 1814) C dL_law_1809 (by decide) (fun c9 => ?_) (fun c9 => ?_)
  · have h := it_t c9 h
    refine a_iload (q := 1) C dL_law_1814 rfl ?_
    refine a_if_ne (tgt := 1852) C dL_law_1816 (by decide) (fun c10 => ?_) (fun c10 => ?_)
    · have h := it_f c10 h
      refine a_goto (tgt := 1956) C dL_law_1852 (by decide) ?_
      obtain rfl := ret1 h
      refine a_sub (lv' := [(0, .ref b), (1, .ref (ad 0)), (2, .ref (ad 109)), (3, .ref (ad 118)), (4, .ref (ad 119)), (5, .int (nI i))]) [2, 3, 4, 5, 6, 7] rfl ?_
      refine a_wid (k' := k + 8) (by omega) ?_
      exact kk
    · have h := it_t c10 h
      refine a_aload (q := 6) C dL_law_1819 rfl ?_
      refine a_iconst (v := (0 : Int32)) C dL_law_1821 rfl ?_
      refine a_dald (a := 119) C dL_law_1822 rfl (in_lit (by decide)) ?_
      refine a_fload (q := 0) C dL_law_1823 rfl ?_
      obtain ⟨z11, h⟩ := asr_spec h
      refine a_f2d C dL_law_1825 (n64ok_of z11) ?_
      by_cases c12 : Op.cmpValue (FP.dcmp (u64 (V6 119 (2 * (0 : Int32).toNatClampNeg)) (V6 119 (2 * (0 : Int32).toNatClampNeg + 1))) (FP.f2d r5)) .l = 0
      · have h := it_t c12 h
        refine a_dcmp C dL_law_1826 ?_
        refine a_if_eq (tgt := 1852) C dL_law_1827 (by decide) (fun _ => ?_) (fun q => absurd c12 q)
        refine a_goto (tgt := 1956) C dL_law_1852 (by decide) ?_
        obtain rfl := ret1 h
        refine a_sub (lv' := [(0, .ref b), (1, .ref (ad 0)), (2, .ref (ad 109)), (3, .ref (ad 118)), (4, .ref (ad 119)), (5, .int (nI i))]) [2, 3, 4, 5, 6, 7] rfl ?_
        refine a_wid (k' := k + 8) (by omega) ?_
        exact kk
      · have h := it_f c12 h
        cases h
  · have h := it_f c9 h
    cases h
set_option maxRecDepth 20000 in
set_option maxHeartbeats 4000000 in
theorem w_law_c33 {p : Program} {l : Launch} {e : Env} {s : State} {m : MethodId} {args : Array Value} {below : List Frame} {meth : Method} {c : Code} {D : va_G} {cs : Nat → ClassId} {ad : Nat → Nat} {b0 : Nat} {Q : State → Prop} {ret9 : Option FieldType} {b L : Nat} {xs : Nat → Int32} {i k : Nat} {V W9 : VT} (C : Ctx p l s m args meth c D cs ad b0 RL cL_law 9 ret9) (hX : va_X b L xs s s.heap) (hbl : b < b0) (hL : L < 2 ^ 31) (hi : i + 4 ≤ L) (hk : k ≤ 600000) {x1 x2 x3 : Int32} (e1 : xs (i + 1) = x1) (e2 : xs (i + 2) = x2) (e3 : xs (i + 3) = x3) (h : d_law_c33 x1 x2 x3 V = some W9) (kk : AW p l e room_1 s m args below meth c D cs ad b0 Q 9 (k + 8) W9 [(0, .ref b), (1, .ref (ad 0)), (2, .ref (ad 109)), (3, .ref (ad 118)), (4, .ref (ad 119)), (5, .int (nI i))] [] 1956) : AW p l e room_1 s m args below meth c D cs ad b0 Q 9 k V [(0, .ref b), (1, .ref (ad 0)), (2, .ref (ad 109)), (3, .ref (ad 118)), (4, .ref (ad 119)), (5, .int (nI i))] [] 1855 := by
  unfold d_law_c33 at h
  subst e1 e2 e3
  refine a_aload_n (q := 1) C dL_law_1855 rfl rfl ?_
  refine a_aload_n (q := 3) C dL_law_1856 rfl rfl ?_
  obtain ⟨r2, V3, g1, h⟩ := bw_spec h
  refine a_cSX (st := []) (k' := 1) C dL_law_1857 cx_RL_238 (w_L_undo  V r2 V3 g1) rfl rfl rfl ⟨Nat.le_of_ble_eq_true rfl, Nat.le_of_ble_eq_true rfl, by show _ ≤ 603072; omega, by show _ ≤ 7223402; omega⟩ (Nat.le_of_ble_eq_true rfl) ?_
  refine a_istore (lv' := [(6, .int r2), (0, .ref b), (1, .ref (ad 0)), (2, .ref (ad 109)), (3, .ref (ad 118)), (4, .ref (ad 119)), (5, .int (nI i))]) C dL_law_1860 (by decide) rfl ?_
  refine a_aload_n (q := 3) C dL_law_1862 rfl rfl ?_
  obtain ⟨r5, V6, g4, h⟩ := bw_spec h
  refine a_cVi (a := 109) (st := []) C dL_law_1863 cv_RL_240 (w_X5_undo  V3 r5 V6 g4) rfl rfl rfl rfl rfl ⟨Nat.le_of_ble_eq_true rfl, Nat.le_of_ble_eq_true rfl, by show _ ≤ 603072; omega, by show _ ≤ 7223402; omega⟩ (Nat.le_of_ble_eq_true rfl) ?_
  refine a_istore (lv' := [(7, .int r5), (6, .int r2), (0, .ref b), (1, .ref (ad 0)), (2, .ref (ad 109)), (3, .ref (ad 118)), (4, .ref (ad 119)), (5, .int (nI i))]) C dL_law_1866 (by decide) rfl ?_
  refine a_aload_n (q := 4) C dL_law_1868 rfl rfl ?_
  obtain ⟨r8, g7, h⟩ := bd_spec h
  refine a_cVi (a := 109) (st := []) C dL_law_1869 cv_RL_125 (w_X5_thrown  V6 r8 g7) rfl rfl rfl rfl rfl ⟨Nat.le_of_ble_eq_true rfl, Nat.le_of_ble_eq_true rfl, by show _ ≤ 603072; omega, by show _ ≤ 7223402; omega⟩ (Nat.le_of_ble_eq_true rfl) ?_
  refine a_iload (q := 1) C dL_law_1872 rfl ?_
  refine a_icmp_eq (tgt := 1879) C dL_law_1874 (by decide) (fun c9 => ?_) (fun c9 => ?_)
  · have h := it_t c9 h
    refine a_iload (q := 1) C dL_law_1879 rfl ?_
    refine a_if_ne (tgt := 1896) C dL_law_1881 (by decide) (fun c10 => ?_) (fun c10 => ?_)
    · have h := it_f c10 h
      refine a_goto (tgt := 1956) C dL_law_1896 (by decide) ?_
      obtain rfl := ret1 h
      refine a_sub (lv' := [(0, .ref b), (1, .ref (ad 0)), (2, .ref (ad 109)), (3, .ref (ad 118)), (4, .ref (ad 119)), (5, .int (nI i))]) [2, 3, 4, 5, 6, 7] rfl ?_
      refine a_wid (k' := k + 8) (by omega) ?_
      exact kk
    · have h := it_t c10 h
      refine a_aload_n (q := 5) C dL_law_1884 rfl rfl ?_
      refine a_iconst (v := (0 : Int32)) C dL_law_1885 rfl ?_
      refine a_lald (a := 118) C dL_law_1886 rfl (in_lit (by decide)) ?_
      refine a_iload (q := 0) C dL_law_1887 rfl ?_
      refine a_i2l (v := (r5).toInt64) C dL_law_1889 rfl ?_
      by_cases c11 : (V6 118 (0 : Int32).toNatClampNeg) = r5
      · have h := it_t c11 h
        refine a_lcmpE (x := (V6 118 (0 : Int32).toNatClampNeg)) (y := r5) C c11 dL_law_1890 ?_
        refine a_if_eq (tgt := 1896) C dL_law_1891 (by decide) (fun _ => ?_) (fun q => absurd rfl q)
        refine a_goto (tgt := 1956) C dL_law_1896 (by decide) ?_
        obtain rfl := ret1 h
        refine a_sub (lv' := [(0, .ref b), (1, .ref (ad 0)), (2, .ref (ad 109)), (3, .ref (ad 118)), (4, .ref (ad 119)), (5, .int (nI i))]) [2, 3, 4, 5, 6, 7] rfl ?_
        refine a_wid (k' := k + 8) (by omega) ?_
        exact kk
      · have h := it_f c11 h
        cases h
  · have h := it_f c9 h
    cases h
set_option maxRecDepth 20000 in
set_option maxHeartbeats 4000000 in
theorem w_law_c34 {p : Program} {l : Launch} {e : Env} {s : State} {m : MethodId} {args : Array Value} {below : List Frame} {meth : Method} {c : Code} {D : va_G} {cs : Nat → ClassId} {ad : Nat → Nat} {b0 : Nat} {Q : State → Prop} {ret9 : Option FieldType} {b L : Nat} {xs : Nat → Int32} {i k : Nat} {V W9 : VT} (C : Ctx p l s m args meth c D cs ad b0 RL cL_law 9 ret9) (hX : va_X b L xs s s.heap) (hbl : b < b0) (hL : L < 2 ^ 31) (hi : i + 4 ≤ L) (hk : k ≤ 600000) {x1 x2 x3 : Int32} (e1 : xs (i + 1) = x1) (e2 : xs (i + 2) = x2) (e3 : xs (i + 3) = x3) (h : d_law_c34 x1 x2 x3 V = some W9) (kk : AW p l e room_1 s m args below meth c D cs ad b0 Q 9 (k + 8) W9 [(0, .ref b), (1, .ref (ad 0)), (2, .ref (ad 109)), (3, .ref (ad 118)), (4, .ref (ad 119)), (5, .int (nI i))] [] 1956) : AW p l e room_1 s m args below meth c D cs ad b0 Q 9 k V [(0, .ref b), (1, .ref (ad 0)), (2, .ref (ad 109)), (3, .ref (ad 118)), (4, .ref (ad 119)), (5, .int (nI i))] [] 1899 := by
  unfold d_law_c34 at h
  subst e1 e2 e3
  refine a_aload_n (q := 1) C dL_law_1899 rfl rfl ?_
  obtain ⟨r2, V3, g1, h⟩ := bw_spec h
  refine a_cVi (a := 0) (st := []) C dL_law_1900 cv_RL_241 (w_X4_save  V r2 V3 g1) rfl rfl rfl rfl rfl ⟨Nat.le_of_ble_eq_true rfl, Nat.le_of_ble_eq_true rfl, by show _ ≤ 603072; omega, by show _ ≤ 7223402; omega⟩ (Nat.le_of_ble_eq_true rfl) ?_
  refine a_aload_n (q := 2) C dL_law_1903 rfl rfl ?_
  obtain ⟨r5, V6, g4, h⟩ := bw_spec h
  refine a_cVi (a := 109) (st := [.int r2]) C dL_law_1904 cv_RL_244 (w_X5_save  V3 r5 V6 g4) rfl rfl rfl rfl rfl ⟨Nat.le_of_ble_eq_true rfl, Nat.le_of_ble_eq_true rfl, by show _ ≤ 603072; omega, by show _ ≤ 7223402; omega⟩ (Nat.le_of_ble_eq_true rfl) ?_
  refine a_icmp_eq (tgt := 1956) C dL_law_1907 (by decide) (fun c7 => ?_) (fun c7 => ?_)
  · have h := it_t c7 h
    obtain rfl := ret1 h
    refine a_sub (lv' := [(0, .ref b), (1, .ref (ad 0)), (2, .ref (ad 109)), (3, .ref (ad 118)), (4, .ref (ad 119)), (5, .int (nI i))]) [0, 1, 2, 3, 4, 5] rfl ?_
    refine a_wid (k' := k + 8) (by omega) ?_
    exact kk
  · have h := it_f c7 h
    cases h
set_option maxRecDepth 20000 in
set_option maxHeartbeats 4000000 in
theorem w_law_c35 {p : Program} {l : Launch} {e : Env} {s : State} {m : MethodId} {args : Array Value} {below : List Frame} {meth : Method} {c : Code} {D : va_G} {cs : Nat → ClassId} {ad : Nat → Nat} {b0 : Nat} {Q : State → Prop} {ret9 : Option FieldType} {b L : Nat} {xs : Nat → Int32} {i k : Nat} {V W9 : VT} (C : Ctx p l s m args meth c D cs ad b0 RL cL_law 9 ret9) (hX : va_X b L xs s s.heap) (hbl : b < b0) (hL : L < 2 ^ 31) (hi : i + 4 ≤ L) (hk : k ≤ 600000) {x1 x2 x3 : Int32} (e1 : xs (i + 1) = x1) (e2 : xs (i + 2) = x2) (e3 : xs (i + 3) = x3) (h : d_law_c35 x1 x2 x3 V = some W9) (kk : AW p l e room_1 s m args below meth c D cs ad b0 Q 9 (k + 8) W9 [(0, .ref b), (1, .ref (ad 0)), (2, .ref (ad 109)), (3, .ref (ad 118)), (4, .ref (ad 119)), (5, .int (nI i))] [] 1956) : AW p l e room_1 s m args below meth c D cs ad b0 Q 9 k V [(0, .ref b), (1, .ref (ad 0)), (2, .ref (ad 109)), (3, .ref (ad 118)), (4, .ref (ad 119)), (5, .int (nI i))] [] 1912 := by
  unfold d_law_c35 at h
  subst e1 e2 e3
  refine a_aload_n (q := 1) C dL_law_1912 rfl rfl ?_
  refine a_aload_n (q := 3) C dL_law_1913 rfl rfl ?_
  obtain ⟨r2, V3, g1, h⟩ := bw_spec h
  refine a_cSX (st := []) (k' := 1) C dL_law_1914 cx_RL_245 (w_L_restore  V r2 V3 g1) rfl rfl rfl ⟨Nat.le_of_ble_eq_true rfl, Nat.le_of_ble_eq_true rfl, by show _ ≤ 603072; omega, by show _ ≤ 7223402; omega⟩ (Nat.le_of_ble_eq_true rfl) ?_
  refine a_istore (lv' := [(6, .int r2), (0, .ref b), (1, .ref (ad 0)), (2, .ref (ad 109)), (3, .ref (ad 118)), (4, .ref (ad 119)), (5, .int (nI i))]) C dL_law_1917 (by decide) rfl ?_
  refine a_aload_n (q := 3) C dL_law_1919 rfl rfl ?_
  obtain ⟨r5, V6, g4, h⟩ := bw_spec h
  refine a_cVi (a := 109) (st := []) C dL_law_1920 cv_RL_247 (w_X5_restore  V3 r5 V6 g4) rfl rfl rfl rfl rfl ⟨Nat.le_of_ble_eq_true rfl, Nat.le_of_ble_eq_true rfl, by show _ ≤ 603072; omega, by show _ ≤ 7223402; omega⟩ (Nat.le_of_ble_eq_true rfl) ?_
  refine a_istore (lv' := [(7, .int r5), (6, .int r2), (0, .ref b), (1, .ref (ad 0)), (2, .ref (ad 109)), (3, .ref (ad 118)), (4, .ref (ad 119)), (5, .int (nI i))]) C dL_law_1923 (by decide) rfl ?_
  refine a_aload_n (q := 4) C dL_law_1925 rfl rfl ?_
  obtain ⟨r8, g7, h⟩ := bd_spec h
  refine a_cVi (a := 109) (st := []) C dL_law_1926 cv_RL_125 (w_X5_thrown  V6 r8 g7) rfl rfl rfl rfl rfl ⟨Nat.le_of_ble_eq_true rfl, Nat.le_of_ble_eq_true rfl, by show _ ≤ 603072; omega, by show _ ≤ 7223402; omega⟩ (Nat.le_of_ble_eq_true rfl) ?_
  refine a_iload (q := 1) C dL_law_1929 rfl ?_
  refine a_icmp_eq (tgt := 1936) C dL_law_1931 (by decide) (fun c9 => ?_) (fun c9 => ?_)
  · have h := it_t c9 h
    refine a_iload (q := 1) C dL_law_1936 rfl ?_
    refine a_if_ne (tgt := 1953) C dL_law_1938 (by decide) (fun c10 => ?_) (fun c10 => ?_)
    · have h := it_f c10 h
      refine a_goto (tgt := 1956) C dL_law_1953 (by decide) ?_
      obtain rfl := ret1 h
      refine a_sub (lv' := [(0, .ref b), (1, .ref (ad 0)), (2, .ref (ad 109)), (3, .ref (ad 118)), (4, .ref (ad 119)), (5, .int (nI i))]) [2, 3, 4, 5, 6, 7] rfl ?_
      refine a_wid (k' := k + 8) (by omega) ?_
      exact kk
    · have h := it_t c10 h
      refine a_aload_n (q := 5) C dL_law_1941 rfl rfl ?_
      refine a_iconst (v := (0 : Int32)) C dL_law_1942 rfl ?_
      refine a_lald (a := 118) C dL_law_1943 rfl (in_lit (by decide)) ?_
      refine a_iload (q := 0) C dL_law_1944 rfl ?_
      refine a_i2l (v := (r5).toInt64) C dL_law_1946 rfl ?_
      by_cases c11 : (V6 118 (0 : Int32).toNatClampNeg) = r5
      · have h := it_t c11 h
        refine a_lcmpE (x := (V6 118 (0 : Int32).toNatClampNeg)) (y := r5) C c11 dL_law_1947 ?_
        refine a_if_eq (tgt := 1953) C dL_law_1948 (by decide) (fun _ => ?_) (fun q => absurd rfl q)
        refine a_goto (tgt := 1956) C dL_law_1953 (by decide) ?_
        obtain rfl := ret1 h
        refine a_sub (lv' := [(0, .ref b), (1, .ref (ad 0)), (2, .ref (ad 109)), (3, .ref (ad 118)), (4, .ref (ad 119)), (5, .int (nI i))]) [2, 3, 4, 5, 6, 7] rfl ?_
        refine a_wid (k' := k + 8) (by omega) ?_
        exact kk
      · have h := it_f c11 h
        cases h
  · have h := it_f c9 h
    cases h
set_option maxRecDepth 20000 in
set_option maxHeartbeats 4000000 in
theorem w_law_body {p : Program} {l : Launch} {e : Env} {s : State} {m : MethodId} {args : Array Value} {below : List Frame} {meth : Method} {c : Code} {D : va_G} {cs : Nat → ClassId} {ad : Nat → Nat} {b0 : Nat} {Q : State → Prop} {ret9 : Option FieldType} {b L : Nat} {xs : Nat → Int32} {i k : Nat} {V W9 : VT} (C : Ctx p l s m args meth c D cs ad b0 RL cL_law 9 ret9) (hX : va_X b L xs s s.heap) (hbl : b < b0) (hL : L < 2 ^ 31) (hi : i + 4 ≤ L) (hk : k ≤ 600000) (h : d_law_body (xs i) (xs (i + 1)) (xs (i + 2)) (xs (i + 3)) V = some W9) (kk : AW p l e room_1 s m args below meth c D cs ad b0 Q 9 (k + 8) W9 [(0, .ref b), (1, .ref (ad 0)), (2, .ref (ad 109)), (3, .ref (ad 118)), (4, .ref (ad 119)), (5, .int (nI i))] [] 1956) : AW p l e room_1 s m args below meth c D cs ad b0 Q 9 k V [(0, .ref b), (1, .ref (ad 0)), (2, .ref (ad 109)), (3, .ref (ad 118)), (4, .ref (ad 119)), (5, .int (nI i))] [] 37 := by
  unfold d_law_body at h
  refine a_aload_n (q := 0) C dL_law_37 rfl rfl ?_
  refine a_iload (q := 5) C dL_law_38 rfl ?_
  refine a_sld C hX hbl rfl (show i < L by omega) hL dL_law_40 ?_
  refine a_bipush (v := (63 : Int32)) C dL_law_41 rfl ?_
  refine a_iand C dL_law_43 ?_
  by_cases n0 : (xs i &&& (63 : Int32)) = (0 : Int32)
  · have h := it_t n0 h
    refine a_tswIn (tgt := 204) (v := (0 : Int32)) C dL_law_44 n0 (by decide) (by decide) rfl (by decide) ?_
    exact w_law_c0 C hX hbl hL hi hk rfl rfl rfl h kk
  have h := it_f n0 h
  by_cases n1 : (xs i &&& (63 : Int32)) = (1 : Int32)
  · have h := it_t n1 h
    refine a_tswIn (tgt := 260) (v := (1 : Int32)) C dL_law_44 n1 (by decide) (by decide) rfl (by decide) ?_
    exact w_law_c1 C hX hbl hL hi hk rfl rfl rfl h kk
  have h := it_f n1 h
  by_cases n2 : (xs i &&& (63 : Int32)) = (2 : Int32)
  · have h := it_t n2 h
    refine a_tswIn (tgt := 328) (v := (2 : Int32)) C dL_law_44 n2 (by decide) (by decide) rfl (by decide) ?_
    exact w_law_c2 C hX hbl hL hi hk rfl rfl rfl h kk
  have h := it_f n2 h
  by_cases n3 : (xs i &&& (63 : Int32)) = (3 : Int32)
  · have h := it_t n3 h
    refine a_tswIn (tgt := 396) (v := (3 : Int32)) C dL_law_44 n3 (by decide) (by decide) rfl (by decide) ?_
    exact w_law_c3 C hX hbl hL hi hk rfl rfl rfl h kk
  have h := it_f n3 h
  by_cases n4 : (xs i &&& (63 : Int32)) = (4 : Int32)
  · have h := it_t n4 h
    refine a_tswIn (tgt := 471) (v := (4 : Int32)) C dL_law_44 n4 (by decide) (by decide) rfl (by decide) ?_
    exact w_law_c4 C hX hbl hL hi hk rfl rfl rfl h kk
  have h := it_f n4 h
  by_cases n5 : (xs i &&& (63 : Int32)) = (5 : Int32)
  · have h := it_t n5 h
    refine a_tswIn (tgt := 539) (v := (5 : Int32)) C dL_law_44 n5 (by decide) (by decide) rfl (by decide) ?_
    exact w_law_c5 C hX hbl hL hi hk rfl rfl rfl h kk
  have h := it_f n5 h
  by_cases n6 : (xs i &&& (63 : Int32)) = (6 : Int32)
  · have h := it_t n6 h
    refine a_tswIn (tgt := 595) (v := (6 : Int32)) C dL_law_44 n6 (by decide) (by decide) rfl (by decide) ?_
    exact w_law_c6 C hX hbl hL hi hk rfl rfl rfl h kk
  have h := it_f n6 h
  by_cases n7 : (xs i &&& (63 : Int32)) = (7 : Int32)
  · have h := it_t n7 h
    refine a_tswIn (tgt := 663) (v := (7 : Int32)) C dL_law_44 n7 (by decide) (by decide) rfl (by decide) ?_
    exact w_law_c7 C hX hbl hL hi hk rfl rfl rfl h kk
  have h := it_f n7 h
  by_cases n8 : (xs i &&& (63 : Int32)) = (8 : Int32)
  · have h := it_t n8 h
    refine a_tswIn (tgt := 731) (v := (8 : Int32)) C dL_law_44 n8 (by decide) (by decide) rfl (by decide) ?_
    exact w_law_c8 C hX hbl hL hi hk rfl rfl rfl h kk
  have h := it_f n8 h
  by_cases n9 : (xs i &&& (63 : Int32)) = (9 : Int32)
  · have h := it_t n9 h
    refine a_tswIn (tgt := 799) (v := (9 : Int32)) C dL_law_44 n9 (by decide) (by decide) rfl (by decide) ?_
    exact w_law_c9 C hX hbl hL hi hk rfl rfl rfl h kk
  have h := it_f n9 h
  by_cases n10 : (xs i &&& (63 : Int32)) = (10 : Int32)
  · have h := it_t n10 h
    refine a_tswIn (tgt := 867) (v := (10 : Int32)) C dL_law_44 n10 (by decide) (by decide) rfl (by decide) ?_
    exact w_law_c10 C hX hbl hL hi hk rfl rfl rfl h kk
  have h := it_f n10 h
  by_cases n11 : (xs i &&& (63 : Int32)) = (11 : Int32)
  · have h := it_t n11 h
    refine a_tswIn (tgt := 911) (v := (11 : Int32)) C dL_law_44 n11 (by decide) (by decide) rfl (by decide) ?_
    exact w_law_c11 C hX hbl hL hi hk rfl rfl rfl h kk
  have h := it_f n11 h
  by_cases n12 : (xs i &&& (63 : Int32)) = (12 : Int32)
  · have h := it_t n12 h
    refine a_tswIn (tgt := 924) (v := (12 : Int32)) C dL_law_44 n12 (by decide) (by decide) rfl (by decide) ?_
    exact w_law_c12 C hX hbl hL hi hk rfl rfl rfl h kk
  have h := it_f n12 h
  by_cases n13 : (xs i &&& (63 : Int32)) = (13 : Int32)
  · have h := it_t n13 h
    refine a_tswIn (tgt := 980) (v := (13 : Int32)) C dL_law_44 n13 (by decide) (by decide) rfl (by decide) ?_
    exact w_law_c13 C hX hbl hL hi hk rfl rfl rfl h kk
  have h := it_f n13 h
  by_cases n14 : (xs i &&& (63 : Int32)) = (14 : Int32)
  · have h := it_t n14 h
    refine a_tswIn (tgt := 1024) (v := (14 : Int32)) C dL_law_44 n14 (by decide) (by decide) rfl (by decide) ?_
    exact w_law_c14 C hX hbl hL hi hk rfl rfl rfl h kk
  have h := it_f n14 h
  by_cases n15 : (xs i &&& (63 : Int32)) = (15 : Int32)
  · have h := it_t n15 h
    refine a_tswIn (tgt := 1068) (v := (15 : Int32)) C dL_law_44 n15 (by decide) (by decide) rfl (by decide) ?_
    exact w_law_c15 C hX hbl hL hi hk rfl rfl rfl h kk
  have h := it_f n15 h
  by_cases n16 : (xs i &&& (63 : Int32)) = (16 : Int32)
  · have h := it_t n16 h
    refine a_tswIn (tgt := 1124) (v := (16 : Int32)) C dL_law_44 n16 (by decide) (by decide) rfl (by decide) ?_
    exact w_law_c16 C hX hbl hL hi hk rfl rfl rfl h kk
  have h := it_f n16 h
  by_cases n17 : (xs i &&& (63 : Int32)) = (17 : Int32)
  · have h := it_t n17 h
    refine a_tswIn (tgt := 1204) (v := (17 : Int32)) C dL_law_44 n17 (by decide) (by decide) rfl (by decide) ?_
    exact w_law_c17 C hX hbl hL hi hk rfl rfl rfl h kk
  have h := it_f n17 h
  by_cases n18 : (xs i &&& (63 : Int32)) = (18 : Int32)
  · have h := it_t n18 h
    refine a_tswIn (tgt := 1217) (v := (18 : Int32)) C dL_law_44 n18 (by decide) (by decide) rfl (by decide) ?_
    exact w_law_c18 C hX hbl hL hi hk rfl rfl rfl h kk
  have h := it_f n18 h
  by_cases n19 : (xs i &&& (63 : Int32)) = (19 : Int32)
  · have h := it_t n19 h
    refine a_tswIn (tgt := 1230) (v := (19 : Int32)) C dL_law_44 n19 (by decide) (by decide) rfl (by decide) ?_
    exact w_law_c19 C hX hbl hL hi hk rfl rfl rfl h kk
  have h := it_f n19 h
  by_cases n20 : (xs i &&& (63 : Int32)) = (20 : Int32)
  · have h := it_t n20 h
    refine a_tswIn (tgt := 1243) (v := (20 : Int32)) C dL_law_44 n20 (by decide) (by decide) rfl (by decide) ?_
    exact w_law_c20 C hX hbl hL hi hk rfl rfl rfl h kk
  have h := it_f n20 h
  by_cases n21 : (xs i &&& (63 : Int32)) = (21 : Int32)
  · have h := it_t n21 h
    refine a_tswIn (tgt := 1299) (v := (21 : Int32)) C dL_law_44 n21 (by decide) (by decide) rfl (by decide) ?_
    exact w_law_c21 C hX hbl hL hi hk rfl rfl rfl h kk
  have h := it_f n21 h
  by_cases n22 : (xs i &&& (63 : Int32)) = (22 : Int32)
  · have h := it_t n22 h
    refine a_tswIn (tgt := 1343) (v := (22 : Int32)) C dL_law_44 n22 (by decide) (by decide) rfl (by decide) ?_
    exact w_law_c22 C hX hbl hL hi hk rfl rfl rfl h kk
  have h := it_f n22 h
  by_cases n23 : (xs i &&& (63 : Int32)) = (23 : Int32)
  · have h := it_t n23 h
    refine a_tswIn (tgt := 1356) (v := (23 : Int32)) C dL_law_44 n23 (by decide) (by decide) rfl (by decide) ?_
    exact w_law_c23 C hX hbl hL hi hk rfl rfl rfl h kk
  have h := it_f n23 h
  by_cases n24 : (xs i &&& (63 : Int32)) = (24 : Int32)
  · have h := it_t n24 h
    refine a_tswIn (tgt := 1412) (v := (24 : Int32)) C dL_law_44 n24 (by decide) (by decide) rfl (by decide) ?_
    exact w_law_c24 C hX hbl hL hi hk rfl rfl rfl h kk
  have h := it_f n24 h
  by_cases n25 : (xs i &&& (63 : Int32)) = (25 : Int32)
  · have h := it_t n25 h
    refine a_tswIn (tgt := 1468) (v := (25 : Int32)) C dL_law_44 n25 (by decide) (by decide) rfl (by decide) ?_
    exact w_law_c25 C hX hbl hL hi hk rfl rfl rfl h kk
  have h := it_f n25 h
  by_cases n26 : (xs i &&& (63 : Int32)) = (26 : Int32)
  · have h := it_t n26 h
    refine a_tswIn (tgt := 1526) (v := (26 : Int32)) C dL_law_44 n26 (by decide) (by decide) rfl (by decide) ?_
    exact w_law_c26 C hX hbl hL hi hk rfl rfl rfl h kk
  have h := it_f n26 h
  by_cases n27 : (xs i &&& (63 : Int32)) = (27 : Int32)
  · have h := it_t n27 h
    refine a_tswIn (tgt := 1570) (v := (27 : Int32)) C dL_law_44 n27 (by decide) (by decide) rfl (by decide) ?_
    exact w_law_c27 C hX hbl hL hi hk rfl rfl rfl h kk
  have h := it_f n27 h
  by_cases n28 : (xs i &&& (63 : Int32)) = (28 : Int32)
  · have h := it_t n28 h
    refine a_tswIn (tgt := 1583) (v := (28 : Int32)) C dL_law_44 n28 (by decide) (by decide) rfl (by decide) ?_
    exact w_law_c28 C hX hbl hL hi hk rfl rfl rfl h kk
  have h := it_f n28 h
  by_cases n29 : (xs i &&& (63 : Int32)) = (29 : Int32)
  · have h := it_t n29 h
    refine a_tswIn (tgt := 1655) (v := (29 : Int32)) C dL_law_44 n29 (by decide) (by decide) rfl (by decide) ?_
    exact w_law_c29 C hX hbl hL hi hk rfl rfl rfl h kk
  have h := it_f n29 h
  by_cases n30 : (xs i &&& (63 : Int32)) = (30 : Int32)
  · have h := it_t n30 h
    refine a_tswIn (tgt := 1711) (v := (30 : Int32)) C dL_law_44 n30 (by decide) (by decide) rfl (by decide) ?_
    exact w_law_c30 C hX hbl hL hi hk rfl rfl rfl h kk
  have h := it_f n30 h
  by_cases n31 : (xs i &&& (63 : Int32)) = (31 : Int32)
  · have h := it_t n31 h
    refine a_tswIn (tgt := 1724) (v := (31 : Int32)) C dL_law_44 n31 (by decide) (by decide) rfl (by decide) ?_
    exact w_law_c31 C hX hbl hL hi hk rfl rfl rfl h kk
  have h := it_f n31 h
  by_cases n32 : (xs i &&& (63 : Int32)) = (32 : Int32)
  · have h := it_t n32 h
    refine a_tswIn (tgt := 1789) (v := (32 : Int32)) C dL_law_44 n32 (by decide) (by decide) rfl (by decide) ?_
    exact w_law_c32 C hX hbl hL hi hk rfl rfl rfl h kk
  have h := it_f n32 h
  by_cases n33 : (xs i &&& (63 : Int32)) = (33 : Int32)
  · have h := it_t n33 h
    refine a_tswIn (tgt := 1855) (v := (33 : Int32)) C dL_law_44 n33 (by decide) (by decide) rfl (by decide) ?_
    exact w_law_c33 C hX hbl hL hi hk rfl rfl rfl h kk
  have h := it_f n33 h
  by_cases n34 : (xs i &&& (63 : Int32)) = (34 : Int32)
  · have h := it_t n34 h
    refine a_tswIn (tgt := 1899) (v := (34 : Int32)) C dL_law_44 n34 (by decide) (by decide) rfl (by decide) ?_
    exact w_law_c34 C hX hbl hL hi hk rfl rfl rfl h kk
  have h := it_f n34 h
  by_cases n35 : (xs i &&& (63 : Int32)) = (35 : Int32)
  · have h := it_t n35 h
    refine a_tswIn (tgt := 1912) (v := (35 : Int32)) C dL_law_44 n35 (by decide) (by decide) rfl (by decide) ?_
    exact w_law_c35 C hX hbl hL hi hk rfl rfl rfl h kk
  have h := it_f n35 h
  obtain rfl := ret1 h
  refine a_tswOut (tgt := 1956) C dL_law_44 (by have q0 := lv_neT (a := 0) n0 rfl; have q1 := lv_neT (a := 1) n1 rfl; have q2 := lv_neT (a := 2) n2 rfl; have q3 := lv_neT (a := 3) n3 rfl; have q4 := lv_neT (a := 4) n4 rfl; have q5 := lv_neT (a := 5) n5 rfl; have q6 := lv_neT (a := 6) n6 rfl; have q7 := lv_neT (a := 7) n7 rfl; have q8 := lv_neT (a := 8) n8 rfl; have q9 := lv_neT (a := 9) n9 rfl; have q10 := lv_neT (a := 10) n10 rfl; have q11 := lv_neT (a := 11) n11 rfl; have q12 := lv_neT (a := 12) n12 rfl; have q13 := lv_neT (a := 13) n13 rfl; have q14 := lv_neT (a := 14) n14 rfl; have q15 := lv_neT (a := 15) n15 rfl; have q16 := lv_neT (a := 16) n16 rfl; have q17 := lv_neT (a := 17) n17 rfl; have q18 := lv_neT (a := 18) n18 rfl; have q19 := lv_neT (a := 19) n19 rfl; have q20 := lv_neT (a := 20) n20 rfl; have q21 := lv_neT (a := 21) n21 rfl; have q22 := lv_neT (a := 22) n22 rfl; have q23 := lv_neT (a := 23) n23 rfl; have q24 := lv_neT (a := 24) n24 rfl; have q25 := lv_neT (a := 25) n25 rfl; have q26 := lv_neT (a := 26) n26 rfl; have q27 := lv_neT (a := 27) n27 rfl; have q28 := lv_neT (a := 28) n28 rfl; have q29 := lv_neT (a := 29) n29 rfl; have q30 := lv_neT (a := 30) n30 rfl; have q31 := lv_neT (a := 31) n31 rfl; have q32 := lv_neT (a := 32) n32 rfl; have q33 := lv_neT (a := 33) n33 rfl; have q34 := lv_neT (a := 34) n34 rfl; have q35 := lv_neT (a := 35) n35 rfl; omega) (by decide) ?_
  exact a_wid (k' := k + 8) (by omega) kk
