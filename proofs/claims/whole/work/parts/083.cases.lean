set_option maxRecDepth 100000 in
set_option maxHeartbeats 4000000 in
theorem lc_0 {p : Program} {l : Launch} {e : Env} {s : State} {m : MethodId} {below : List Frame} {meth : Method} {c : Code} {b L : Nat} {xs : Nat → Int32} {D : va_G} {tc : Nat → ClassId} {aC aM aO : Nat → Nat} {A : Nat → Prop} {Q : State → Prop} (Rel Rel' : gm_M → gm_M → Prop) (hL : L ≤ 3584) (C : gm_C p s m meth c #[.ref b] (D, tc, aC) A code 7 RL ret) (hX : va_X b L xs s s.heap) (hbl : b < s.heap.size) (hbA : ¬ A b) (hd1 : gm_dj GC (D, tc, aC) GM (D, tc, aM)) (hd2 : gm_dj GM (D, tc, aM) GC (D, tc, aC)) (hd3 : gm_dj GC (D, tc, aC) GO (D, tc, aO)) (hd4 : gm_dj GM (D, tc, aM) GO (D, tc, aO)) (S : St_feed Rel Rel') {uC uM uO : gm_M} {H : Heap} {locs : List Loc} {ls : Array Slot} {cells slots : Nat} (hC : wd GC (D, tc, aC) uC A s.heap H locs) (hM : wd GM (D, tc, aM) uM A s.heap H locs) (hO : wd GO (D, tc, aO) uO A s.heap H locs) (hR : Rel uC uM) (hcs : cells ≤ room_1.cells ∧ slots ≤ room_1.slots) {i : Nat} (hi : i + 7 ≤ L) (hl : lv_has ls 7 [(0, .ref b), (1, .ref (aC 1)), (2, .ref (aM 1)), (3, .ref (aO 1)), (4, .int (nI i))]) (K : ∀ (uC uM : gm_M) (H : Heap) (locs : List Loc), wd GC (D, tc, aC) uC A s.heap H locs → wd GM (D, tc, aM) uM A s.heap H locs → wd GO (D, tc, aO) uO A s.heap H locs → Rel' uC uM → W p l e room_1 s m #[.ref b] below meth c H locs cells slots Q (F0 m 1386 ls [])) : W p l e room_1 s m #[.ref b] below meth c H locs cells slots Q (F0 m 204 ls []) := by
  obtain ⟨hx, hb, -⟩ := id C
  have CM : gm_C p s m meth c #[.ref b] (D, tc, aM) A code 7 RL ret := C
  refine lv_aload_n hx hb dL_law_204 rfl (lv_at hl 1 rfl) ?_
  refine lv_aload_n hx hb dL_law_205 rfl (lv_at hl 0 rfl) ?_
  refine lv_iload hx hb dL_law_206 (lv_at hl 4 rfl) ?_
  refine lv_iconst (v := 1) hx hb dL_law_208 (by decide) ?_
  refine lv_iadd hx hb dL_law_209 ?_
  refine va_sld hx hb hX hbl hbA hC.2.2.1 (lw_in (k := 1) hi hL (by decide)) dL_law_210 ?_
  refine lv_i2l hx hb dL_law_211 rfl ?_
  refine lv_bipush (v := 32) hx hb dL_law_212 (by decide) ?_
  refine lv_lshl hx hb dL_law_214 rfl ?_
  refine lv_aload_n hx hb dL_law_215 rfl (lv_at hl 0 rfl) ?_
  refine lv_iload hx hb dL_law_216 (lv_at hl 4 rfl) ?_
  refine lv_iconst (v := 2) hx hb dL_law_218 (by decide) ?_
  refine lv_iadd hx hb dL_law_219 ?_
  refine va_sld hx hb hX hbl hbA hC.2.2.1 (lw_in (k := 2) hi hL (by decide)) dL_law_220 ?_
  refine lv_i2l hx hb dL_law_221 rfl ?_
  refine lv_ldc2 hx hb C.2.2.2.1 (C.2.2.2.2.1 _ kn_L_19) dL_law_222 ?_
  refine lv_land hx hb dL_law_225 ?_
  refine lv_lor hx hb dL_law_226 ?_
  refine lv_aload_n hx hb dL_law_227 rfl (lv_at hl 0 rfl) ?_
  refine lv_iload hx hb dL_law_228 (lv_at hl 4 rfl) ?_
  refine lv_iconst (v := 3) hx hb dL_law_230 (by decide) ?_
  refine lv_iadd hx hb dL_law_231 ?_
  refine va_sld hx hb hX hbl hbA hC.2.2.1 (lw_in (k := 3) hi hL (by decide)) dL_law_232 ?_
  refine lv_i2l hx hb dL_law_233 rfl ?_
  refine lv_bipush (v := 32) hx hb dL_law_234 (by decide) ?_
  refine lv_lshl hx hb dL_law_236 rfl ?_
  refine lv_aload_n hx hb dL_law_237 rfl (lv_at hl 0 rfl) ?_
  refine lv_iload hx hb dL_law_238 (lv_at hl 4 rfl) ?_
  refine lv_iconst (v := 4) hx hb dL_law_240 (by decide) ?_
  refine lv_iadd hx hb dL_law_241 ?_
  refine va_sld hx hb hX hbl hbA hC.2.2.1 (lw_in (k := 4) hi hL (by decide)) dL_law_242 ?_
  refine lv_i2l hx hb dL_law_243 rfl ?_
  refine lv_ldc2 hx hb C.2.2.2.1 (C.2.2.2.2.1 _ kn_L_19) dL_law_244 ?_
  refine lv_land hx hb dL_law_247 ?_
  refine lv_lor hx hb dL_law_248 ?_
  refine lv_aload_n hx hb dL_law_249 rfl (lv_at hl 0 rfl) ?_
  refine lv_iload hx hb dL_law_250 (lv_at hl 4 rfl) ?_
  refine lv_iconst (v := 5) hx hb dL_law_252 (by decide) ?_
  refine lv_iadd hx hb dL_law_253 ?_
  refine va_sld hx hb hX hbl hbA hC.2.2.1 (lw_in (k := 5) hi hL (by decide)) dL_law_254 ?_
  refine lv_i2l hx hb dL_law_255 rfl ?_
  refine lv_bipush (v := 32) hx hb dL_law_256 (by decide) ?_
  refine lv_lshl hx hb dL_law_258 rfl ?_
  refine lv_aload_n hx hb dL_law_259 rfl (lv_at hl 0 rfl) ?_
  refine lv_iload hx hb dL_law_260 (lv_at hl 4 rfl) ?_
  refine lv_bipush (v := 6) hx hb dL_law_262 (by decide) ?_
  refine lv_iadd hx hb dL_law_264 ?_
  refine va_sld hx hb hX hbl hbA hC.2.2.1 (lw_in (k := 6) hi hL (by decide)) dL_law_265 ?_
  refine lv_i2l hx hb dL_law_266 rfl ?_
  refine lv_ldc2 hx hb C.2.2.2.1 (C.2.2.2.2.1 _ kn_L_19) dL_law_267 ?_
  refine lv_land hx hb dL_law_270 ?_
  refine lv_lor hx hb dL_law_271 ?_
  obtain ⟨r, uC', uM', h1, h2, hR'⟩ := S uC uM hR ((xs (ix (nI i + (1 : Int32)))).toInt64 <<< ((32 : Int32).toInt64 &&& 63) ||| ((xs (ix (nI i + (2 : Int32)))).toInt64 &&& (4294967295 : Int64))) ((xs (ix (nI i + (3 : Int32)))).toInt64 <<< ((32 : Int32).toInt64 &&& 63) ||| ((xs (ix (nI i + (4 : Int32)))).toInt64 &&& (4294967295 : Int64))) ((xs (ix (nI i + (5 : Int32)))).toInt64 <<< ((32 : Int32).toInt64 &&& 63) ||| ((xs (ix (nI i + (6 : Int32)))).toInt64 &&& (4294967295 : Int64)))
  refine gm_callL (G := GC) (Z := (D, tc, aC)) (u := uC) (u' := uC') (r := 1) (ci := 9) (As := [.long ((xs (ix (nI i + (1 : Int32)))).toInt64 <<< ((32 : Int32).toInt64 &&& 63) ||| ((xs (ix (nI i + (2 : Int32)))).toInt64 &&& (4294967295 : Int64))), .long ((xs (ix (nI i + (3 : Int32)))).toInt64 <<< ((32 : Int32).toInt64 &&& 63) ||| ((xs (ix (nI i + (4 : Int32)))).toInt64 &&& (4294967295 : Int64))), .long ((xs (ix (nI i + (5 : Int32)))).toInt64 <<< ((32 : Int32).toInt64 &&& 63) ||| ((xs (ix (nI i + (6 : Int32)))).toInt64 &&& (4294967295 : Int64)))]) (rest := []) (res := some (.int r)) C hC hl (ok_X10_feed l (D, tc, aC) ((xs (ix (nI i + (1 : Int32)))).toInt64 <<< ((32 : Int32).toInt64 &&& 63) ||| ((xs (ix (nI i + (2 : Int32)))).toInt64 &&& (4294967295 : Int64))) ((xs (ix (nI i + (3 : Int32)))).toInt64 <<< ((32 : Int32).toInt64 &&& 63) ||| ((xs (ix (nI i + (4 : Int32)))).toInt64 &&& (4294967295 : Int64))) ((xs (ix (nI i + (5 : Int32)))).toInt64 <<< ((32 : Int32).toInt64 &&& 63) ||| ((xs (ix (nI i + (6 : Int32)))).toInt64 &&& (4294967295 : Int64))) uC r uC' h1) cw_L_21 im_X10_feed rfl se_X10_feed rfl rfl rfl ⟨Nat.le_of_ble_eq_true rfl, Nat.le_of_ble_eq_true rfl⟩ hcs rfl rfl (Nat.le_of_ble_eq_true rfl) dL_law_272 (fun H locs hC hk => ?_)
  have hM := gm_other hd1 hM hC hk
  have hO := gm_other hd3 hO hC hk
  refine lv_aload_n hx hb dL_law_275 rfl (lv_at hl 2 rfl) ?_
  refine lv_aload_n hx hb dL_law_276 rfl (lv_at hl 0 rfl) ?_
  refine lv_iload hx hb dL_law_277 (lv_at hl 4 rfl) ?_
  refine lv_iconst (v := 1) hx hb dL_law_279 (by decide) ?_
  refine lv_iadd hx hb dL_law_280 ?_
  refine va_sld hx hb hX hbl hbA hC.2.2.1 (lw_in (k := 1) hi hL (by decide)) dL_law_281 ?_
  refine lv_i2l hx hb dL_law_282 rfl ?_
  refine lv_bipush (v := 32) hx hb dL_law_283 (by decide) ?_
  refine lv_lshl hx hb dL_law_285 rfl ?_
  refine lv_aload_n hx hb dL_law_286 rfl (lv_at hl 0 rfl) ?_
  refine lv_iload hx hb dL_law_287 (lv_at hl 4 rfl) ?_
  refine lv_iconst (v := 2) hx hb dL_law_289 (by decide) ?_
  refine lv_iadd hx hb dL_law_290 ?_
  refine va_sld hx hb hX hbl hbA hC.2.2.1 (lw_in (k := 2) hi hL (by decide)) dL_law_291 ?_
  refine lv_i2l hx hb dL_law_292 rfl ?_
  refine lv_ldc2 hx hb C.2.2.2.1 (C.2.2.2.2.1 _ kn_L_19) dL_law_293 ?_
  refine lv_land hx hb dL_law_296 ?_
  refine lv_lor hx hb dL_law_297 ?_
  refine lv_aload_n hx hb dL_law_298 rfl (lv_at hl 0 rfl) ?_
  refine lv_iload hx hb dL_law_299 (lv_at hl 4 rfl) ?_
  refine lv_iconst (v := 3) hx hb dL_law_301 (by decide) ?_
  refine lv_iadd hx hb dL_law_302 ?_
  refine va_sld hx hb hX hbl hbA hC.2.2.1 (lw_in (k := 3) hi hL (by decide)) dL_law_303 ?_
  refine lv_i2l hx hb dL_law_304 rfl ?_
  refine lv_bipush (v := 32) hx hb dL_law_305 (by decide) ?_
  refine lv_lshl hx hb dL_law_307 rfl ?_
  refine lv_aload_n hx hb dL_law_308 rfl (lv_at hl 0 rfl) ?_
  refine lv_iload hx hb dL_law_309 (lv_at hl 4 rfl) ?_
  refine lv_iconst (v := 4) hx hb dL_law_311 (by decide) ?_
  refine lv_iadd hx hb dL_law_312 ?_
  refine va_sld hx hb hX hbl hbA hC.2.2.1 (lw_in (k := 4) hi hL (by decide)) dL_law_313 ?_
  refine lv_i2l hx hb dL_law_314 rfl ?_
  refine lv_ldc2 hx hb C.2.2.2.1 (C.2.2.2.2.1 _ kn_L_19) dL_law_315 ?_
  refine lv_land hx hb dL_law_318 ?_
  refine lv_lor hx hb dL_law_319 ?_
  refine lv_aload_n hx hb dL_law_320 rfl (lv_at hl 0 rfl) ?_
  refine lv_iload hx hb dL_law_321 (lv_at hl 4 rfl) ?_
  refine lv_iconst (v := 5) hx hb dL_law_323 (by decide) ?_
  refine lv_iadd hx hb dL_law_324 ?_
  refine va_sld hx hb hX hbl hbA hC.2.2.1 (lw_in (k := 5) hi hL (by decide)) dL_law_325 ?_
  refine lv_i2l hx hb dL_law_326 rfl ?_
  refine lv_bipush (v := 32) hx hb dL_law_327 (by decide) ?_
  refine lv_lshl hx hb dL_law_329 rfl ?_
  refine lv_aload_n hx hb dL_law_330 rfl (lv_at hl 0 rfl) ?_
  refine lv_iload hx hb dL_law_331 (lv_at hl 4 rfl) ?_
  refine lv_bipush (v := 6) hx hb dL_law_333 (by decide) ?_
  refine lv_iadd hx hb dL_law_335 ?_
  refine va_sld hx hb hX hbl hbA hC.2.2.1 (lw_in (k := 6) hi hL (by decide)) dL_law_336 ?_
  refine lv_i2l hx hb dL_law_337 rfl ?_
  refine lv_ldc2 hx hb C.2.2.2.1 (C.2.2.2.2.1 _ kn_L_19) dL_law_338 ?_
  refine lv_land hx hb dL_law_341 ?_
  refine lv_lor hx hb dL_law_342 ?_
  refine gm_callL (G := GM) (Z := (D, tc, aM)) (u := uM) (u' := uM') (r := 1) (ci := 10) (As := [.long ((xs (ix (nI i + (1 : Int32)))).toInt64 <<< ((32 : Int32).toInt64 &&& 63) ||| ((xs (ix (nI i + (2 : Int32)))).toInt64 &&& (4294967295 : Int64))), .long ((xs (ix (nI i + (3 : Int32)))).toInt64 <<< ((32 : Int32).toInt64 &&& 63) ||| ((xs (ix (nI i + (4 : Int32)))).toInt64 &&& (4294967295 : Int64))), .long ((xs (ix (nI i + (5 : Int32)))).toInt64 <<< ((32 : Int32).toInt64 &&& 63) ||| ((xs (ix (nI i + (6 : Int32)))).toInt64 &&& (4294967295 : Int64)))]) (rest := [.int r]) (res := some (.int r)) CM hM hl (ok_X11_feed l (D, tc, aM) ((xs (ix (nI i + (1 : Int32)))).toInt64 <<< ((32 : Int32).toInt64 &&& 63) ||| ((xs (ix (nI i + (2 : Int32)))).toInt64 &&& (4294967295 : Int64))) ((xs (ix (nI i + (3 : Int32)))).toInt64 <<< ((32 : Int32).toInt64 &&& 63) ||| ((xs (ix (nI i + (4 : Int32)))).toInt64 &&& (4294967295 : Int64))) ((xs (ix (nI i + (5 : Int32)))).toInt64 <<< ((32 : Int32).toInt64 &&& 63) ||| ((xs (ix (nI i + (6 : Int32)))).toInt64 &&& (4294967295 : Int64))) uM r uM' h2) cw_L_25 im_X11_feed rfl se_X11_feed rfl rfl rfl ⟨Nat.le_of_ble_eq_true rfl, Nat.le_of_ble_eq_true rfl⟩ hcs rfl rfl (Nat.le_of_ble_eq_true rfl) dL_law_343 (fun H locs hM hk => ?_)
  have hC := gm_other hd2 hC hM hk
  have hO := gm_other hd4 hO hM hk
  refine lv_icmp_eq (tgt := 1386) hx hb dL_law_346 (by decide) (fun hc => ?_) (fun hc => ?_)
  · exact K uC' uM' _ _ hC hM hO hR'
  · exact absurd rfl hc
set_option maxRecDepth 100000 in
set_option maxHeartbeats 4000000 in
theorem lc_1 {p : Program} {l : Launch} {e : Env} {s : State} {m : MethodId} {below : List Frame} {meth : Method} {c : Code} {b L : Nat} {xs : Nat → Int32} {D : va_G} {tc : Nat → ClassId} {aC aM aO : Nat → Nat} {A : Nat → Prop} {Q : State → Prop} (Rel Rel' : gm_M → gm_M → Prop) (hL : L ≤ 3584) (C : gm_C p s m meth c #[.ref b] (D, tc, aC) A code 7 RL ret) (hX : va_X b L xs s s.heap) (hbl : b < s.heap.size) (hbA : ¬ A b) (hd1 : gm_dj GC (D, tc, aC) GM (D, tc, aM)) (hd2 : gm_dj GM (D, tc, aM) GC (D, tc, aC)) (hd3 : gm_dj GC (D, tc, aC) GO (D, tc, aO)) (hd4 : gm_dj GM (D, tc, aM) GO (D, tc, aO)) (S : St_realm Rel Rel') {uC uM uO : gm_M} {H : Heap} {locs : List Loc} {ls : Array Slot} {cells slots : Nat} (hC : wd GC (D, tc, aC) uC A s.heap H locs) (hM : wd GM (D, tc, aM) uM A s.heap H locs) (hO : wd GO (D, tc, aO) uO A s.heap H locs) (hR : Rel uC uM) (hcs : cells ≤ room_1.cells ∧ slots ≤ room_1.slots) {i : Nat} (hi : i + 7 ≤ L) (hl : lv_has ls 7 [(0, .ref b), (1, .ref (aC 1)), (2, .ref (aM 1)), (3, .ref (aO 1)), (4, .int (nI i))]) (K : ∀ (uC uM : gm_M) (H : Heap) (locs : List Loc), wd GC (D, tc, aC) uC A s.heap H locs → wd GM (D, tc, aM) uM A s.heap H locs → wd GO (D, tc, aO) uO A s.heap H locs → Rel' uC uM → W p l e room_1 s m #[.ref b] below meth c H locs cells slots Q (F0 m 1386 ls [])) : W p l e room_1 s m #[.ref b] below meth c H locs cells slots Q (F0 m 351 ls []) := by
  obtain ⟨hx, hb, -⟩ := id C
  have CM : gm_C p s m meth c #[.ref b] (D, tc, aM) A code 7 RL ret := C
  refine lv_aload_n hx hb dL_law_351 rfl (lv_at hl 1 rfl) ?_
  obtain ⟨r, uC', uM', h1, h2, hR'⟩ := S uC uM hR ()
  refine gm_callL (G := GC) (Z := (D, tc, aC)) (u := uC) (u' := uC') (r := 1) (ci := 9) (As := []) (rest := []) (res := some (.int r)) C hC hl (ok_X10_realm l (D, tc, aC) uC r uC' h1) cw_L_26 im_X10_realm rfl se_X10_realm rfl rfl rfl ⟨Nat.le_of_ble_eq_true rfl, Nat.le_of_ble_eq_true rfl⟩ hcs rfl rfl (Nat.le_of_ble_eq_true rfl) dL_law_352 (fun H locs hC hk => ?_)
  have hM := gm_other hd1 hM hC hk
  have hO := gm_other hd3 hO hC hk
  refine lv_aload_n hx hb dL_law_355 rfl (lv_at hl 2 rfl) ?_
  refine gm_callL (G := GM) (Z := (D, tc, aM)) (u := uM) (u' := uM') (r := 1) (ci := 10) (As := []) (rest := [.int r]) (res := some (.int r)) CM hM hl (ok_X11_realm l (D, tc, aM) uM r uM' h2) cw_L_30 im_X11_realm rfl se_X11_realm rfl rfl rfl ⟨Nat.le_of_ble_eq_true rfl, Nat.le_of_ble_eq_true rfl⟩ hcs rfl rfl (Nat.le_of_ble_eq_true rfl) dL_law_356 (fun H locs hM hk => ?_)
  have hC := gm_other hd2 hC hM hk
  have hO := gm_other hd4 hO hM hk
  refine lv_icmp_eq (tgt := 1386) hx hb dL_law_359 (by decide) (fun hc => ?_) (fun hc => ?_)
  · exact K uC' uM' _ _ hC hM hO hR'
  · exact absurd rfl hc
set_option maxRecDepth 100000 in
set_option maxHeartbeats 4000000 in
theorem lc_2 {p : Program} {l : Launch} {e : Env} {s : State} {m : MethodId} {below : List Frame} {meth : Method} {c : Code} {b L : Nat} {xs : Nat → Int32} {D : va_G} {tc : Nat → ClassId} {aC aM aO : Nat → Nat} {A : Nat → Prop} {Q : State → Prop} (Rel Rel' : gm_M → gm_M → Prop) (hL : L ≤ 3584) (C : gm_C p s m meth c #[.ref b] (D, tc, aC) A code 7 RL ret) (hX : va_X b L xs s s.heap) (hbl : b < s.heap.size) (hbA : ¬ A b) (hd1 : gm_dj GC (D, tc, aC) GM (D, tc, aM)) (hd2 : gm_dj GM (D, tc, aM) GC (D, tc, aC)) (hd3 : gm_dj GC (D, tc, aC) GO (D, tc, aO)) (hd4 : gm_dj GM (D, tc, aM) GO (D, tc, aO)) (S : St_reign Rel Rel') {uC uM uO : gm_M} {H : Heap} {locs : List Loc} {ls : Array Slot} {cells slots : Nat} (hC : wd GC (D, tc, aC) uC A s.heap H locs) (hM : wd GM (D, tc, aM) uM A s.heap H locs) (hO : wd GO (D, tc, aO) uO A s.heap H locs) (hR : Rel uC uM) (hcs : cells ≤ room_1.cells ∧ slots ≤ room_1.slots) {i : Nat} (hi : i + 7 ≤ L) (hl : lv_has ls 7 [(0, .ref b), (1, .ref (aC 1)), (2, .ref (aM 1)), (3, .ref (aO 1)), (4, .int (nI i))]) (K : ∀ (uC uM : gm_M) (H : Heap) (locs : List Loc), wd GC (D, tc, aC) uC A s.heap H locs → wd GM (D, tc, aM) uM A s.heap H locs → wd GO (D, tc, aO) uO A s.heap H locs → Rel' uC uM → W p l e room_1 s m #[.ref b] below meth c H locs cells slots Q (F0 m 1386 ls [])) : W p l e room_1 s m #[.ref b] below meth c H locs cells slots Q (F0 m 364 ls []) := by
  obtain ⟨hx, hb, -⟩ := id C
  have CM : gm_C p s m meth c #[.ref b] (D, tc, aM) A code 7 RL ret := C
  refine lv_aload_n hx hb dL_law_364 rfl (lv_at hl 1 rfl) ?_
  obtain ⟨r, uC', uM', h1, h2, hR'⟩ := S uC uM hR ()
  refine gm_callL (G := GC) (Z := (D, tc, aC)) (u := uC) (u' := uC') (r := 1) (ci := 9) (As := []) (rest := []) (res := some (.int r)) C hC hl (ok_X10_reign l (D, tc, aC) uC r uC' h1) cw_L_31 im_X10_reign rfl se_X10_reign rfl rfl rfl ⟨Nat.le_of_ble_eq_true rfl, Nat.le_of_ble_eq_true rfl⟩ hcs rfl rfl (Nat.le_of_ble_eq_true rfl) dL_law_365 (fun H locs hC hk => ?_)
  have hM := gm_other hd1 hM hC hk
  have hO := gm_other hd3 hO hC hk
  refine lv_aload_n hx hb dL_law_368 rfl (lv_at hl 2 rfl) ?_
  refine gm_callL (G := GM) (Z := (D, tc, aM)) (u := uM) (u' := uM') (r := 1) (ci := 10) (As := []) (rest := [.int r]) (res := some (.int r)) CM hM hl (ok_X11_reign l (D, tc, aM) uM r uM' h2) cw_L_34 im_X11_reign rfl se_X11_reign rfl rfl rfl ⟨Nat.le_of_ble_eq_true rfl, Nat.le_of_ble_eq_true rfl⟩ hcs rfl rfl (Nat.le_of_ble_eq_true rfl) dL_law_369 (fun H locs hM hk => ?_)
  have hC := gm_other hd2 hC hM hk
  have hO := gm_other hd4 hO hM hk
  refine lv_icmp_eq (tgt := 1386) hx hb dL_law_372 (by decide) (fun hc => ?_) (fun hc => ?_)
  · exact K uC' uM' _ _ hC hM hO hR'
  · exact absurd rfl hc
set_option maxRecDepth 100000 in
set_option maxHeartbeats 4000000 in
theorem lc_3 {p : Program} {l : Launch} {e : Env} {s : State} {m : MethodId} {below : List Frame} {meth : Method} {c : Code} {b L : Nat} {xs : Nat → Int32} {D : va_G} {tc : Nat → ClassId} {aC aM aO : Nat → Nat} {A : Nat → Prop} {Q : State → Prop} (Rel Rel' : gm_M → gm_M → Prop) (hL : L ≤ 3584) (C : gm_C p s m meth c #[.ref b] (D, tc, aC) A code 7 RL ret) (hX : va_X b L xs s s.heap) (hbl : b < s.heap.size) (hbA : ¬ A b) (hd1 : gm_dj GC (D, tc, aC) GM (D, tc, aM)) (hd2 : gm_dj GM (D, tc, aM) GC (D, tc, aC)) (hd3 : gm_dj GC (D, tc, aC) GO (D, tc, aO)) (hd4 : gm_dj GM (D, tc, aM) GO (D, tc, aO)) (S : St_person Rel Rel') {uC uM uO : gm_M} {H : Heap} {locs : List Loc} {ls : Array Slot} {cells slots : Nat} (hC : wd GC (D, tc, aC) uC A s.heap H locs) (hM : wd GM (D, tc, aM) uM A s.heap H locs) (hO : wd GO (D, tc, aO) uO A s.heap H locs) (hR : Rel uC uM) (hcs : cells ≤ room_1.cells ∧ slots ≤ room_1.slots) {i : Nat} (hi : i + 7 ≤ L) (hl : lv_has ls 7 [(0, .ref b), (1, .ref (aC 1)), (2, .ref (aM 1)), (3, .ref (aO 1)), (4, .int (nI i))]) (K : ∀ (uC uM : gm_M) (H : Heap) (locs : List Loc), wd GC (D, tc, aC) uC A s.heap H locs → wd GM (D, tc, aM) uM A s.heap H locs → wd GO (D, tc, aO) uO A s.heap H locs → Rel' uC uM → W p l e room_1 s m #[.ref b] below meth c H locs cells slots Q (F0 m 1386 ls [])) : W p l e room_1 s m #[.ref b] below meth c H locs cells slots Q (F0 m 377 ls []) := by
  obtain ⟨hx, hb, -⟩ := id C
  have CM : gm_C p s m meth c #[.ref b] (D, tc, aM) A code 7 RL ret := C
  refine lv_aload_n hx hb dL_law_377 rfl (lv_at hl 1 rfl) ?_
  refine lv_aload_n hx hb dL_law_378 rfl (lv_at hl 0 rfl) ?_
  refine lv_iload hx hb dL_law_379 (lv_at hl 4 rfl) ?_
  refine lv_iconst (v := 1) hx hb dL_law_381 (by decide) ?_
  refine lv_iadd hx hb dL_law_382 ?_
  refine va_sld hx hb hX hbl hbA hC.2.2.1 (lw_in (k := 1) hi hL (by decide)) dL_law_383 ?_
  refine lv_aload_n hx hb dL_law_384 rfl (lv_at hl 0 rfl) ?_
  refine lv_iload hx hb dL_law_385 (lv_at hl 4 rfl) ?_
  refine lv_iconst (v := 2) hx hb dL_law_387 (by decide) ?_
  refine lv_iadd hx hb dL_law_388 ?_
  refine va_sld hx hb hX hbl hbA hC.2.2.1 (lw_in (k := 2) hi hL (by decide)) dL_law_389 ?_
  obtain ⟨r, uM', h1, h2, hR'⟩ := S uC uM hR (xs (ix (nI i + (1 : Int32)))) (xs (ix (nI i + (2 : Int32))))
  refine gm_callL (G := GC) (Z := (D, tc, aC)) (u := uC) (u' := uC) (r := 1) (ci := 9) (As := [.int (xs (ix (nI i + (1 : Int32)))), .int (xs (ix (nI i + (2 : Int32))))]) (rest := []) (res := some (.int r)) C hC hl (ok_X10_person l (D, tc, aC) (xs (ix (nI i + (1 : Int32)))) (xs (ix (nI i + (2 : Int32)))) uC r h1) cw_L_35 im_X10_person rfl se_X10_person rfl rfl rfl ⟨Nat.le_of_ble_eq_true rfl, Nat.le_of_ble_eq_true rfl⟩ hcs rfl rfl (Nat.le_of_ble_eq_true rfl) dL_law_390 (fun H locs hC hk => ?_)
  have hM := gm_other hd1 hM hC hk
  have hO := gm_other hd3 hO hC hk
  refine lv_aload_n hx hb dL_law_393 rfl (lv_at hl 2 rfl) ?_
  refine lv_aload_n hx hb dL_law_394 rfl (lv_at hl 0 rfl) ?_
  refine lv_iload hx hb dL_law_395 (lv_at hl 4 rfl) ?_
  refine lv_iconst (v := 1) hx hb dL_law_397 (by decide) ?_
  refine lv_iadd hx hb dL_law_398 ?_
  refine va_sld hx hb hX hbl hbA hC.2.2.1 (lw_in (k := 1) hi hL (by decide)) dL_law_399 ?_
  refine lv_aload_n hx hb dL_law_400 rfl (lv_at hl 0 rfl) ?_
  refine lv_iload hx hb dL_law_401 (lv_at hl 4 rfl) ?_
  refine lv_iconst (v := 2) hx hb dL_law_403 (by decide) ?_
  refine lv_iadd hx hb dL_law_404 ?_
  refine va_sld hx hb hX hbl hbA hC.2.2.1 (lw_in (k := 2) hi hL (by decide)) dL_law_405 ?_
  refine gm_callL (G := GM) (Z := (D, tc, aM)) (u := uM) (u' := uM') (r := 1) (ci := 10) (As := [.int (xs (ix (nI i + (1 : Int32)))), .int (xs (ix (nI i + (2 : Int32))))]) (rest := [.int r]) (res := some (.int r)) CM hM hl (ok_X11_person l (D, tc, aM) (xs (ix (nI i + (1 : Int32)))) (xs (ix (nI i + (2 : Int32)))) uM r uM' h2) cw_L_39 im_X11_person rfl se_X11_person rfl rfl rfl ⟨Nat.le_of_ble_eq_true rfl, Nat.le_of_ble_eq_true rfl⟩ hcs rfl rfl (Nat.le_of_ble_eq_true rfl) dL_law_406 (fun H locs hM hk => ?_)
  have hC := gm_other hd2 hC hM hk
  have hO := gm_other hd4 hO hM hk
  refine lv_icmp_eq (tgt := 1386) hx hb dL_law_409 (by decide) (fun hc => ?_) (fun hc => ?_)
  · exact K uC uM' _ _ hC hM hO hR'
  · exact absurd rfl hc
set_option maxRecDepth 100000 in
set_option maxHeartbeats 4000000 in
theorem lc_4 {p : Program} {l : Launch} {e : Env} {s : State} {m : MethodId} {below : List Frame} {meth : Method} {c : Code} {b L : Nat} {xs : Nat → Int32} {D : va_G} {tc : Nat → ClassId} {aC aM aO : Nat → Nat} {A : Nat → Prop} {Q : State → Prop} (Rel Rel' : gm_M → gm_M → Prop) (hL : L ≤ 3584) (C : gm_C p s m meth c #[.ref b] (D, tc, aC) A code 7 RL ret) (hX : va_X b L xs s s.heap) (hbl : b < s.heap.size) (hbA : ¬ A b) (hd1 : gm_dj GC (D, tc, aC) GM (D, tc, aM)) (hd2 : gm_dj GM (D, tc, aM) GC (D, tc, aC)) (hd3 : gm_dj GC (D, tc, aC) GO (D, tc, aO)) (hd4 : gm_dj GM (D, tc, aM) GO (D, tc, aO)) (S : St_come Rel Rel') {uC uM uO : gm_M} {H : Heap} {locs : List Loc} {ls : Array Slot} {cells slots : Nat} (hC : wd GC (D, tc, aC) uC A s.heap H locs) (hM : wd GM (D, tc, aM) uM A s.heap H locs) (hO : wd GO (D, tc, aO) uO A s.heap H locs) (hR : Rel uC uM) (hcs : cells ≤ room_1.cells ∧ slots ≤ room_1.slots) {i : Nat} (hi : i + 7 ≤ L) (hl : lv_has ls 7 [(0, .ref b), (1, .ref (aC 1)), (2, .ref (aM 1)), (3, .ref (aO 1)), (4, .int (nI i))]) (K : ∀ (uC uM : gm_M) (H : Heap) (locs : List Loc), wd GC (D, tc, aC) uC A s.heap H locs → wd GM (D, tc, aM) uM A s.heap H locs → wd GO (D, tc, aO) uO A s.heap H locs → Rel' uC uM → W p l e room_1 s m #[.ref b] below meth c H locs cells slots Q (F0 m 1386 ls [])) : W p l e room_1 s m #[.ref b] below meth c H locs cells slots Q (F0 m 414 ls []) := by
  obtain ⟨hx, hb, -⟩ := id C
  have CM : gm_C p s m meth c #[.ref b] (D, tc, aM) A code 7 RL ret := C
  refine lv_aload_n hx hb dL_law_414 rfl (lv_at hl 1 rfl) ?_
  refine lv_aload_n hx hb dL_law_415 rfl (lv_at hl 0 rfl) ?_
  refine lv_iload hx hb dL_law_416 (lv_at hl 4 rfl) ?_
  refine lv_iconst (v := 1) hx hb dL_law_418 (by decide) ?_
  refine lv_iadd hx hb dL_law_419 ?_
  refine va_sld hx hb hX hbl hbA hC.2.2.1 (lw_in (k := 1) hi hL (by decide)) dL_law_420 ?_
  obtain ⟨r, uC', uM', h1, h2, hR'⟩ := S uC uM hR (xs (ix (nI i + (1 : Int32))))
  refine gm_callL (G := GC) (Z := (D, tc, aC)) (u := uC) (u' := uC') (r := 1) (ci := 9) (As := [.int (xs (ix (nI i + (1 : Int32))))]) (rest := []) (res := some (.int r)) C hC hl (ok_X10_come l (D, tc, aC) (xs (ix (nI i + (1 : Int32)))) uC r uC' h1) cw_L_40 im_X10_come rfl se_X10_come rfl rfl rfl ⟨Nat.le_of_ble_eq_true rfl, Nat.le_of_ble_eq_true rfl⟩ hcs rfl rfl (Nat.le_of_ble_eq_true rfl) dL_law_421 (fun H locs hC hk => ?_)
  have hM := gm_other hd1 hM hC hk
  have hO := gm_other hd3 hO hC hk
  refine lv_aload_n hx hb dL_law_424 rfl (lv_at hl 2 rfl) ?_
  refine lv_aload_n hx hb dL_law_425 rfl (lv_at hl 0 rfl) ?_
  refine lv_iload hx hb dL_law_426 (lv_at hl 4 rfl) ?_
  refine lv_iconst (v := 1) hx hb dL_law_428 (by decide) ?_
  refine lv_iadd hx hb dL_law_429 ?_
  refine va_sld hx hb hX hbl hbA hC.2.2.1 (lw_in (k := 1) hi hL (by decide)) dL_law_430 ?_
  refine gm_callL (G := GM) (Z := (D, tc, aM)) (u := uM) (u' := uM') (r := 1) (ci := 10) (As := [.int (xs (ix (nI i + (1 : Int32))))]) (rest := [.int r]) (res := some (.int r)) CM hM hl (ok_X11_come l (D, tc, aM) (xs (ix (nI i + (1 : Int32)))) uM r uM' h2) cw_L_44 im_X11_come rfl se_X11_come rfl rfl rfl ⟨Nat.le_of_ble_eq_true rfl, Nat.le_of_ble_eq_true rfl⟩ hcs rfl rfl (Nat.le_of_ble_eq_true rfl) dL_law_431 (fun H locs hM hk => ?_)
  have hC := gm_other hd2 hC hM hk
  have hO := gm_other hd4 hO hM hk
  refine lv_icmp_eq (tgt := 1386) hx hb dL_law_434 (by decide) (fun hc => ?_) (fun hc => ?_)
  · exact K uC' uM' _ _ hC hM hO hR'
  · exact absurd rfl hc
set_option maxRecDepth 100000 in
set_option maxHeartbeats 4000000 in
theorem lc_5 {p : Program} {l : Launch} {e : Env} {s : State} {m : MethodId} {below : List Frame} {meth : Method} {c : Code} {b L : Nat} {xs : Nat → Int32} {D : va_G} {tc : Nat → ClassId} {aC aM aO : Nat → Nat} {A : Nat → Prop} {Q : State → Prop} (Rel Rel' : gm_M → gm_M → Prop) (hL : L ≤ 3584) (C : gm_C p s m meth c #[.ref b] (D, tc, aC) A code 7 RL ret) (hX : va_X b L xs s s.heap) (hbl : b < s.heap.size) (hbA : ¬ A b) (hd1 : gm_dj GC (D, tc, aC) GM (D, tc, aM)) (hd2 : gm_dj GM (D, tc, aM) GC (D, tc, aC)) (hd3 : gm_dj GC (D, tc, aC) GO (D, tc, aO)) (hd4 : gm_dj GM (D, tc, aM) GO (D, tc, aO)) (S : St_leave Rel Rel') {uC uM uO : gm_M} {H : Heap} {locs : List Loc} {ls : Array Slot} {cells slots : Nat} (hC : wd GC (D, tc, aC) uC A s.heap H locs) (hM : wd GM (D, tc, aM) uM A s.heap H locs) (hO : wd GO (D, tc, aO) uO A s.heap H locs) (hR : Rel uC uM) (hcs : cells ≤ room_1.cells ∧ slots ≤ room_1.slots) {i : Nat} (hi : i + 7 ≤ L) (hl : lv_has ls 7 [(0, .ref b), (1, .ref (aC 1)), (2, .ref (aM 1)), (3, .ref (aO 1)), (4, .int (nI i))]) (K : ∀ (uC uM : gm_M) (H : Heap) (locs : List Loc), wd GC (D, tc, aC) uC A s.heap H locs → wd GM (D, tc, aM) uM A s.heap H locs → wd GO (D, tc, aO) uO A s.heap H locs → Rel' uC uM → W p l e room_1 s m #[.ref b] below meth c H locs cells slots Q (F0 m 1386 ls [])) : W p l e room_1 s m #[.ref b] below meth c H locs cells slots Q (F0 m 439 ls []) := by
  obtain ⟨hx, hb, -⟩ := id C
  have CM : gm_C p s m meth c #[.ref b] (D, tc, aM) A code 7 RL ret := C
  refine lv_aload_n hx hb dL_law_439 rfl (lv_at hl 1 rfl) ?_
  refine lv_aload_n hx hb dL_law_440 rfl (lv_at hl 0 rfl) ?_
  refine lv_iload hx hb dL_law_441 (lv_at hl 4 rfl) ?_
  refine lv_iconst (v := 1) hx hb dL_law_443 (by decide) ?_
  refine lv_iadd hx hb dL_law_444 ?_
  refine va_sld hx hb hX hbl hbA hC.2.2.1 (lw_in (k := 1) hi hL (by decide)) dL_law_445 ?_
  obtain ⟨r, uC', uM', h1, h2, hR'⟩ := S uC uM hR (xs (ix (nI i + (1 : Int32))))
  refine gm_callL (G := GC) (Z := (D, tc, aC)) (u := uC) (u' := uC') (r := 1) (ci := 9) (As := [.int (xs (ix (nI i + (1 : Int32))))]) (rest := []) (res := some (.int r)) C hC hl (ok_X10_leave l (D, tc, aC) (xs (ix (nI i + (1 : Int32)))) uC r uC' h1) cw_L_45 im_X10_leave rfl se_X10_leave rfl rfl rfl ⟨Nat.le_of_ble_eq_true rfl, Nat.le_of_ble_eq_true rfl⟩ hcs rfl rfl (Nat.le_of_ble_eq_true rfl) dL_law_446 (fun H locs hC hk => ?_)
  have hM := gm_other hd1 hM hC hk
  have hO := gm_other hd3 hO hC hk
  refine lv_aload_n hx hb dL_law_449 rfl (lv_at hl 2 rfl) ?_
  refine lv_aload_n hx hb dL_law_450 rfl (lv_at hl 0 rfl) ?_
  refine lv_iload hx hb dL_law_451 (lv_at hl 4 rfl) ?_
  refine lv_iconst (v := 1) hx hb dL_law_453 (by decide) ?_
  refine lv_iadd hx hb dL_law_454 ?_
  refine va_sld hx hb hX hbl hbA hC.2.2.1 (lw_in (k := 1) hi hL (by decide)) dL_law_455 ?_
  refine gm_callL (G := GM) (Z := (D, tc, aM)) (u := uM) (u' := uM') (r := 1) (ci := 10) (As := [.int (xs (ix (nI i + (1 : Int32))))]) (rest := [.int r]) (res := some (.int r)) CM hM hl (ok_X11_leave l (D, tc, aM) (xs (ix (nI i + (1 : Int32)))) uM r uM' h2) cw_L_49 im_X11_leave rfl se_X11_leave rfl rfl rfl ⟨Nat.le_of_ble_eq_true rfl, Nat.le_of_ble_eq_true rfl⟩ hcs rfl rfl (Nat.le_of_ble_eq_true rfl) dL_law_456 (fun H locs hM hk => ?_)
  have hC := gm_other hd2 hC hM hk
  have hO := gm_other hd4 hO hM hk
  refine lv_icmp_eq (tgt := 1386) hx hb dL_law_459 (by decide) (fun hc => ?_) (fun hc => ?_)
  · exact K uC' uM' _ _ hC hM hO hR'
  · exact absurd rfl hc
set_option maxRecDepth 100000 in
set_option maxHeartbeats 4000000 in
theorem lc_6 {p : Program} {l : Launch} {e : Env} {s : State} {m : MethodId} {below : List Frame} {meth : Method} {c : Code} {b L : Nat} {xs : Nat → Int32} {D : va_G} {tc : Nat → ClassId} {aC aM aO : Nat → Nat} {A : Nat → Prop} {Q : State → Prop} (Rel Rel' : gm_M → gm_M → Prop) (hL : L ≤ 3584) (C : gm_C p s m meth c #[.ref b] (D, tc, aC) A code 7 RL ret) (hX : va_X b L xs s s.heap) (hbl : b < s.heap.size) (hbA : ¬ A b) (hd1 : gm_dj GC (D, tc, aC) GM (D, tc, aM)) (hd2 : gm_dj GM (D, tc, aM) GC (D, tc, aC)) (hd3 : gm_dj GC (D, tc, aC) GO (D, tc, aO)) (hd4 : gm_dj GM (D, tc, aM) GO (D, tc, aO)) (S : St_lamp Rel Rel') {uC uM uO : gm_M} {H : Heap} {locs : List Loc} {ls : Array Slot} {cells slots : Nat} (hC : wd GC (D, tc, aC) uC A s.heap H locs) (hM : wd GM (D, tc, aM) uM A s.heap H locs) (hO : wd GO (D, tc, aO) uO A s.heap H locs) (hR : Rel uC uM) (hcs : cells ≤ room_1.cells ∧ slots ≤ room_1.slots) {i : Nat} (hi : i + 7 ≤ L) (hl : lv_has ls 7 [(0, .ref b), (1, .ref (aC 1)), (2, .ref (aM 1)), (3, .ref (aO 1)), (4, .int (nI i))]) (K : ∀ (uC uM : gm_M) (H : Heap) (locs : List Loc), wd GC (D, tc, aC) uC A s.heap H locs → wd GM (D, tc, aM) uM A s.heap H locs → wd GO (D, tc, aO) uO A s.heap H locs → Rel' uC uM → W p l e room_1 s m #[.ref b] below meth c H locs cells slots Q (F0 m 1386 ls [])) : W p l e room_1 s m #[.ref b] below meth c H locs cells slots Q (F0 m 464 ls []) := by
  obtain ⟨hx, hb, -⟩ := id C
  have CM : gm_C p s m meth c #[.ref b] (D, tc, aM) A code 7 RL ret := C
  refine lv_aload_n hx hb dL_law_464 rfl (lv_at hl 1 rfl) ?_
  refine lv_aload_n hx hb dL_law_465 rfl (lv_at hl 0 rfl) ?_
  refine lv_iload hx hb dL_law_466 (lv_at hl 4 rfl) ?_
  refine lv_iconst (v := 1) hx hb dL_law_468 (by decide) ?_
  refine lv_iadd hx hb dL_law_469 ?_
  refine va_sld hx hb hX hbl hbA hC.2.2.1 (lw_in (k := 1) hi hL (by decide)) dL_law_470 ?_
  obtain ⟨r, uC', uM', h1, h2, hR'⟩ := S uC uM hR (xs (ix (nI i + (1 : Int32))))
  refine gm_callL (G := GC) (Z := (D, tc, aC)) (u := uC) (u' := uC') (r := 1) (ci := 9) (As := [.int (xs (ix (nI i + (1 : Int32))))]) (rest := []) (res := some (.int r)) C hC hl (ok_X10_lamp l (D, tc, aC) (xs (ix (nI i + (1 : Int32)))) uC r uC' h1) cw_L_50 im_X10_lamp rfl se_X10_lamp rfl rfl rfl ⟨Nat.le_of_ble_eq_true rfl, Nat.le_of_ble_eq_true rfl⟩ hcs rfl rfl (Nat.le_of_ble_eq_true rfl) dL_law_471 (fun H locs hC hk => ?_)
  have hM := gm_other hd1 hM hC hk
  have hO := gm_other hd3 hO hC hk
  refine lv_aload_n hx hb dL_law_474 rfl (lv_at hl 2 rfl) ?_
  refine lv_aload_n hx hb dL_law_475 rfl (lv_at hl 0 rfl) ?_
  refine lv_iload hx hb dL_law_476 (lv_at hl 4 rfl) ?_
  refine lv_iconst (v := 1) hx hb dL_law_478 (by decide) ?_
  refine lv_iadd hx hb dL_law_479 ?_
  refine va_sld hx hb hX hbl hbA hC.2.2.1 (lw_in (k := 1) hi hL (by decide)) dL_law_480 ?_
  refine gm_callL (G := GM) (Z := (D, tc, aM)) (u := uM) (u' := uM') (r := 1) (ci := 10) (As := [.int (xs (ix (nI i + (1 : Int32))))]) (rest := [.int r]) (res := some (.int r)) CM hM hl (ok_X11_lamp l (D, tc, aM) (xs (ix (nI i + (1 : Int32)))) uM r uM' h2) cw_L_53 im_X11_lamp rfl se_X11_lamp rfl rfl rfl ⟨Nat.le_of_ble_eq_true rfl, Nat.le_of_ble_eq_true rfl⟩ hcs rfl rfl (Nat.le_of_ble_eq_true rfl) dL_law_481 (fun H locs hM hk => ?_)
  have hC := gm_other hd2 hC hM hk
  have hO := gm_other hd4 hO hM hk
  refine lv_icmp_eq (tgt := 1386) hx hb dL_law_484 (by decide) (fun hc => ?_) (fun hc => ?_)
  · exact K uC' uM' _ _ hC hM hO hR'
  · exact absurd rfl hc
set_option maxRecDepth 100000 in
set_option maxHeartbeats 4000000 in
theorem lc_7 {p : Program} {l : Launch} {e : Env} {s : State} {m : MethodId} {below : List Frame} {meth : Method} {c : Code} {b L : Nat} {xs : Nat → Int32} {D : va_G} {tc : Nat → ClassId} {aC aM aO : Nat → Nat} {A : Nat → Prop} {Q : State → Prop} (Rel Rel' : gm_M → gm_M → Prop) (hL : L ≤ 3584) (C : gm_C p s m meth c #[.ref b] (D, tc, aC) A code 7 RL ret) (hX : va_X b L xs s s.heap) (hbl : b < s.heap.size) (hbA : ¬ A b) (hd1 : gm_dj GC (D, tc, aC) GM (D, tc, aM)) (hd2 : gm_dj GM (D, tc, aM) GC (D, tc, aC)) (hd3 : gm_dj GC (D, tc, aC) GO (D, tc, aO)) (hd4 : gm_dj GM (D, tc, aM) GO (D, tc, aO)) (S : St_waits Rel Rel') {uC uM uO : gm_M} {H : Heap} {locs : List Loc} {ls : Array Slot} {cells slots : Nat} (hC : wd GC (D, tc, aC) uC A s.heap H locs) (hM : wd GM (D, tc, aM) uM A s.heap H locs) (hO : wd GO (D, tc, aO) uO A s.heap H locs) (hR : Rel uC uM) (hcs : cells ≤ room_1.cells ∧ slots ≤ room_1.slots) {i : Nat} (hi : i + 7 ≤ L) (hl : lv_has ls 7 [(0, .ref b), (1, .ref (aC 1)), (2, .ref (aM 1)), (3, .ref (aO 1)), (4, .int (nI i))]) (K : ∀ (uC uM : gm_M) (H : Heap) (locs : List Loc), wd GC (D, tc, aC) uC A s.heap H locs → wd GM (D, tc, aM) uM A s.heap H locs → wd GO (D, tc, aO) uO A s.heap H locs → Rel' uC uM → W p l e room_1 s m #[.ref b] below meth c H locs cells slots Q (F0 m 1386 ls [])) : W p l e room_1 s m #[.ref b] below meth c H locs cells slots Q (F0 m 489 ls []) := by
  obtain ⟨hx, hb, -⟩ := id C
  have CM : gm_C p s m meth c #[.ref b] (D, tc, aM) A code 7 RL ret := C
  refine lv_aload_n hx hb dL_law_489 rfl (lv_at hl 1 rfl) ?_
  obtain ⟨r, uC', uM', h1, h2, hR'⟩ := S uC uM hR ()
  refine gm_callL (G := GC) (Z := (D, tc, aC)) (u := uC) (u' := uC') (r := 1) (ci := 9) (As := []) (rest := []) (res := some (.int r)) C hC hl (ok_X10_waits l (D, tc, aC) uC r uC' h1) cw_L_54 im_X10_waits rfl se_X10_waits rfl rfl rfl ⟨Nat.le_of_ble_eq_true rfl, Nat.le_of_ble_eq_true rfl⟩ hcs rfl rfl (Nat.le_of_ble_eq_true rfl) dL_law_490 (fun H locs hC hk => ?_)
  have hM := gm_other hd1 hM hC hk
  have hO := gm_other hd3 hO hC hk
  refine lv_aload_n hx hb dL_law_493 rfl (lv_at hl 2 rfl) ?_
  refine gm_callL (G := GM) (Z := (D, tc, aM)) (u := uM) (u' := uM') (r := 1) (ci := 10) (As := []) (rest := [.int r]) (res := some (.int r)) CM hM hl (ok_X11_waits l (D, tc, aM) uM r uM' h2) cw_L_57 im_X11_waits rfl se_X11_waits rfl rfl rfl ⟨Nat.le_of_ble_eq_true rfl, Nat.le_of_ble_eq_true rfl⟩ hcs rfl rfl (Nat.le_of_ble_eq_true rfl) dL_law_494 (fun H locs hM hk => ?_)
  have hC := gm_other hd2 hC hM hk
  have hO := gm_other hd4 hO hM hk
  refine lv_icmp_eq (tgt := 1386) hx hb dL_law_497 (by decide) (fun hc => ?_) (fun hc => ?_)
  · exact K uC' uM' _ _ hC hM hO hR'
  · exact absurd rfl hc
set_option maxRecDepth 100000 in
set_option maxHeartbeats 4000000 in
theorem lc_8 {p : Program} {l : Launch} {e : Env} {s : State} {m : MethodId} {below : List Frame} {meth : Method} {c : Code} {b L : Nat} {xs : Nat → Int32} {D : va_G} {tc : Nat → ClassId} {aC aM aO : Nat → Nat} {A : Nat → Prop} {Q : State → Prop} (Rel Rel' : gm_M → gm_M → Prop) (hL : L ≤ 3584) (C : gm_C p s m meth c #[.ref b] (D, tc, aC) A code 7 RL ret) (hX : va_X b L xs s s.heap) (hbl : b < s.heap.size) (hbA : ¬ A b) (hd1 : gm_dj GC (D, tc, aC) GM (D, tc, aM)) (hd2 : gm_dj GM (D, tc, aM) GC (D, tc, aC)) (hd3 : gm_dj GC (D, tc, aC) GO (D, tc, aO)) (hd4 : gm_dj GM (D, tc, aM) GO (D, tc, aO)) (S : St_ride Rel Rel') {uC uM uO : gm_M} {H : Heap} {locs : List Loc} {ls : Array Slot} {cells slots : Nat} (hC : wd GC (D, tc, aC) uC A s.heap H locs) (hM : wd GM (D, tc, aM) uM A s.heap H locs) (hO : wd GO (D, tc, aO) uO A s.heap H locs) (hR : Rel uC uM) (hcs : cells ≤ room_1.cells ∧ slots ≤ room_1.slots) {i : Nat} (hi : i + 7 ≤ L) (hl : lv_has ls 7 [(0, .ref b), (1, .ref (aC 1)), (2, .ref (aM 1)), (3, .ref (aO 1)), (4, .int (nI i))]) (K : ∀ (uC uM : gm_M) (H : Heap) (locs : List Loc), wd GC (D, tc, aC) uC A s.heap H locs → wd GM (D, tc, aM) uM A s.heap H locs → wd GO (D, tc, aO) uO A s.heap H locs → Rel' uC uM → W p l e room_1 s m #[.ref b] below meth c H locs cells slots Q (F0 m 1386 ls [])) : W p l e room_1 s m #[.ref b] below meth c H locs cells slots Q (F0 m 502 ls []) := by
  obtain ⟨hx, hb, -⟩ := id C
  have CM : gm_C p s m meth c #[.ref b] (D, tc, aM) A code 7 RL ret := C
  refine lv_aload_n hx hb dL_law_502 rfl (lv_at hl 1 rfl) ?_
  obtain ⟨r, uC', uM', h1, h2, hR'⟩ := S uC uM hR ()
  refine gm_callL (G := GC) (Z := (D, tc, aC)) (u := uC) (u' := uC') (r := 1) (ci := 9) (As := []) (rest := []) (res := some (.int r)) C hC hl (ok_X10_ride l (D, tc, aC) uC r uC' h1) cw_L_58 im_X10_ride rfl se_X10_ride rfl rfl rfl ⟨Nat.le_of_ble_eq_true rfl, Nat.le_of_ble_eq_true rfl⟩ hcs rfl rfl (Nat.le_of_ble_eq_true rfl) dL_law_503 (fun H locs hC hk => ?_)
  have hM := gm_other hd1 hM hC hk
  have hO := gm_other hd3 hO hC hk
  refine lv_aload_n hx hb dL_law_506 rfl (lv_at hl 2 rfl) ?_
  refine gm_callL (G := GM) (Z := (D, tc, aM)) (u := uM) (u' := uM') (r := 1) (ci := 10) (As := []) (rest := [.int r]) (res := some (.int r)) CM hM hl (ok_X11_ride l (D, tc, aM) uM r uM' h2) cw_L_61 im_X11_ride rfl se_X11_ride rfl rfl rfl ⟨Nat.le_of_ble_eq_true rfl, Nat.le_of_ble_eq_true rfl⟩ hcs rfl rfl (Nat.le_of_ble_eq_true rfl) dL_law_507 (fun H locs hM hk => ?_)
  have hC := gm_other hd2 hC hM hk
  have hO := gm_other hd4 hO hM hk
  refine lv_icmp_eq (tgt := 1386) hx hb dL_law_510 (by decide) (fun hc => ?_) (fun hc => ?_)
  · exact K uC' uM' _ _ hC hM hO hR'
  · exact absurd rfl hc
set_option maxRecDepth 100000 in
set_option maxHeartbeats 4000000 in
theorem lc_9 {p : Program} {l : Launch} {e : Env} {s : State} {m : MethodId} {below : List Frame} {meth : Method} {c : Code} {b L : Nat} {xs : Nat → Int32} {D : va_G} {tc : Nat → ClassId} {aC aM aO : Nat → Nat} {A : Nat → Prop} {Q : State → Prop} (Rel Rel' : gm_M → gm_M → Prop) (hL : L ≤ 3584) (C : gm_C p s m meth c #[.ref b] (D, tc, aC) A code 7 RL ret) (hX : va_X b L xs s s.heap) (hbl : b < s.heap.size) (hbA : ¬ A b) (hd1 : gm_dj GC (D, tc, aC) GM (D, tc, aM)) (hd2 : gm_dj GM (D, tc, aM) GC (D, tc, aC)) (hd3 : gm_dj GC (D, tc, aC) GO (D, tc, aO)) (hd4 : gm_dj GM (D, tc, aM) GO (D, tc, aO)) (S : St_undo Rel Rel') {uC uM uO : gm_M} {H : Heap} {locs : List Loc} {ls : Array Slot} {cells slots : Nat} (hC : wd GC (D, tc, aC) uC A s.heap H locs) (hM : wd GM (D, tc, aM) uM A s.heap H locs) (hO : wd GO (D, tc, aO) uO A s.heap H locs) (hR : Rel uC uM) (hcs : cells ≤ room_1.cells ∧ slots ≤ room_1.slots) {i : Nat} (hi : i + 7 ≤ L) (hl : lv_has ls 7 [(0, .ref b), (1, .ref (aC 1)), (2, .ref (aM 1)), (3, .ref (aO 1)), (4, .int (nI i))]) (K : ∀ (uC uM : gm_M) (H : Heap) (locs : List Loc), wd GC (D, tc, aC) uC A s.heap H locs → wd GM (D, tc, aM) uM A s.heap H locs → wd GO (D, tc, aO) uO A s.heap H locs → Rel' uC uM → W p l e room_1 s m #[.ref b] below meth c H locs cells slots Q (F0 m 1386 ls [])) : W p l e room_1 s m #[.ref b] below meth c H locs cells slots Q (F0 m 515 ls []) := by
  obtain ⟨hx, hb, -⟩ := id C
  have CM : gm_C p s m meth c #[.ref b] (D, tc, aM) A code 7 RL ret := C
  refine lv_aload_n hx hb dL_law_515 rfl (lv_at hl 1 rfl) ?_
  obtain ⟨r, uC', uM', h1, h2, hR'⟩ := S uC uM hR ()
  refine gm_callL (G := GC) (Z := (D, tc, aC)) (u := uC) (u' := uC') (r := 1) (ci := 9) (As := []) (rest := []) (res := some (.int r)) C hC hl (ok_X10_undo l (D, tc, aC) uC r uC' h1) cw_L_62 im_X10_undo rfl se_X10_undo rfl rfl rfl ⟨Nat.le_of_ble_eq_true rfl, Nat.le_of_ble_eq_true rfl⟩ hcs rfl rfl (Nat.le_of_ble_eq_true rfl) dL_law_516 (fun H locs hC hk => ?_)
  have hM := gm_other hd1 hM hC hk
  have hO := gm_other hd3 hO hC hk
  refine lv_aload_n hx hb dL_law_519 rfl (lv_at hl 2 rfl) ?_
  refine gm_callL (G := GM) (Z := (D, tc, aM)) (u := uM) (u' := uM') (r := 1) (ci := 10) (As := []) (rest := [.int r]) (res := some (.int r)) CM hM hl (ok_X11_undo l (D, tc, aM) uM r uM' h2) cw_L_66 im_X11_undo rfl se_X11_undo rfl rfl rfl ⟨Nat.le_of_ble_eq_true rfl, Nat.le_of_ble_eq_true rfl⟩ hcs rfl rfl (Nat.le_of_ble_eq_true rfl) dL_law_520 (fun H locs hM hk => ?_)
  have hC := gm_other hd2 hC hM hk
  have hO := gm_other hd4 hO hM hk
  refine lv_icmp_eq (tgt := 1386) hx hb dL_law_523 (by decide) (fun hc => ?_) (fun hc => ?_)
  · exact K uC' uM' _ _ hC hM hO hR'
  · exact absurd rfl hc
set_option maxRecDepth 100000 in
set_option maxHeartbeats 4000000 in
theorem lc_10 {p : Program} {l : Launch} {e : Env} {s : State} {m : MethodId} {below : List Frame} {meth : Method} {c : Code} {b L : Nat} {xs : Nat → Int32} {D : va_G} {tc : Nat → ClassId} {aC aM aO : Nat → Nat} {A : Nat → Prop} {Q : State → Prop} (Rel Rel' : gm_M → gm_M → Prop) (hL : L ≤ 3584) (C : gm_C p s m meth c #[.ref b] (D, tc, aC) A code 7 RL ret) (hX : va_X b L xs s s.heap) (hbl : b < s.heap.size) (hbA : ¬ A b) (hd1 : gm_dj GC (D, tc, aC) GM (D, tc, aM)) (hd2 : gm_dj GM (D, tc, aM) GC (D, tc, aC)) (hd3 : gm_dj GC (D, tc, aC) GO (D, tc, aO)) (hd4 : gm_dj GM (D, tc, aM) GO (D, tc, aO)) (S : St_judged Rel Rel') {uC uM uO : gm_M} {H : Heap} {locs : List Loc} {ls : Array Slot} {cells slots : Nat} (hC : wd GC (D, tc, aC) uC A s.heap H locs) (hM : wd GM (D, tc, aM) uM A s.heap H locs) (hO : wd GO (D, tc, aO) uO A s.heap H locs) (hR : Rel uC uM) (hcs : cells ≤ room_1.cells ∧ slots ≤ room_1.slots) {i : Nat} (hi : i + 7 ≤ L) (hl : lv_has ls 7 [(0, .ref b), (1, .ref (aC 1)), (2, .ref (aM 1)), (3, .ref (aO 1)), (4, .int (nI i))]) (K : ∀ (uC uM : gm_M) (H : Heap) (locs : List Loc), wd GC (D, tc, aC) uC A s.heap H locs → wd GM (D, tc, aM) uM A s.heap H locs → wd GO (D, tc, aO) uO A s.heap H locs → Rel' uC uM → W p l e room_1 s m #[.ref b] below meth c H locs cells slots Q (F0 m 1386 ls [])) : W p l e room_1 s m #[.ref b] below meth c H locs cells slots Q (F0 m 528 ls []) := by
  obtain ⟨hx, hb, -⟩ := id C
  have CM : gm_C p s m meth c #[.ref b] (D, tc, aM) A code 7 RL ret := C
  refine lv_aload_n hx hb dL_law_528 rfl (lv_at hl 1 rfl) ?_
  refine lv_aload_n hx hb dL_law_529 rfl (lv_at hl 0 rfl) ?_
  refine lv_iload hx hb dL_law_530 (lv_at hl 4 rfl) ?_
  refine lv_iconst (v := 1) hx hb dL_law_532 (by decide) ?_
  refine lv_iadd hx hb dL_law_533 ?_
  refine va_sld hx hb hX hbl hbA hC.2.2.1 (lw_in (k := 1) hi hL (by decide)) dL_law_534 ?_
  obtain ⟨r, uC', uM', h1, h2, hR'⟩ := S uC uM hR (xs (ix (nI i + (1 : Int32))))
  refine gm_callL (G := GC) (Z := (D, tc, aC)) (u := uC) (u' := uC') (r := 1) (ci := 9) (As := [.int (xs (ix (nI i + (1 : Int32))))]) (rest := []) (res := some (.int r)) C hC hl (ok_X10_judged l (D, tc, aC) (xs (ix (nI i + (1 : Int32)))) uC r uC' h1) cw_L_67 im_X10_judged rfl se_X10_judged rfl rfl rfl ⟨Nat.le_of_ble_eq_true rfl, Nat.le_of_ble_eq_true rfl⟩ hcs rfl rfl (Nat.le_of_ble_eq_true rfl) dL_law_535 (fun H locs hC hk => ?_)
  have hM := gm_other hd1 hM hC hk
  have hO := gm_other hd3 hO hC hk
  refine lv_aload_n hx hb dL_law_538 rfl (lv_at hl 2 rfl) ?_
  refine lv_aload_n hx hb dL_law_539 rfl (lv_at hl 0 rfl) ?_
  refine lv_iload hx hb dL_law_540 (lv_at hl 4 rfl) ?_
  refine lv_iconst (v := 1) hx hb dL_law_542 (by decide) ?_
  refine lv_iadd hx hb dL_law_543 ?_
  refine va_sld hx hb hX hbl hbA hC.2.2.1 (lw_in (k := 1) hi hL (by decide)) dL_law_544 ?_
  refine gm_callL (G := GM) (Z := (D, tc, aM)) (u := uM) (u' := uM') (r := 1) (ci := 10) (As := [.int (xs (ix (nI i + (1 : Int32))))]) (rest := [.int r]) (res := some (.int r)) CM hM hl (ok_X11_judged l (D, tc, aM) (xs (ix (nI i + (1 : Int32)))) uM r uM' h2) cw_L_70 im_X11_judged rfl se_X11_judged rfl rfl rfl ⟨Nat.le_of_ble_eq_true rfl, Nat.le_of_ble_eq_true rfl⟩ hcs rfl rfl (Nat.le_of_ble_eq_true rfl) dL_law_545 (fun H locs hM hk => ?_)
  have hC := gm_other hd2 hC hM hk
  have hO := gm_other hd4 hO hM hk
  refine lv_icmp_eq (tgt := 1386) hx hb dL_law_548 (by decide) (fun hc => ?_) (fun hc => ?_)
  · exact K uC' uM' _ _ hC hM hO hR'
  · exact absurd rfl hc
set_option maxRecDepth 100000 in
set_option maxHeartbeats 4000000 in
theorem lc_11 {p : Program} {l : Launch} {e : Env} {s : State} {m : MethodId} {below : List Frame} {meth : Method} {c : Code} {b L : Nat} {xs : Nat → Int32} {D : va_G} {tc : Nat → ClassId} {aC aM aO : Nat → Nat} {A : Nat → Prop} {Q : State → Prop} (Rel Rel' : gm_M → gm_M → Prop) (hL : L ≤ 3584) (C : gm_C p s m meth c #[.ref b] (D, tc, aC) A code 7 RL ret) (hX : va_X b L xs s s.heap) (hbl : b < s.heap.size) (hbA : ¬ A b) (hd1 : gm_dj GC (D, tc, aC) GM (D, tc, aM)) (hd2 : gm_dj GM (D, tc, aM) GC (D, tc, aC)) (hd3 : gm_dj GC (D, tc, aC) GO (D, tc, aO)) (hd4 : gm_dj GM (D, tc, aM) GO (D, tc, aO)) (S : St_leap Rel Rel') {uC uM uO : gm_M} {H : Heap} {locs : List Loc} {ls : Array Slot} {cells slots : Nat} (hC : wd GC (D, tc, aC) uC A s.heap H locs) (hM : wd GM (D, tc, aM) uM A s.heap H locs) (hO : wd GO (D, tc, aO) uO A s.heap H locs) (hR : Rel uC uM) (hcs : cells ≤ room_1.cells ∧ slots ≤ room_1.slots) {i : Nat} (hi : i + 7 ≤ L) (hl : lv_has ls 7 [(0, .ref b), (1, .ref (aC 1)), (2, .ref (aM 1)), (3, .ref (aO 1)), (4, .int (nI i))]) (K : ∀ (uC uM : gm_M) (H : Heap) (locs : List Loc), wd GC (D, tc, aC) uC A s.heap H locs → wd GM (D, tc, aM) uM A s.heap H locs → wd GO (D, tc, aO) uO A s.heap H locs → Rel' uC uM → W p l e room_1 s m #[.ref b] below meth c H locs cells slots Q (F0 m 1386 ls [])) : W p l e room_1 s m #[.ref b] below meth c H locs cells slots Q (F0 m 553 ls []) := by
  obtain ⟨hx, hb, -⟩ := id C
  have CM : gm_C p s m meth c #[.ref b] (D, tc, aM) A code 7 RL ret := C
  refine lv_aload_n hx hb dL_law_553 rfl (lv_at hl 1 rfl) ?_
  refine lv_aload_n hx hb dL_law_554 rfl (lv_at hl 0 rfl) ?_
  refine lv_iload hx hb dL_law_555 (lv_at hl 4 rfl) ?_
  refine lv_iconst (v := 1) hx hb dL_law_557 (by decide) ?_
  refine lv_iadd hx hb dL_law_558 ?_
  refine va_sld hx hb hX hbl hbA hC.2.2.1 (lw_in (k := 1) hi hL (by decide)) dL_law_559 ?_
  obtain ⟨uM', h2, hR'⟩ := S uC uM hR (xs (ix (nI i + (1 : Int32))))
  refine gm_callL (G := GC) (Z := (D, tc, aC)) (u := uC) (u' := uC) (r := 1) (ci := 9) (As := [.int (xs (ix (nI i + (1 : Int32))))]) (rest := []) (res := some (.int (f_X10_leap (xs (ix (nI i + (1 : Int32))))))) C hC hl (ok_X10_leap l (D, tc, aC) (xs (ix (nI i + (1 : Int32)))) uC) cw_L_71 im_X10_leap rfl se_X10_leap rfl rfl rfl ⟨Nat.le_of_ble_eq_true rfl, Nat.le_of_ble_eq_true rfl⟩ hcs rfl rfl (Nat.le_of_ble_eq_true rfl) dL_law_560 (fun H locs hC hk => ?_)
  have hM := gm_other hd1 hM hC hk
  have hO := gm_other hd3 hO hC hk
  refine lv_aload_n hx hb dL_law_563 rfl (lv_at hl 2 rfl) ?_
  refine lv_aload_n hx hb dL_law_564 rfl (lv_at hl 0 rfl) ?_
  refine lv_iload hx hb dL_law_565 (lv_at hl 4 rfl) ?_
  refine lv_iconst (v := 1) hx hb dL_law_567 (by decide) ?_
  refine lv_iadd hx hb dL_law_568 ?_
  refine va_sld hx hb hX hbl hbA hC.2.2.1 (lw_in (k := 1) hi hL (by decide)) dL_law_569 ?_
  refine gm_callL (G := GM) (Z := (D, tc, aM)) (u := uM) (u' := uM') (r := 1) (ci := 10) (As := [.int (xs (ix (nI i + (1 : Int32))))]) (rest := [.int (f_X10_leap (xs (ix (nI i + (1 : Int32)))))]) (res := some (.int (f_X10_leap (xs (ix (nI i + (1 : Int32))))))) CM hM hl (ok_X11_leap l (D, tc, aM) (xs (ix (nI i + (1 : Int32)))) uM (f_X10_leap (xs (ix (nI i + (1 : Int32))))) uM' h2) cw_L_74 im_X11_leap rfl se_X11_leap rfl rfl rfl ⟨Nat.le_of_ble_eq_true rfl, Nat.le_of_ble_eq_true rfl⟩ hcs rfl rfl (Nat.le_of_ble_eq_true rfl) dL_law_570 (fun H locs hM hk => ?_)
  have hC := gm_other hd2 hC hM hk
  have hO := gm_other hd4 hO hM hk
  refine lv_icmp_eq (tgt := 1386) hx hb dL_law_573 (by decide) (fun hc => ?_) (fun hc => ?_)
  · exact K uC uM' _ _ hC hM hO hR'
  · exact absurd rfl hc
set_option maxRecDepth 100000 in
set_option maxHeartbeats 4000000 in
theorem lc_12 {p : Program} {l : Launch} {e : Env} {s : State} {m : MethodId} {below : List Frame} {meth : Method} {c : Code} {b L : Nat} {xs : Nat → Int32} {D : va_G} {tc : Nat → ClassId} {aC aM aO : Nat → Nat} {A : Nat → Prop} {Q : State → Prop} (Rel Rel' : gm_M → gm_M → Prop) (hL : L ≤ 3584) (C : gm_C p s m meth c #[.ref b] (D, tc, aC) A code 7 RL ret) (hX : va_X b L xs s s.heap) (hbl : b < s.heap.size) (hbA : ¬ A b) (hd1 : gm_dj GC (D, tc, aC) GM (D, tc, aM)) (hd2 : gm_dj GM (D, tc, aM) GC (D, tc, aC)) (hd3 : gm_dj GC (D, tc, aC) GO (D, tc, aO)) (hd4 : gm_dj GM (D, tc, aM) GO (D, tc, aO)) (S : St_between Rel Rel') {uC uM uO : gm_M} {H : Heap} {locs : List Loc} {ls : Array Slot} {cells slots : Nat} (hC : wd GC (D, tc, aC) uC A s.heap H locs) (hM : wd GM (D, tc, aM) uM A s.heap H locs) (hO : wd GO (D, tc, aO) uO A s.heap H locs) (hR : Rel uC uM) (hcs : cells ≤ room_1.cells ∧ slots ≤ room_1.slots) {i : Nat} (hi : i + 7 ≤ L) (hl : lv_has ls 7 [(0, .ref b), (1, .ref (aC 1)), (2, .ref (aM 1)), (3, .ref (aO 1)), (4, .int (nI i))]) (K : ∀ (uC uM : gm_M) (H : Heap) (locs : List Loc), wd GC (D, tc, aC) uC A s.heap H locs → wd GM (D, tc, aM) uM A s.heap H locs → wd GO (D, tc, aO) uO A s.heap H locs → Rel' uC uM → W p l e room_1 s m #[.ref b] below meth c H locs cells slots Q (F0 m 1386 ls [])) : W p l e room_1 s m #[.ref b] below meth c H locs cells slots Q (F0 m 578 ls []) := by
  obtain ⟨hx, hb, -⟩ := id C
  have CM : gm_C p s m meth c #[.ref b] (D, tc, aM) A code 7 RL ret := C
  refine lv_aload_n hx hb dL_law_578 rfl (lv_at hl 1 rfl) ?_
  refine lv_aload_n hx hb dL_law_579 rfl (lv_at hl 0 rfl) ?_
  refine lv_iload hx hb dL_law_580 (lv_at hl 4 rfl) ?_
  refine lv_iconst (v := 1) hx hb dL_law_582 (by decide) ?_
  refine lv_iadd hx hb dL_law_583 ?_
  refine va_sld hx hb hX hbl hbA hC.2.2.1 (lw_in (k := 1) hi hL (by decide)) dL_law_584 ?_
  refine lv_aload_n hx hb dL_law_585 rfl (lv_at hl 0 rfl) ?_
  refine lv_iload hx hb dL_law_586 (lv_at hl 4 rfl) ?_
  refine lv_iconst (v := 2) hx hb dL_law_588 (by decide) ?_
  refine lv_iadd hx hb dL_law_589 ?_
  refine va_sld hx hb hX hbl hbA hC.2.2.1 (lw_in (k := 2) hi hL (by decide)) dL_law_590 ?_
  obtain ⟨uM', h2, hR'⟩ := S uC uM hR (xs (ix (nI i + (1 : Int32)))) (xs (ix (nI i + (2 : Int32))))
  refine gm_callL (G := GC) (Z := (D, tc, aC)) (u := uC) (u' := uC) (r := 1) (ci := 9) (As := [.int (xs (ix (nI i + (1 : Int32)))), .int (xs (ix (nI i + (2 : Int32))))]) (rest := []) (res := some (.int (f_X10_between (xs (ix (nI i + (1 : Int32)))) (xs (ix (nI i + (2 : Int32))))))) C hC hl (ok_X10_between l (D, tc, aC) (xs (ix (nI i + (1 : Int32)))) (xs (ix (nI i + (2 : Int32)))) uC) cw_L_75 im_X10_between rfl se_X10_between rfl rfl rfl ⟨Nat.le_of_ble_eq_true rfl, Nat.le_of_ble_eq_true rfl⟩ hcs rfl rfl (Nat.le_of_ble_eq_true rfl) dL_law_591 (fun H locs hC hk => ?_)
  have hM := gm_other hd1 hM hC hk
  have hO := gm_other hd3 hO hC hk
  refine lv_aload_n hx hb dL_law_594 rfl (lv_at hl 2 rfl) ?_
  refine lv_aload_n hx hb dL_law_595 rfl (lv_at hl 0 rfl) ?_
  refine lv_iload hx hb dL_law_596 (lv_at hl 4 rfl) ?_
  refine lv_iconst (v := 1) hx hb dL_law_598 (by decide) ?_
  refine lv_iadd hx hb dL_law_599 ?_
  refine va_sld hx hb hX hbl hbA hC.2.2.1 (lw_in (k := 1) hi hL (by decide)) dL_law_600 ?_
  refine lv_aload_n hx hb dL_law_601 rfl (lv_at hl 0 rfl) ?_
  refine lv_iload hx hb dL_law_602 (lv_at hl 4 rfl) ?_
  refine lv_iconst (v := 2) hx hb dL_law_604 (by decide) ?_
  refine lv_iadd hx hb dL_law_605 ?_
  refine va_sld hx hb hX hbl hbA hC.2.2.1 (lw_in (k := 2) hi hL (by decide)) dL_law_606 ?_
  refine gm_callL (G := GM) (Z := (D, tc, aM)) (u := uM) (u' := uM') (r := 1) (ci := 10) (As := [.int (xs (ix (nI i + (1 : Int32)))), .int (xs (ix (nI i + (2 : Int32))))]) (rest := [.int (f_X10_between (xs (ix (nI i + (1 : Int32)))) (xs (ix (nI i + (2 : Int32)))))]) (res := some (.int (f_X10_between (xs (ix (nI i + (1 : Int32)))) (xs (ix (nI i + (2 : Int32))))))) CM hM hl (ok_X11_between l (D, tc, aM) (xs (ix (nI i + (1 : Int32)))) (xs (ix (nI i + (2 : Int32)))) uM (f_X10_between (xs (ix (nI i + (1 : Int32)))) (xs (ix (nI i + (2 : Int32))))) uM' h2) cw_L_78 im_X11_between rfl se_X11_between rfl rfl rfl ⟨Nat.le_of_ble_eq_true rfl, Nat.le_of_ble_eq_true rfl⟩ hcs rfl rfl (Nat.le_of_ble_eq_true rfl) dL_law_607 (fun H locs hM hk => ?_)
  have hC := gm_other hd2 hC hM hk
  have hO := gm_other hd4 hO hM hk
  refine lv_icmp_eq (tgt := 1386) hx hb dL_law_610 (by decide) (fun hc => ?_) (fun hc => ?_)
  · exact K uC uM' _ _ hC hM hO hR'
  · exact absurd rfl hc
set_option maxRecDepth 100000 in
set_option maxHeartbeats 4000000 in
theorem lc_13 {p : Program} {l : Launch} {e : Env} {s : State} {m : MethodId} {below : List Frame} {meth : Method} {c : Code} {b L : Nat} {xs : Nat → Int32} {D : va_G} {tc : Nat → ClassId} {aC aM aO : Nat → Nat} {A : Nat → Prop} {Q : State → Prop} (Rel Rel' : gm_M → gm_M → Prop) (hL : L ≤ 3584) (C : gm_C p s m meth c #[.ref b] (D, tc, aC) A code 7 RL ret) (hX : va_X b L xs s s.heap) (hbl : b < s.heap.size) (hbA : ¬ A b) (hd1 : gm_dj GC (D, tc, aC) GM (D, tc, aM)) (hd2 : gm_dj GM (D, tc, aM) GC (D, tc, aC)) (hd3 : gm_dj GC (D, tc, aC) GO (D, tc, aO)) (hd4 : gm_dj GM (D, tc, aM) GO (D, tc, aO)) (S : St_next Rel Rel') {uC uM uO : gm_M} {H : Heap} {locs : List Loc} {ls : Array Slot} {cells slots : Nat} (hC : wd GC (D, tc, aC) uC A s.heap H locs) (hM : wd GM (D, tc, aM) uM A s.heap H locs) (hO : wd GO (D, tc, aO) uO A s.heap H locs) (hR : Rel uC uM) (hcs : cells ≤ room_1.cells ∧ slots ≤ room_1.slots) {i : Nat} (hi : i + 7 ≤ L) (hl : lv_has ls 7 [(0, .ref b), (1, .ref (aC 1)), (2, .ref (aM 1)), (3, .ref (aO 1)), (4, .int (nI i))]) (K : ∀ (uC uM : gm_M) (H : Heap) (locs : List Loc), wd GC (D, tc, aC) uC A s.heap H locs → wd GM (D, tc, aM) uM A s.heap H locs → wd GO (D, tc, aO) uO A s.heap H locs → Rel' uC uM → W p l e room_1 s m #[.ref b] below meth c H locs cells slots Q (F0 m 1386 ls [])) : W p l e room_1 s m #[.ref b] below meth c H locs cells slots Q (F0 m 615 ls []) := by
  obtain ⟨hx, hb, -⟩ := id C
  have CM : gm_C p s m meth c #[.ref b] (D, tc, aM) A code 7 RL ret := C
  refine lv_aload_n hx hb dL_law_615 rfl (lv_at hl 1 rfl) ?_
  refine lv_aload_n hx hb dL_law_616 rfl (lv_at hl 0 rfl) ?_
  refine lv_iload hx hb dL_law_617 (lv_at hl 4 rfl) ?_
  refine lv_iconst (v := 1) hx hb dL_law_619 (by decide) ?_
  refine lv_iadd hx hb dL_law_620 ?_
  refine va_sld hx hb hX hbl hbA hC.2.2.1 (lw_in (k := 1) hi hL (by decide)) dL_law_621 ?_
  obtain ⟨r, uM', h1, h2, hR'⟩ := S uC uM hR (xs (ix (nI i + (1 : Int32))))
  refine gm_callL (G := GC) (Z := (D, tc, aC)) (u := uC) (u' := uC) (r := 1) (ci := 9) (As := [.int (xs (ix (nI i + (1 : Int32))))]) (rest := []) (res := some (.int r)) C hC hl (ok_X10_next l (D, tc, aC) (xs (ix (nI i + (1 : Int32)))) uC r h1) cw_L_79 im_X10_next rfl se_X10_next rfl rfl rfl ⟨Nat.le_of_ble_eq_true rfl, Nat.le_of_ble_eq_true rfl⟩ hcs rfl rfl (Nat.le_of_ble_eq_true rfl) dL_law_622 (fun H locs hC hk => ?_)
  have hM := gm_other hd1 hM hC hk
  have hO := gm_other hd3 hO hC hk
  refine lv_aload_n hx hb dL_law_625 rfl (lv_at hl 2 rfl) ?_
  refine lv_aload_n hx hb dL_law_626 rfl (lv_at hl 0 rfl) ?_
  refine lv_iload hx hb dL_law_627 (lv_at hl 4 rfl) ?_
  refine lv_iconst (v := 1) hx hb dL_law_629 (by decide) ?_
  refine lv_iadd hx hb dL_law_630 ?_
  refine va_sld hx hb hX hbl hbA hC.2.2.1 (lw_in (k := 1) hi hL (by decide)) dL_law_631 ?_
  refine gm_callL (G := GM) (Z := (D, tc, aM)) (u := uM) (u' := uM') (r := 1) (ci := 10) (As := [.int (xs (ix (nI i + (1 : Int32))))]) (rest := [.int r]) (res := some (.int r)) CM hM hl (ok_X11_next l (D, tc, aM) (xs (ix (nI i + (1 : Int32)))) uM r uM' h2) cw_L_82 im_X11_next rfl se_X11_next rfl rfl rfl ⟨Nat.le_of_ble_eq_true rfl, Nat.le_of_ble_eq_true rfl⟩ hcs rfl rfl (Nat.le_of_ble_eq_true rfl) dL_law_632 (fun H locs hM hk => ?_)
  have hC := gm_other hd2 hC hM hk
  have hO := gm_other hd4 hO hM hk
  refine lv_icmp_eq (tgt := 1386) hx hb dL_law_635 (by decide) (fun hc => ?_) (fun hc => ?_)
  · exact K uC uM' _ _ hC hM hO hR'
  · exact absurd rfl hc
set_option maxRecDepth 100000 in
set_option maxHeartbeats 4000000 in
theorem lc_14 {p : Program} {l : Launch} {e : Env} {s : State} {m : MethodId} {below : List Frame} {meth : Method} {c : Code} {b L : Nat} {xs : Nat → Int32} {D : va_G} {tc : Nat → ClassId} {aC aM aO : Nat → Nat} {A : Nat → Prop} {Q : State → Prop} (Rel Rel' : gm_M → gm_M → Prop) (hL : L ≤ 3584) (C : gm_C p s m meth c #[.ref b] (D, tc, aC) A code 7 RL ret) (hX : va_X b L xs s s.heap) (hbl : b < s.heap.size) (hbA : ¬ A b) (hd1 : gm_dj GC (D, tc, aC) GM (D, tc, aM)) (hd2 : gm_dj GM (D, tc, aM) GC (D, tc, aC)) (hd3 : gm_dj GC (D, tc, aC) GO (D, tc, aO)) (hd4 : gm_dj GM (D, tc, aM) GO (D, tc, aO)) (S : St_weekday Rel Rel') {uC uM uO : gm_M} {H : Heap} {locs : List Loc} {ls : Array Slot} {cells slots : Nat} (hC : wd GC (D, tc, aC) uC A s.heap H locs) (hM : wd GM (D, tc, aM) uM A s.heap H locs) (hO : wd GO (D, tc, aO) uO A s.heap H locs) (hR : Rel uC uM) (hcs : cells ≤ room_1.cells ∧ slots ≤ room_1.slots) {i : Nat} (hi : i + 7 ≤ L) (hl : lv_has ls 7 [(0, .ref b), (1, .ref (aC 1)), (2, .ref (aM 1)), (3, .ref (aO 1)), (4, .int (nI i))]) (K : ∀ (uC uM : gm_M) (H : Heap) (locs : List Loc), wd GC (D, tc, aC) uC A s.heap H locs → wd GM (D, tc, aM) uM A s.heap H locs → wd GO (D, tc, aO) uO A s.heap H locs → Rel' uC uM → W p l e room_1 s m #[.ref b] below meth c H locs cells slots Q (F0 m 1386 ls [])) : W p l e room_1 s m #[.ref b] below meth c H locs cells slots Q (F0 m 640 ls []) := by
  obtain ⟨hx, hb, -⟩ := id C
  have CM : gm_C p s m meth c #[.ref b] (D, tc, aM) A code 7 RL ret := C
  refine lv_aload_n hx hb dL_law_640 rfl (lv_at hl 1 rfl) ?_
  refine lv_aload_n hx hb dL_law_641 rfl (lv_at hl 0 rfl) ?_
  refine lv_iload hx hb dL_law_642 (lv_at hl 4 rfl) ?_
  refine lv_iconst (v := 1) hx hb dL_law_644 (by decide) ?_
  refine lv_iadd hx hb dL_law_645 ?_
  refine va_sld hx hb hX hbl hbA hC.2.2.1 (lw_in (k := 1) hi hL (by decide)) dL_law_646 ?_
  obtain ⟨uM', h2, hR'⟩ := S uC uM hR (xs (ix (nI i + (1 : Int32))))
  refine gm_callL (G := GC) (Z := (D, tc, aC)) (u := uC) (u' := uC) (r := 1) (ci := 9) (As := [.int (xs (ix (nI i + (1 : Int32))))]) (rest := []) (res := some (.int (f_X10_weekday (xs (ix (nI i + (1 : Int32))))))) C hC hl (ok_X10_weekday l (D, tc, aC) (xs (ix (nI i + (1 : Int32)))) uC) cw_L_83 im_X10_weekday rfl se_X10_weekday rfl rfl rfl ⟨Nat.le_of_ble_eq_true rfl, Nat.le_of_ble_eq_true rfl⟩ hcs rfl rfl (Nat.le_of_ble_eq_true rfl) dL_law_647 (fun H locs hC hk => ?_)
  have hM := gm_other hd1 hM hC hk
  have hO := gm_other hd3 hO hC hk
  refine lv_aload_n hx hb dL_law_650 rfl (lv_at hl 2 rfl) ?_
  refine lv_aload_n hx hb dL_law_651 rfl (lv_at hl 0 rfl) ?_
  refine lv_iload hx hb dL_law_652 (lv_at hl 4 rfl) ?_
  refine lv_iconst (v := 1) hx hb dL_law_654 (by decide) ?_
  refine lv_iadd hx hb dL_law_655 ?_
  refine va_sld hx hb hX hbl hbA hC.2.2.1 (lw_in (k := 1) hi hL (by decide)) dL_law_656 ?_
  refine gm_callL (G := GM) (Z := (D, tc, aM)) (u := uM) (u' := uM') (r := 1) (ci := 10) (As := [.int (xs (ix (nI i + (1 : Int32))))]) (rest := [.int (f_X10_weekday (xs (ix (nI i + (1 : Int32)))))]) (res := some (.int (f_X10_weekday (xs (ix (nI i + (1 : Int32))))))) CM hM hl (ok_X11_weekday l (D, tc, aM) (xs (ix (nI i + (1 : Int32)))) uM (f_X10_weekday (xs (ix (nI i + (1 : Int32))))) uM' h2) cw_L_86 im_X11_weekday rfl se_X11_weekday rfl rfl rfl ⟨Nat.le_of_ble_eq_true rfl, Nat.le_of_ble_eq_true rfl⟩ hcs rfl rfl (Nat.le_of_ble_eq_true rfl) dL_law_657 (fun H locs hM hk => ?_)
  have hC := gm_other hd2 hC hM hk
  have hO := gm_other hd4 hO hM hk
  refine lv_icmp_eq (tgt := 1386) hx hb dL_law_660 (by decide) (fun hc => ?_) (fun hc => ?_)
  · exact K uC uM' _ _ hC hM hO hR'
  · exact absurd rfl hc
set_option maxRecDepth 100000 in
set_option maxHeartbeats 4000000 in
theorem lc_15 {p : Program} {l : Launch} {e : Env} {s : State} {m : MethodId} {below : List Frame} {meth : Method} {c : Code} {b L : Nat} {xs : Nat → Int32} {D : va_G} {tc : Nat → ClassId} {aC aM aO : Nat → Nat} {A : Nat → Prop} {Q : State → Prop} (Rel Rel' : gm_M → gm_M → Prop) (hL : L ≤ 3584) (C : gm_C p s m meth c #[.ref b] (D, tc, aC) A code 7 RL ret) (hX : va_X b L xs s s.heap) (hbl : b < s.heap.size) (hbA : ¬ A b) (hd1 : gm_dj GC (D, tc, aC) GM (D, tc, aM)) (hd2 : gm_dj GM (D, tc, aM) GC (D, tc, aC)) (hd3 : gm_dj GC (D, tc, aC) GO (D, tc, aO)) (hd4 : gm_dj GM (D, tc, aM) GO (D, tc, aO)) (S : St_gate Rel Rel') {uC uM uO : gm_M} {H : Heap} {locs : List Loc} {ls : Array Slot} {cells slots : Nat} (hC : wd GC (D, tc, aC) uC A s.heap H locs) (hM : wd GM (D, tc, aM) uM A s.heap H locs) (hO : wd GO (D, tc, aO) uO A s.heap H locs) (hR : Rel uC uM) (hcs : cells ≤ room_1.cells ∧ slots ≤ room_1.slots) {i : Nat} (hi : i + 7 ≤ L) (hl : lv_has ls 7 [(0, .ref b), (1, .ref (aC 1)), (2, .ref (aM 1)), (3, .ref (aO 1)), (4, .int (nI i))]) (K : ∀ (uC uM : gm_M) (H : Heap) (locs : List Loc), wd GC (D, tc, aC) uC A s.heap H locs → wd GM (D, tc, aM) uM A s.heap H locs → wd GO (D, tc, aO) uO A s.heap H locs → Rel' uC uM → W p l e room_1 s m #[.ref b] below meth c H locs cells slots Q (F0 m 1386 ls [])) : W p l e room_1 s m #[.ref b] below meth c H locs cells slots Q (F0 m 665 ls []) := by
  obtain ⟨hx, hb, -⟩ := id C
  have CM : gm_C p s m meth c #[.ref b] (D, tc, aM) A code 7 RL ret := C
  refine lv_aload_n hx hb dL_law_665 rfl (lv_at hl 1 rfl) ?_
  refine lv_aload_n hx hb dL_law_666 rfl (lv_at hl 0 rfl) ?_
  refine lv_iload hx hb dL_law_667 (lv_at hl 4 rfl) ?_
  refine lv_iconst (v := 1) hx hb dL_law_669 (by decide) ?_
  refine lv_iadd hx hb dL_law_670 ?_
  refine va_sld hx hb hX hbl hbA hC.2.2.1 (lw_in (k := 1) hi hL (by decide)) dL_law_671 ?_
  refine lv_aload_n hx hb dL_law_672 rfl (lv_at hl 0 rfl) ?_
  refine lv_iload hx hb dL_law_673 (lv_at hl 4 rfl) ?_
  refine lv_iconst (v := 2) hx hb dL_law_675 (by decide) ?_
  refine lv_iadd hx hb dL_law_676 ?_
  refine va_sld hx hb hX hbl hbA hC.2.2.1 (lw_in (k := 2) hi hL (by decide)) dL_law_677 ?_
  obtain ⟨r, uM', h1, h2, hR'⟩ := S uC uM hR (xs (ix (nI i + (1 : Int32)))) (xs (ix (nI i + (2 : Int32))))
  refine gm_callL (G := GC) (Z := (D, tc, aC)) (u := uC) (u' := uC) (r := 1) (ci := 9) (As := [.int (xs (ix (nI i + (1 : Int32)))), .int (xs (ix (nI i + (2 : Int32))))]) (rest := []) (res := some (.int r)) C hC hl (ok_X10_gate l (D, tc, aC) (xs (ix (nI i + (1 : Int32)))) (xs (ix (nI i + (2 : Int32)))) uC r h1) cw_L_87 im_X10_gate rfl se_X10_gate rfl rfl rfl ⟨Nat.le_of_ble_eq_true rfl, Nat.le_of_ble_eq_true rfl⟩ hcs rfl rfl (Nat.le_of_ble_eq_true rfl) dL_law_678 (fun H locs hC hk => ?_)
  have hM := gm_other hd1 hM hC hk
  have hO := gm_other hd3 hO hC hk
  refine lv_aload_n hx hb dL_law_681 rfl (lv_at hl 2 rfl) ?_
  refine lv_aload_n hx hb dL_law_682 rfl (lv_at hl 0 rfl) ?_
  refine lv_iload hx hb dL_law_683 (lv_at hl 4 rfl) ?_
  refine lv_iconst (v := 1) hx hb dL_law_685 (by decide) ?_
  refine lv_iadd hx hb dL_law_686 ?_
  refine va_sld hx hb hX hbl hbA hC.2.2.1 (lw_in (k := 1) hi hL (by decide)) dL_law_687 ?_
  refine lv_aload_n hx hb dL_law_688 rfl (lv_at hl 0 rfl) ?_
  refine lv_iload hx hb dL_law_689 (lv_at hl 4 rfl) ?_
  refine lv_iconst (v := 2) hx hb dL_law_691 (by decide) ?_
  refine lv_iadd hx hb dL_law_692 ?_
  refine va_sld hx hb hX hbl hbA hC.2.2.1 (lw_in (k := 2) hi hL (by decide)) dL_law_693 ?_
  refine gm_callL (G := GM) (Z := (D, tc, aM)) (u := uM) (u' := uM') (r := 1) (ci := 10) (As := [.int (xs (ix (nI i + (1 : Int32)))), .int (xs (ix (nI i + (2 : Int32))))]) (rest := [.int r]) (res := some (.int r)) CM hM hl (ok_X11_gate l (D, tc, aM) (xs (ix (nI i + (1 : Int32)))) (xs (ix (nI i + (2 : Int32)))) uM r uM' h2) cw_L_90 im_X11_gate rfl se_X11_gate rfl rfl rfl ⟨Nat.le_of_ble_eq_true rfl, Nat.le_of_ble_eq_true rfl⟩ hcs rfl rfl (Nat.le_of_ble_eq_true rfl) dL_law_694 (fun H locs hM hk => ?_)
  have hC := gm_other hd2 hC hM hk
  have hO := gm_other hd4 hO hM hk
  refine lv_icmp_eq (tgt := 1386) hx hb dL_law_697 (by decide) (fun hc => ?_) (fun hc => ?_)
  · exact K uC uM' _ _ hC hM hO hR'
  · exact absurd rfl hc
set_option maxRecDepth 100000 in
set_option maxHeartbeats 4000000 in
theorem lc_16 {p : Program} {l : Launch} {e : Env} {s : State} {m : MethodId} {below : List Frame} {meth : Method} {c : Code} {b L : Nat} {xs : Nat → Int32} {D : va_G} {tc : Nat → ClassId} {aC aM aO : Nat → Nat} {A : Nat → Prop} {Q : State → Prop} (Rel Rel' : gm_M → gm_M → Prop) (hL : L ≤ 3584) (C : gm_C p s m meth c #[.ref b] (D, tc, aC) A code 7 RL ret) (hX : va_X b L xs s s.heap) (hbl : b < s.heap.size) (hbA : ¬ A b) (hd1 : gm_dj GC (D, tc, aC) GM (D, tc, aM)) (hd2 : gm_dj GM (D, tc, aM) GC (D, tc, aC)) (hd3 : gm_dj GC (D, tc, aC) GO (D, tc, aO)) (hd4 : gm_dj GM (D, tc, aM) GO (D, tc, aO)) (S : St_call Rel Rel') {uC uM uO : gm_M} {H : Heap} {locs : List Loc} {ls : Array Slot} {cells slots : Nat} (hC : wd GC (D, tc, aC) uC A s.heap H locs) (hM : wd GM (D, tc, aM) uM A s.heap H locs) (hO : wd GO (D, tc, aO) uO A s.heap H locs) (hR : Rel uC uM) (hcs : cells ≤ room_1.cells ∧ slots ≤ room_1.slots) {i : Nat} (hi : i + 7 ≤ L) (hl : lv_has ls 7 [(0, .ref b), (1, .ref (aC 1)), (2, .ref (aM 1)), (3, .ref (aO 1)), (4, .int (nI i))]) (K : ∀ (uC uM : gm_M) (H : Heap) (locs : List Loc), wd GC (D, tc, aC) uC A s.heap H locs → wd GM (D, tc, aM) uM A s.heap H locs → wd GO (D, tc, aO) uO A s.heap H locs → Rel' uC uM → W p l e room_1 s m #[.ref b] below meth c H locs cells slots Q (F0 m 1386 ls [])) : W p l e room_1 s m #[.ref b] below meth c H locs cells slots Q (F0 m 702 ls []) := by
  obtain ⟨hx, hb, -⟩ := id C
  have CM : gm_C p s m meth c #[.ref b] (D, tc, aM) A code 7 RL ret := C
  refine lv_aload_n hx hb dL_law_702 rfl (lv_at hl 1 rfl) ?_
  refine lv_aload_n hx hb dL_law_703 rfl (lv_at hl 0 rfl) ?_
  refine lv_iload hx hb dL_law_704 (lv_at hl 4 rfl) ?_
  refine lv_iconst (v := 1) hx hb dL_law_706 (by decide) ?_
  refine lv_iadd hx hb dL_law_707 ?_
  refine va_sld hx hb hX hbl hbA hC.2.2.1 (lw_in (k := 1) hi hL (by decide)) dL_law_708 ?_
  obtain ⟨r, uC', uM', h1, h2, hR'⟩ := S uC uM hR (xs (ix (nI i + (1 : Int32))))
  refine gm_callL (G := GC) (Z := (D, tc, aC)) (u := uC) (u' := uC') (r := 1) (ci := 9) (As := [.int (xs (ix (nI i + (1 : Int32))))]) (rest := []) (res := some (.int r)) C hC hl (ok_X10_call l (D, tc, aC) (xs (ix (nI i + (1 : Int32)))) uC r uC' h1) cw_L_91 im_X10_call rfl se_X10_call rfl rfl rfl ⟨Nat.le_of_ble_eq_true rfl, Nat.le_of_ble_eq_true rfl⟩ hcs rfl rfl (Nat.le_of_ble_eq_true rfl) dL_law_709 (fun H locs hC hk => ?_)
  have hM := gm_other hd1 hM hC hk
  have hO := gm_other hd3 hO hC hk
  refine lv_aload_n hx hb dL_law_712 rfl (lv_at hl 2 rfl) ?_
  refine lv_aload_n hx hb dL_law_713 rfl (lv_at hl 0 rfl) ?_
  refine lv_iload hx hb dL_law_714 (lv_at hl 4 rfl) ?_
  refine lv_iconst (v := 1) hx hb dL_law_716 (by decide) ?_
  refine lv_iadd hx hb dL_law_717 ?_
  refine va_sld hx hb hX hbl hbA hC.2.2.1 (lw_in (k := 1) hi hL (by decide)) dL_law_718 ?_
  refine gm_callL (G := GM) (Z := (D, tc, aM)) (u := uM) (u' := uM') (r := 1) (ci := 10) (As := [.int (xs (ix (nI i + (1 : Int32))))]) (rest := [.int r]) (res := some (.int r)) CM hM hl (ok_X11_call l (D, tc, aM) (xs (ix (nI i + (1 : Int32)))) uM r uM' h2) cw_L_94 im_X11_call rfl se_X11_call rfl rfl rfl ⟨Nat.le_of_ble_eq_true rfl, Nat.le_of_ble_eq_true rfl⟩ hcs rfl rfl (Nat.le_of_ble_eq_true rfl) dL_law_719 (fun H locs hM hk => ?_)
  have hC := gm_other hd2 hC hM hk
  have hO := gm_other hd4 hO hM hk
  refine lv_icmp_eq (tgt := 1386) hx hb dL_law_722 (by decide) (fun hc => ?_) (fun hc => ?_)
  · exact K uC' uM' _ _ hC hM hO hR'
  · exact absurd rfl hc
set_option maxRecDepth 100000 in
set_option maxHeartbeats 4000000 in
theorem lc_17 {p : Program} {l : Launch} {e : Env} {s : State} {m : MethodId} {below : List Frame} {meth : Method} {c : Code} {b L : Nat} {xs : Nat → Int32} {D : va_G} {tc : Nat → ClassId} {aC aM aO : Nat → Nat} {A : Nat → Prop} {Q : State → Prop} (Rel Rel' : gm_M → gm_M → Prop) (hL : L ≤ 3584) (C : gm_C p s m meth c #[.ref b] (D, tc, aC) A code 7 RL ret) (hX : va_X b L xs s s.heap) (hbl : b < s.heap.size) (hbA : ¬ A b) (hd1 : gm_dj GC (D, tc, aC) GM (D, tc, aM)) (hd2 : gm_dj GM (D, tc, aM) GC (D, tc, aC)) (hd3 : gm_dj GC (D, tc, aC) GO (D, tc, aO)) (hd4 : gm_dj GM (D, tc, aM) GO (D, tc, aO)) (S : St_when Rel Rel') {uC uM uO : gm_M} {H : Heap} {locs : List Loc} {ls : Array Slot} {cells slots : Nat} (hC : wd GC (D, tc, aC) uC A s.heap H locs) (hM : wd GM (D, tc, aM) uM A s.heap H locs) (hO : wd GO (D, tc, aO) uO A s.heap H locs) (hR : Rel uC uM) (hcs : cells ≤ room_1.cells ∧ slots ≤ room_1.slots) {i : Nat} (hi : i + 7 ≤ L) (hl : lv_has ls 7 [(0, .ref b), (1, .ref (aC 1)), (2, .ref (aM 1)), (3, .ref (aO 1)), (4, .int (nI i))]) (K : ∀ (uC uM : gm_M) (H : Heap) (locs : List Loc), wd GC (D, tc, aC) uC A s.heap H locs → wd GM (D, tc, aM) uM A s.heap H locs → wd GO (D, tc, aO) uO A s.heap H locs → Rel' uC uM → W p l e room_1 s m #[.ref b] below meth c H locs cells slots Q (F0 m 1386 ls [])) : W p l e room_1 s m #[.ref b] below meth c H locs cells slots Q (F0 m 727 ls []) := by
  obtain ⟨hx, hb, -⟩ := id C
  have CM : gm_C p s m meth c #[.ref b] (D, tc, aM) A code 7 RL ret := C
  refine lv_aload_n hx hb dL_law_727 rfl (lv_at hl 1 rfl) ?_
  refine lv_aload_n hx hb dL_law_728 rfl (lv_at hl 0 rfl) ?_
  refine lv_iload hx hb dL_law_729 (lv_at hl 4 rfl) ?_
  refine lv_iconst (v := 1) hx hb dL_law_731 (by decide) ?_
  refine lv_iadd hx hb dL_law_732 ?_
  refine va_sld hx hb hX hbl hbA hC.2.2.1 (lw_in (k := 1) hi hL (by decide)) dL_law_733 ?_
  obtain ⟨r, uC', uM', h1, h2, hR'⟩ := S uC uM hR (xs (ix (nI i + (1 : Int32))))
  refine gm_callL (G := GC) (Z := (D, tc, aC)) (u := uC) (u' := uC') (r := 1) (ci := 9) (As := [.int (xs (ix (nI i + (1 : Int32))))]) (rest := []) (res := some (.int r)) C hC hl (ok_X10_when l (D, tc, aC) (xs (ix (nI i + (1 : Int32)))) uC r uC' h1) cw_L_95 im_X10_when rfl se_X10_when rfl rfl rfl ⟨Nat.le_of_ble_eq_true rfl, Nat.le_of_ble_eq_true rfl⟩ hcs rfl rfl (Nat.le_of_ble_eq_true rfl) dL_law_734 (fun H locs hC hk => ?_)
  have hM := gm_other hd1 hM hC hk
  have hO := gm_other hd3 hO hC hk
  refine lv_aload_n hx hb dL_law_737 rfl (lv_at hl 2 rfl) ?_
  refine lv_aload_n hx hb dL_law_738 rfl (lv_at hl 0 rfl) ?_
  refine lv_iload hx hb dL_law_739 (lv_at hl 4 rfl) ?_
  refine lv_iconst (v := 1) hx hb dL_law_741 (by decide) ?_
  refine lv_iadd hx hb dL_law_742 ?_
  refine va_sld hx hb hX hbl hbA hC.2.2.1 (lw_in (k := 1) hi hL (by decide)) dL_law_743 ?_
  refine gm_callL (G := GM) (Z := (D, tc, aM)) (u := uM) (u' := uM') (r := 1) (ci := 10) (As := [.int (xs (ix (nI i + (1 : Int32))))]) (rest := [.int r]) (res := some (.int r)) CM hM hl (ok_X11_when l (D, tc, aM) (xs (ix (nI i + (1 : Int32)))) uM r uM' h2) cw_L_98 im_X11_when rfl se_X11_when rfl rfl rfl ⟨Nat.le_of_ble_eq_true rfl, Nat.le_of_ble_eq_true rfl⟩ hcs rfl rfl (Nat.le_of_ble_eq_true rfl) dL_law_744 (fun H locs hM hk => ?_)
  have hC := gm_other hd2 hC hM hk
  have hO := gm_other hd4 hO hM hk
  refine lv_icmp_eq (tgt := 1386) hx hb dL_law_747 (by decide) (fun hc => ?_) (fun hc => ?_)
  · exact K uC' uM' _ _ hC hM hO hR'
  · exact absurd rfl hc
set_option maxRecDepth 100000 in
set_option maxHeartbeats 4000000 in
theorem lc_18 {p : Program} {l : Launch} {e : Env} {s : State} {m : MethodId} {below : List Frame} {meth : Method} {c : Code} {b L : Nat} {xs : Nat → Int32} {D : va_G} {tc : Nat → ClassId} {aC aM aO : Nat → Nat} {A : Nat → Prop} {Q : State → Prop} (Rel Rel' : gm_M → gm_M → Prop) (hL : L ≤ 3584) (C : gm_C p s m meth c #[.ref b] (D, tc, aC) A code 7 RL ret) (hX : va_X b L xs s s.heap) (hbl : b < s.heap.size) (hbA : ¬ A b) (hd1 : gm_dj GC (D, tc, aC) GM (D, tc, aM)) (hd2 : gm_dj GM (D, tc, aM) GC (D, tc, aC)) (hd3 : gm_dj GC (D, tc, aC) GO (D, tc, aO)) (hd4 : gm_dj GM (D, tc, aM) GO (D, tc, aO)) (S : St_audience Rel Rel') {uC uM uO : gm_M} {H : Heap} {locs : List Loc} {ls : Array Slot} {cells slots : Nat} (hC : wd GC (D, tc, aC) uC A s.heap H locs) (hM : wd GM (D, tc, aM) uM A s.heap H locs) (hO : wd GO (D, tc, aO) uO A s.heap H locs) (hR : Rel uC uM) (hcs : cells ≤ room_1.cells ∧ slots ≤ room_1.slots) {i : Nat} (hi : i + 7 ≤ L) (hl : lv_has ls 7 [(0, .ref b), (1, .ref (aC 1)), (2, .ref (aM 1)), (3, .ref (aO 1)), (4, .int (nI i))]) (K : ∀ (uC uM : gm_M) (H : Heap) (locs : List Loc), wd GC (D, tc, aC) uC A s.heap H locs → wd GM (D, tc, aM) uM A s.heap H locs → wd GO (D, tc, aO) uO A s.heap H locs → Rel' uC uM → W p l e room_1 s m #[.ref b] below meth c H locs cells slots Q (F0 m 1386 ls [])) : W p l e room_1 s m #[.ref b] below meth c H locs cells slots Q (F0 m 752 ls []) := by
  obtain ⟨hx, hb, -⟩ := id C
  have CM : gm_C p s m meth c #[.ref b] (D, tc, aM) A code 7 RL ret := C
  refine lv_aload_n hx hb dL_law_752 rfl (lv_at hl 1 rfl) ?_
  refine lv_aload_n hx hb dL_law_753 rfl (lv_at hl 0 rfl) ?_
  refine lv_iload hx hb dL_law_754 (lv_at hl 4 rfl) ?_
  refine lv_iconst (v := 1) hx hb dL_law_756 (by decide) ?_
  refine lv_iadd hx hb dL_law_757 ?_
  refine va_sld hx hb hX hbl hbA hC.2.2.1 (lw_in (k := 1) hi hL (by decide)) dL_law_758 ?_
  obtain ⟨r, uC', uM', h1, h2, hR'⟩ := S uC uM hR (xs (ix (nI i + (1 : Int32))))
  refine gm_callL (G := GC) (Z := (D, tc, aC)) (u := uC) (u' := uC') (r := 1) (ci := 9) (As := [.int (xs (ix (nI i + (1 : Int32))))]) (rest := []) (res := some (.int r)) C hC hl (ok_X10_audience l (D, tc, aC) (xs (ix (nI i + (1 : Int32)))) uC r uC' h1) cw_L_99 im_X10_audience rfl se_X10_audience rfl rfl rfl ⟨Nat.le_of_ble_eq_true rfl, Nat.le_of_ble_eq_true rfl⟩ hcs rfl rfl (Nat.le_of_ble_eq_true rfl) dL_law_759 (fun H locs hC hk => ?_)
  have hM := gm_other hd1 hM hC hk
  have hO := gm_other hd3 hO hC hk
  refine lv_aload_n hx hb dL_law_762 rfl (lv_at hl 2 rfl) ?_
  refine lv_aload_n hx hb dL_law_763 rfl (lv_at hl 0 rfl) ?_
  refine lv_iload hx hb dL_law_764 (lv_at hl 4 rfl) ?_
  refine lv_iconst (v := 1) hx hb dL_law_766 (by decide) ?_
  refine lv_iadd hx hb dL_law_767 ?_
  refine va_sld hx hb hX hbl hbA hC.2.2.1 (lw_in (k := 1) hi hL (by decide)) dL_law_768 ?_
  refine gm_callL (G := GM) (Z := (D, tc, aM)) (u := uM) (u' := uM') (r := 1) (ci := 10) (As := [.int (xs (ix (nI i + (1 : Int32))))]) (rest := [.int r]) (res := some (.int r)) CM hM hl (ok_X11_audience l (D, tc, aM) (xs (ix (nI i + (1 : Int32)))) uM r uM' h2) cw_L_102 im_X11_audience rfl se_X11_audience rfl rfl rfl ⟨Nat.le_of_ble_eq_true rfl, Nat.le_of_ble_eq_true rfl⟩ hcs rfl rfl (Nat.le_of_ble_eq_true rfl) dL_law_769 (fun H locs hM hk => ?_)
  have hC := gm_other hd2 hC hM hk
  have hO := gm_other hd4 hO hM hk
  refine lv_icmp_eq (tgt := 1386) hx hb dL_law_772 (by decide) (fun hc => ?_) (fun hc => ?_)
  · exact K uC' uM' _ _ hC hM hO hR'
  · exact absurd rfl hc
set_option maxRecDepth 100000 in
set_option maxHeartbeats 4000000 in
theorem lc_19 {p : Program} {l : Launch} {e : Env} {s : State} {m : MethodId} {below : List Frame} {meth : Method} {c : Code} {b L : Nat} {xs : Nat → Int32} {D : va_G} {tc : Nat → ClassId} {aC aM aO : Nat → Nat} {A : Nat → Prop} {Q : State → Prop} (Rel Rel' : gm_M → gm_M → Prop) (hL : L ≤ 3584) (C : gm_C p s m meth c #[.ref b] (D, tc, aC) A code 7 RL ret) (hX : va_X b L xs s s.heap) (hbl : b < s.heap.size) (hbA : ¬ A b) (hd1 : gm_dj GC (D, tc, aC) GM (D, tc, aM)) (hd2 : gm_dj GM (D, tc, aM) GC (D, tc, aC)) (hd3 : gm_dj GC (D, tc, aC) GO (D, tc, aO)) (hd4 : gm_dj GM (D, tc, aM) GO (D, tc, aO)) (S : St_burnt Rel Rel') {uC uM uO : gm_M} {H : Heap} {locs : List Loc} {ls : Array Slot} {cells slots : Nat} (hC : wd GC (D, tc, aC) uC A s.heap H locs) (hM : wd GM (D, tc, aM) uM A s.heap H locs) (hO : wd GO (D, tc, aO) uO A s.heap H locs) (hR : Rel uC uM) (hcs : cells ≤ room_1.cells ∧ slots ≤ room_1.slots) {i : Nat} (hi : i + 7 ≤ L) (hl : lv_has ls 7 [(0, .ref b), (1, .ref (aC 1)), (2, .ref (aM 1)), (3, .ref (aO 1)), (4, .int (nI i))]) (K : ∀ (uC uM : gm_M) (H : Heap) (locs : List Loc), wd GC (D, tc, aC) uC A s.heap H locs → wd GM (D, tc, aM) uM A s.heap H locs → wd GO (D, tc, aO) uO A s.heap H locs → Rel' uC uM → W p l e room_1 s m #[.ref b] below meth c H locs cells slots Q (F0 m 1386 ls [])) : W p l e room_1 s m #[.ref b] below meth c H locs cells slots Q (F0 m 777 ls []) := by
  obtain ⟨hx, hb, -⟩ := id C
  have CM : gm_C p s m meth c #[.ref b] (D, tc, aM) A code 7 RL ret := C
  refine lv_aload_n hx hb dL_law_777 rfl (lv_at hl 1 rfl) ?_
  refine lv_aload_n hx hb dL_law_778 rfl (lv_at hl 0 rfl) ?_
  refine lv_iload hx hb dL_law_779 (lv_at hl 4 rfl) ?_
  refine lv_iconst (v := 1) hx hb dL_law_781 (by decide) ?_
  refine lv_iadd hx hb dL_law_782 ?_
  refine va_sld hx hb hX hbl hbA hC.2.2.1 (lw_in (k := 1) hi hL (by decide)) dL_law_783 ?_
  obtain ⟨r, uC', uM', h1, h2, hR'⟩ := S uC uM hR (xs (ix (nI i + (1 : Int32))))
  refine gm_callL (G := GC) (Z := (D, tc, aC)) (u := uC) (u' := uC') (r := 1) (ci := 9) (As := [.int (xs (ix (nI i + (1 : Int32))))]) (rest := []) (res := some (.int r)) C hC hl (ok_X10_burnt l (D, tc, aC) (xs (ix (nI i + (1 : Int32)))) uC r uC' h1) cw_L_103 im_X10_burnt rfl se_X10_burnt rfl rfl rfl ⟨Nat.le_of_ble_eq_true rfl, Nat.le_of_ble_eq_true rfl⟩ hcs rfl rfl (Nat.le_of_ble_eq_true rfl) dL_law_784 (fun H locs hC hk => ?_)
  have hM := gm_other hd1 hM hC hk
  have hO := gm_other hd3 hO hC hk
  refine lv_aload_n hx hb dL_law_787 rfl (lv_at hl 2 rfl) ?_
  refine lv_aload_n hx hb dL_law_788 rfl (lv_at hl 0 rfl) ?_
  refine lv_iload hx hb dL_law_789 (lv_at hl 4 rfl) ?_
  refine lv_iconst (v := 1) hx hb dL_law_791 (by decide) ?_
  refine lv_iadd hx hb dL_law_792 ?_
  refine va_sld hx hb hX hbl hbA hC.2.2.1 (lw_in (k := 1) hi hL (by decide)) dL_law_793 ?_
  refine gm_callL (G := GM) (Z := (D, tc, aM)) (u := uM) (u' := uM') (r := 1) (ci := 10) (As := [.int (xs (ix (nI i + (1 : Int32))))]) (rest := [.int r]) (res := some (.int r)) CM hM hl (ok_X11_burnt l (D, tc, aM) (xs (ix (nI i + (1 : Int32)))) uM r uM' h2) cw_L_106 im_X11_burnt rfl se_X11_burnt rfl rfl rfl ⟨Nat.le_of_ble_eq_true rfl, Nat.le_of_ble_eq_true rfl⟩ hcs rfl rfl (Nat.le_of_ble_eq_true rfl) dL_law_794 (fun H locs hM hk => ?_)
  have hC := gm_other hd2 hC hM hk
  have hO := gm_other hd4 hO hM hk
  refine lv_icmp_eq (tgt := 1386) hx hb dL_law_797 (by decide) (fun hc => ?_) (fun hc => ?_)
  · exact K uC' uM' _ _ hC hM hO hR'
  · exact absurd rfl hc
set_option maxRecDepth 100000 in
set_option maxHeartbeats 4000000 in
theorem lc_20 {p : Program} {l : Launch} {e : Env} {s : State} {m : MethodId} {below : List Frame} {meth : Method} {c : Code} {b L : Nat} {xs : Nat → Int32} {D : va_G} {tc : Nat → ClassId} {aC aM aO : Nat → Nat} {A : Nat → Prop} {Q : State → Prop} (Rel Rel' : gm_M → gm_M → Prop) (hL : L ≤ 3584) (C : gm_C p s m meth c #[.ref b] (D, tc, aC) A code 7 RL ret) (hX : va_X b L xs s s.heap) (hbl : b < s.heap.size) (hbA : ¬ A b) (hd1 : gm_dj GC (D, tc, aC) GM (D, tc, aM)) (hd2 : gm_dj GM (D, tc, aM) GC (D, tc, aC)) (hd3 : gm_dj GC (D, tc, aC) GO (D, tc, aO)) (hd4 : gm_dj GM (D, tc, aM) GO (D, tc, aO)) (S : St_crowd Rel Rel') {uC uM uO : gm_M} {H : Heap} {locs : List Loc} {ls : Array Slot} {cells slots : Nat} (hC : wd GC (D, tc, aC) uC A s.heap H locs) (hM : wd GM (D, tc, aM) uM A s.heap H locs) (hO : wd GO (D, tc, aO) uO A s.heap H locs) (hR : Rel uC uM) (hcs : cells ≤ room_1.cells ∧ slots ≤ room_1.slots) {i : Nat} (hi : i + 7 ≤ L) (hl : lv_has ls 7 [(0, .ref b), (1, .ref (aC 1)), (2, .ref (aM 1)), (3, .ref (aO 1)), (4, .int (nI i))]) (K : ∀ (uC uM : gm_M) (H : Heap) (locs : List Loc), wd GC (D, tc, aC) uC A s.heap H locs → wd GM (D, tc, aM) uM A s.heap H locs → wd GO (D, tc, aO) uO A s.heap H locs → Rel' uC uM → W p l e room_1 s m #[.ref b] below meth c H locs cells slots Q (F0 m 1386 ls [])) : W p l e room_1 s m #[.ref b] below meth c H locs cells slots Q (F0 m 802 ls []) := by
  obtain ⟨hx, hb, -⟩ := id C
  have CM : gm_C p s m meth c #[.ref b] (D, tc, aM) A code 7 RL ret := C
  refine lv_aload_n hx hb dL_law_802 rfl (lv_at hl 1 rfl) ?_
  refine lv_aload_n hx hb dL_law_803 rfl (lv_at hl 0 rfl) ?_
  refine lv_iload hx hb dL_law_804 (lv_at hl 4 rfl) ?_
  refine lv_iconst (v := 1) hx hb dL_law_806 (by decide) ?_
  refine lv_iadd hx hb dL_law_807 ?_
  refine va_sld hx hb hX hbl hbA hC.2.2.1 (lw_in (k := 1) hi hL (by decide)) dL_law_808 ?_
  obtain ⟨r, uC', uM', h1, h2, hR'⟩ := S uC uM hR (xs (ix (nI i + (1 : Int32))))
  refine gm_callL (G := GC) (Z := (D, tc, aC)) (u := uC) (u' := uC') (r := 1) (ci := 9) (As := [.int (xs (ix (nI i + (1 : Int32))))]) (rest := []) (res := some (.int r)) C hC hl (ok_X10_crowd l (D, tc, aC) (xs (ix (nI i + (1 : Int32)))) uC r uC' h1) cw_L_107 im_X10_crowd rfl se_X10_crowd rfl rfl rfl ⟨Nat.le_of_ble_eq_true rfl, Nat.le_of_ble_eq_true rfl⟩ hcs rfl rfl (Nat.le_of_ble_eq_true rfl) dL_law_809 (fun H locs hC hk => ?_)
  have hM := gm_other hd1 hM hC hk
  have hO := gm_other hd3 hO hC hk
  refine lv_aload_n hx hb dL_law_812 rfl (lv_at hl 2 rfl) ?_
  refine lv_aload_n hx hb dL_law_813 rfl (lv_at hl 0 rfl) ?_
  refine lv_iload hx hb dL_law_814 (lv_at hl 4 rfl) ?_
  refine lv_iconst (v := 1) hx hb dL_law_816 (by decide) ?_
  refine lv_iadd hx hb dL_law_817 ?_
  refine va_sld hx hb hX hbl hbA hC.2.2.1 (lw_in (k := 1) hi hL (by decide)) dL_law_818 ?_
  refine gm_callL (G := GM) (Z := (D, tc, aM)) (u := uM) (u' := uM') (r := 1) (ci := 10) (As := [.int (xs (ix (nI i + (1 : Int32))))]) (rest := [.int r]) (res := some (.int r)) CM hM hl (ok_X11_crowd l (D, tc, aM) (xs (ix (nI i + (1 : Int32)))) uM r uM' h2) cw_L_110 im_X11_crowd rfl se_X11_crowd rfl rfl rfl ⟨Nat.le_of_ble_eq_true rfl, Nat.le_of_ble_eq_true rfl⟩ hcs rfl rfl (Nat.le_of_ble_eq_true rfl) dL_law_819 (fun H locs hM hk => ?_)
  have hC := gm_other hd2 hC hM hk
  have hO := gm_other hd4 hO hM hk
  refine lv_icmp_eq (tgt := 1386) hx hb dL_law_822 (by decide) (fun hc => ?_) (fun hc => ?_)
  · exact K uC' uM' _ _ hC hM hO hR'
  · exact absurd rfl hc
set_option maxRecDepth 100000 in
set_option maxHeartbeats 4000000 in
theorem lc_21 {p : Program} {l : Launch} {e : Env} {s : State} {m : MethodId} {below : List Frame} {meth : Method} {c : Code} {b L : Nat} {xs : Nat → Int32} {D : va_G} {tc : Nat → ClassId} {aC aM aO : Nat → Nat} {A : Nat → Prop} {Q : State → Prop} (Rel Rel' : gm_M → gm_M → Prop) (hL : L ≤ 3584) (C : gm_C p s m meth c #[.ref b] (D, tc, aC) A code 7 RL ret) (hX : va_X b L xs s s.heap) (hbl : b < s.heap.size) (hbA : ¬ A b) (hd1 : gm_dj GC (D, tc, aC) GM (D, tc, aM)) (hd2 : gm_dj GM (D, tc, aM) GC (D, tc, aC)) (hd3 : gm_dj GC (D, tc, aC) GO (D, tc, aO)) (hd4 : gm_dj GM (D, tc, aM) GO (D, tc, aO)) (S : St_exchange Rel Rel') {uC uM uO : gm_M} {H : Heap} {locs : List Loc} {ls : Array Slot} {cells slots : Nat} (hC : wd GC (D, tc, aC) uC A s.heap H locs) (hM : wd GM (D, tc, aM) uM A s.heap H locs) (hO : wd GO (D, tc, aO) uO A s.heap H locs) (hR : Rel uC uM) (hcs : cells ≤ room_1.cells ∧ slots ≤ room_1.slots) {i : Nat} (hi : i + 7 ≤ L) (hl : lv_has ls 7 [(0, .ref b), (1, .ref (aC 1)), (2, .ref (aM 1)), (3, .ref (aO 1)), (4, .int (nI i))]) (K : ∀ (uC uM : gm_M) (H : Heap) (locs : List Loc), wd GC (D, tc, aC) uC A s.heap H locs → wd GM (D, tc, aM) uM A s.heap H locs → wd GO (D, tc, aO) uO A s.heap H locs → Rel' uC uM → W p l e room_1 s m #[.ref b] below meth c H locs cells slots Q (F0 m 1386 ls [])) : W p l e room_1 s m #[.ref b] below meth c H locs cells slots Q (F0 m 827 ls []) := by
  obtain ⟨hx, hb, -⟩ := id C
  have CM : gm_C p s m meth c #[.ref b] (D, tc, aM) A code 7 RL ret := C
  refine lv_aload_n hx hb dL_law_827 rfl (lv_at hl 1 rfl) ?_
  refine lv_aload_n hx hb dL_law_828 rfl (lv_at hl 0 rfl) ?_
  refine lv_iload hx hb dL_law_829 (lv_at hl 4 rfl) ?_
  refine lv_iconst (v := 1) hx hb dL_law_831 (by decide) ?_
  refine lv_iadd hx hb dL_law_832 ?_
  refine va_sld hx hb hX hbl hbA hC.2.2.1 (lw_in (k := 1) hi hL (by decide)) dL_law_833 ?_
  refine lv_aload_n hx hb dL_law_834 rfl (lv_at hl 0 rfl) ?_
  refine lv_iload hx hb dL_law_835 (lv_at hl 4 rfl) ?_
  refine lv_iconst (v := 2) hx hb dL_law_837 (by decide) ?_
  refine lv_iadd hx hb dL_law_838 ?_
  refine va_sld hx hb hX hbl hbA hC.2.2.1 (lw_in (k := 2) hi hL (by decide)) dL_law_839 ?_
  obtain ⟨r, uC', uM', h1, h2, hR'⟩ := S uC uM hR (xs (ix (nI i + (1 : Int32)))) (xs (ix (nI i + (2 : Int32))))
  refine gm_callL (G := GC) (Z := (D, tc, aC)) (u := uC) (u' := uC') (r := 1) (ci := 9) (As := [.int (xs (ix (nI i + (1 : Int32)))), .int (xs (ix (nI i + (2 : Int32))))]) (rest := []) (res := some (.int r)) C hC hl (ok_X10_exchange l (D, tc, aC) (xs (ix (nI i + (1 : Int32)))) (xs (ix (nI i + (2 : Int32)))) uC r uC' h1) cw_L_111 im_X10_exchange rfl se_X10_exchange rfl rfl rfl ⟨Nat.le_of_ble_eq_true rfl, Nat.le_of_ble_eq_true rfl⟩ hcs rfl rfl (Nat.le_of_ble_eq_true rfl) dL_law_840 (fun H locs hC hk => ?_)
  have hM := gm_other hd1 hM hC hk
  have hO := gm_other hd3 hO hC hk
  refine lv_aload_n hx hb dL_law_843 rfl (lv_at hl 2 rfl) ?_
  refine lv_aload_n hx hb dL_law_844 rfl (lv_at hl 0 rfl) ?_
  refine lv_iload hx hb dL_law_845 (lv_at hl 4 rfl) ?_
  refine lv_iconst (v := 1) hx hb dL_law_847 (by decide) ?_
  refine lv_iadd hx hb dL_law_848 ?_
  refine va_sld hx hb hX hbl hbA hC.2.2.1 (lw_in (k := 1) hi hL (by decide)) dL_law_849 ?_
  refine lv_aload_n hx hb dL_law_850 rfl (lv_at hl 0 rfl) ?_
  refine lv_iload hx hb dL_law_851 (lv_at hl 4 rfl) ?_
  refine lv_iconst (v := 2) hx hb dL_law_853 (by decide) ?_
  refine lv_iadd hx hb dL_law_854 ?_
  refine va_sld hx hb hX hbl hbA hC.2.2.1 (lw_in (k := 2) hi hL (by decide)) dL_law_855 ?_
  refine gm_callL (G := GM) (Z := (D, tc, aM)) (u := uM) (u' := uM') (r := 1) (ci := 10) (As := [.int (xs (ix (nI i + (1 : Int32)))), .int (xs (ix (nI i + (2 : Int32))))]) (rest := [.int r]) (res := some (.int r)) CM hM hl (ok_X11_exchange l (D, tc, aM) (xs (ix (nI i + (1 : Int32)))) (xs (ix (nI i + (2 : Int32)))) uM r uM' h2) cw_L_114 im_X11_exchange rfl se_X11_exchange rfl rfl rfl ⟨Nat.le_of_ble_eq_true rfl, Nat.le_of_ble_eq_true rfl⟩ hcs rfl rfl (Nat.le_of_ble_eq_true rfl) dL_law_856 (fun H locs hM hk => ?_)
  have hC := gm_other hd2 hC hM hk
  have hO := gm_other hd4 hO hM hk
  refine lv_icmp_eq (tgt := 1386) hx hb dL_law_859 (by decide) (fun hc => ?_) (fun hc => ?_)
  · exact K uC' uM' _ _ hC hM hO hR'
  · exact absurd rfl hc
set_option maxRecDepth 100000 in
set_option maxHeartbeats 4000000 in
theorem lc_22 {p : Program} {l : Launch} {e : Env} {s : State} {m : MethodId} {below : List Frame} {meth : Method} {c : Code} {b L : Nat} {xs : Nat → Int32} {D : va_G} {tc : Nat → ClassId} {aC aM aO : Nat → Nat} {A : Nat → Prop} {Q : State → Prop} (Rel Rel' : gm_M → gm_M → Prop) (hL : L ≤ 3584) (C : gm_C p s m meth c #[.ref b] (D, tc, aC) A code 7 RL ret) (hX : va_X b L xs s s.heap) (hbl : b < s.heap.size) (hbA : ¬ A b) (hd1 : gm_dj GC (D, tc, aC) GM (D, tc, aM)) (hd2 : gm_dj GM (D, tc, aM) GC (D, tc, aC)) (hd3 : gm_dj GC (D, tc, aC) GO (D, tc, aO)) (hd4 : gm_dj GM (D, tc, aM) GO (D, tc, aO)) (S : St_lastday Rel Rel') {uC uM uO : gm_M} {H : Heap} {locs : List Loc} {ls : Array Slot} {cells slots : Nat} (hC : wd GC (D, tc, aC) uC A s.heap H locs) (hM : wd GM (D, tc, aM) uM A s.heap H locs) (hO : wd GO (D, tc, aO) uO A s.heap H locs) (hR : Rel uC uM) (hcs : cells ≤ room_1.cells ∧ slots ≤ room_1.slots) {i : Nat} (hi : i + 7 ≤ L) (hl : lv_has ls 7 [(0, .ref b), (1, .ref (aC 1)), (2, .ref (aM 1)), (3, .ref (aO 1)), (4, .int (nI i))]) (K : ∀ (uC uM : gm_M) (H : Heap) (locs : List Loc), wd GC (D, tc, aC) uC A s.heap H locs → wd GM (D, tc, aM) uM A s.heap H locs → wd GO (D, tc, aO) uO A s.heap H locs → Rel' uC uM → W p l e room_1 s m #[.ref b] below meth c H locs cells slots Q (F0 m 1386 ls [])) : W p l e room_1 s m #[.ref b] below meth c H locs cells slots Q (F0 m 864 ls []) := by
  obtain ⟨hx, hb, -⟩ := id C
  have CM : gm_C p s m meth c #[.ref b] (D, tc, aM) A code 7 RL ret := C
  refine lv_aload_n hx hb dL_law_864 rfl (lv_at hl 1 rfl) ?_
  refine lv_aload_n hx hb dL_law_865 rfl (lv_at hl 0 rfl) ?_
  refine lv_iload hx hb dL_law_866 (lv_at hl 4 rfl) ?_
  refine lv_iconst (v := 1) hx hb dL_law_868 (by decide) ?_
  refine lv_iadd hx hb dL_law_869 ?_
  refine va_sld hx hb hX hbl hbA hC.2.2.1 (lw_in (k := 1) hi hL (by decide)) dL_law_870 ?_
  obtain ⟨r, uM', h1, h2, hR'⟩ := S uC uM hR (xs (ix (nI i + (1 : Int32))))
  refine gm_callL (G := GC) (Z := (D, tc, aC)) (u := uC) (u' := uC) (r := 1) (ci := 9) (As := [.int (xs (ix (nI i + (1 : Int32))))]) (rest := []) (res := some (.int r)) C hC hl (ok_X10_lastday l (D, tc, aC) (xs (ix (nI i + (1 : Int32)))) uC r h1) cw_L_115 im_X10_lastday rfl se_X10_lastday rfl rfl rfl ⟨Nat.le_of_ble_eq_true rfl, Nat.le_of_ble_eq_true rfl⟩ hcs rfl rfl (Nat.le_of_ble_eq_true rfl) dL_law_871 (fun H locs hC hk => ?_)
  have hM := gm_other hd1 hM hC hk
  have hO := gm_other hd3 hO hC hk
  refine lv_aload_n hx hb dL_law_874 rfl (lv_at hl 2 rfl) ?_
  refine lv_aload_n hx hb dL_law_875 rfl (lv_at hl 0 rfl) ?_
  refine lv_iload hx hb dL_law_876 (lv_at hl 4 rfl) ?_
  refine lv_iconst (v := 1) hx hb dL_law_878 (by decide) ?_
  refine lv_iadd hx hb dL_law_879 ?_
  refine va_sld hx hb hX hbl hbA hC.2.2.1 (lw_in (k := 1) hi hL (by decide)) dL_law_880 ?_
  refine gm_callL (G := GM) (Z := (D, tc, aM)) (u := uM) (u' := uM') (r := 1) (ci := 10) (As := [.int (xs (ix (nI i + (1 : Int32))))]) (rest := [.int r]) (res := some (.int r)) CM hM hl (ok_X11_lastday l (D, tc, aM) (xs (ix (nI i + (1 : Int32)))) uM r uM' h2) cw_L_118 im_X11_lastday rfl se_X11_lastday rfl rfl rfl ⟨Nat.le_of_ble_eq_true rfl, Nat.le_of_ble_eq_true rfl⟩ hcs rfl rfl (Nat.le_of_ble_eq_true rfl) dL_law_881 (fun H locs hM hk => ?_)
  have hC := gm_other hd2 hC hM hk
  have hO := gm_other hd4 hO hM hk
  refine lv_icmp_eq (tgt := 1386) hx hb dL_law_884 (by decide) (fun hc => ?_) (fun hc => ?_)
  · exact K uC uM' _ _ hC hM hO hR'
  · exact absurd rfl hc
set_option maxRecDepth 100000 in
set_option maxHeartbeats 4000000 in
theorem lc_23 {p : Program} {l : Launch} {e : Env} {s : State} {m : MethodId} {below : List Frame} {meth : Method} {c : Code} {b L : Nat} {xs : Nat → Int32} {D : va_G} {tc : Nat → ClassId} {aC aM aO : Nat → Nat} {A : Nat → Prop} {Q : State → Prop} (Rel Rel' : gm_M → gm_M → Prop) (hL : L ≤ 3584) (C : gm_C p s m meth c #[.ref b] (D, tc, aC) A code 7 RL ret) (hX : va_X b L xs s s.heap) (hbl : b < s.heap.size) (hbA : ¬ A b) (hd1 : gm_dj GC (D, tc, aC) GM (D, tc, aM)) (hd2 : gm_dj GM (D, tc, aM) GC (D, tc, aC)) (hd3 : gm_dj GC (D, tc, aC) GO (D, tc, aO)) (hd4 : gm_dj GM (D, tc, aM) GO (D, tc, aO)) (S : St_cycle Rel Rel') {uC uM uO : gm_M} {H : Heap} {locs : List Loc} {ls : Array Slot} {cells slots : Nat} (hC : wd GC (D, tc, aC) uC A s.heap H locs) (hM : wd GM (D, tc, aM) uM A s.heap H locs) (hO : wd GO (D, tc, aO) uO A s.heap H locs) (hR : Rel uC uM) (hcs : cells ≤ room_1.cells ∧ slots ≤ room_1.slots) {i : Nat} (hi : i + 7 ≤ L) (hl : lv_has ls 7 [(0, .ref b), (1, .ref (aC 1)), (2, .ref (aM 1)), (3, .ref (aO 1)), (4, .int (nI i))]) (K : ∀ (uC uM : gm_M) (H : Heap) (locs : List Loc), wd GC (D, tc, aC) uC A s.heap H locs → wd GM (D, tc, aM) uM A s.heap H locs → wd GO (D, tc, aO) uO A s.heap H locs → Rel' uC uM → W p l e room_1 s m #[.ref b] below meth c H locs cells slots Q (F0 m 1386 ls [])) : W p l e room_1 s m #[.ref b] below meth c H locs cells slots Q (F0 m 889 ls []) := by
  obtain ⟨hx, hb, -⟩ := id C
  have CM : gm_C p s m meth c #[.ref b] (D, tc, aM) A code 7 RL ret := C
  refine lv_aload_n hx hb dL_law_889 rfl (lv_at hl 1 rfl) ?_
  refine lv_aload_n hx hb dL_law_890 rfl (lv_at hl 0 rfl) ?_
  refine lv_iload hx hb dL_law_891 (lv_at hl 4 rfl) ?_
  refine lv_iconst (v := 1) hx hb dL_law_893 (by decide) ?_
  refine lv_iadd hx hb dL_law_894 ?_
  refine va_sld hx hb hX hbl hbA hC.2.2.1 (lw_in (k := 1) hi hL (by decide)) dL_law_895 ?_
  obtain ⟨r, uM', h1, h2, hR'⟩ := S uC uM hR (xs (ix (nI i + (1 : Int32))))
  refine gm_callL (G := GC) (Z := (D, tc, aC)) (u := uC) (u' := uC) (r := 1) (ci := 9) (As := [.int (xs (ix (nI i + (1 : Int32))))]) (rest := []) (res := some (.int r)) C hC hl (ok_X10_cycle l (D, tc, aC) (xs (ix (nI i + (1 : Int32)))) uC r h1) cw_L_119 im_X10_cycle rfl se_X10_cycle rfl rfl rfl ⟨Nat.le_of_ble_eq_true rfl, Nat.le_of_ble_eq_true rfl⟩ hcs rfl rfl (Nat.le_of_ble_eq_true rfl) dL_law_896 (fun H locs hC hk => ?_)
  have hM := gm_other hd1 hM hC hk
  have hO := gm_other hd3 hO hC hk
  refine lv_aload_n hx hb dL_law_899 rfl (lv_at hl 2 rfl) ?_
  refine lv_aload_n hx hb dL_law_900 rfl (lv_at hl 0 rfl) ?_
  refine lv_iload hx hb dL_law_901 (lv_at hl 4 rfl) ?_
  refine lv_iconst (v := 1) hx hb dL_law_903 (by decide) ?_
  refine lv_iadd hx hb dL_law_904 ?_
  refine va_sld hx hb hX hbl hbA hC.2.2.1 (lw_in (k := 1) hi hL (by decide)) dL_law_905 ?_
  refine gm_callL (G := GM) (Z := (D, tc, aM)) (u := uM) (u' := uM') (r := 1) (ci := 10) (As := [.int (xs (ix (nI i + (1 : Int32))))]) (rest := [.int r]) (res := some (.int r)) CM hM hl (ok_X11_cycle l (D, tc, aM) (xs (ix (nI i + (1 : Int32)))) uM r uM' h2) cw_L_122 im_X11_cycle rfl se_X11_cycle rfl rfl rfl ⟨Nat.le_of_ble_eq_true rfl, Nat.le_of_ble_eq_true rfl⟩ hcs rfl rfl (Nat.le_of_ble_eq_true rfl) dL_law_906 (fun H locs hM hk => ?_)
  have hC := gm_other hd2 hC hM hk
  have hO := gm_other hd4 hO hM hk
  refine lv_icmp_eq (tgt := 1386) hx hb dL_law_909 (by decide) (fun hc => ?_) (fun hc => ?_)
  · exact K uC uM' _ _ hC hM hO hR'
  · exact absurd rfl hc
set_option maxRecDepth 100000 in
set_option maxHeartbeats 4000000 in
theorem lc_24 {p : Program} {l : Launch} {e : Env} {s : State} {m : MethodId} {below : List Frame} {meth : Method} {c : Code} {b L : Nat} {xs : Nat → Int32} {D : va_G} {tc : Nat → ClassId} {aC aM aO : Nat → Nat} {A : Nat → Prop} {Q : State → Prop} (Rel Rel' : gm_M → gm_M → Prop) (hL : L ≤ 3584) (C : gm_C p s m meth c #[.ref b] (D, tc, aC) A code 7 RL ret) (hX : va_X b L xs s s.heap) (hbl : b < s.heap.size) (hbA : ¬ A b) (hd1 : gm_dj GC (D, tc, aC) GM (D, tc, aM)) (hd2 : gm_dj GM (D, tc, aM) GC (D, tc, aC)) (hd3 : gm_dj GC (D, tc, aC) GO (D, tc, aO)) (hd4 : gm_dj GM (D, tc, aM) GO (D, tc, aO)) (S : St_need Rel Rel') {uC uM uO : gm_M} {H : Heap} {locs : List Loc} {ls : Array Slot} {cells slots : Nat} (hC : wd GC (D, tc, aC) uC A s.heap H locs) (hM : wd GM (D, tc, aM) uM A s.heap H locs) (hO : wd GO (D, tc, aO) uO A s.heap H locs) (hR : Rel uC uM) (hcs : cells ≤ room_1.cells ∧ slots ≤ room_1.slots) {i : Nat} (hi : i + 7 ≤ L) (hl : lv_has ls 7 [(0, .ref b), (1, .ref (aC 1)), (2, .ref (aM 1)), (3, .ref (aO 1)), (4, .int (nI i))]) (K : ∀ (uC uM : gm_M) (H : Heap) (locs : List Loc), wd GC (D, tc, aC) uC A s.heap H locs → wd GM (D, tc, aM) uM A s.heap H locs → wd GO (D, tc, aO) uO A s.heap H locs → Rel' uC uM → W p l e room_1 s m #[.ref b] below meth c H locs cells slots Q (F0 m 1386 ls [])) : W p l e room_1 s m #[.ref b] below meth c H locs cells slots Q (F0 m 914 ls []) := by
  obtain ⟨hx, hb, -⟩ := id C
  have CM : gm_C p s m meth c #[.ref b] (D, tc, aM) A code 7 RL ret := C
  refine lv_aload_n hx hb dL_law_914 rfl (lv_at hl 1 rfl) ?_
  refine lv_aload_n hx hb dL_law_915 rfl (lv_at hl 0 rfl) ?_
  refine lv_iload hx hb dL_law_916 (lv_at hl 4 rfl) ?_
  refine lv_iconst (v := 1) hx hb dL_law_918 (by decide) ?_
  refine lv_iadd hx hb dL_law_919 ?_
  refine va_sld hx hb hX hbl hbA hC.2.2.1 (lw_in (k := 1) hi hL (by decide)) dL_law_920 ?_
  obtain ⟨r, uC', uM', h1, h2, hR'⟩ := S uC uM hR (xs (ix (nI i + (1 : Int32))))
  refine gm_callL (G := GC) (Z := (D, tc, aC)) (u := uC) (u' := uC') (r := 1) (ci := 9) (As := [.int (xs (ix (nI i + (1 : Int32))))]) (rest := []) (res := some (.int r)) C hC hl (ok_X10_need l (D, tc, aC) (xs (ix (nI i + (1 : Int32)))) uC r uC' h1) cw_L_123 im_X10_need rfl se_X10_need rfl rfl rfl ⟨Nat.le_of_ble_eq_true rfl, Nat.le_of_ble_eq_true rfl⟩ hcs rfl rfl (Nat.le_of_ble_eq_true rfl) dL_law_921 (fun H locs hC hk => ?_)
  have hM := gm_other hd1 hM hC hk
  have hO := gm_other hd3 hO hC hk
  refine lv_aload_n hx hb dL_law_924 rfl (lv_at hl 2 rfl) ?_
  refine lv_aload_n hx hb dL_law_925 rfl (lv_at hl 0 rfl) ?_
  refine lv_iload hx hb dL_law_926 (lv_at hl 4 rfl) ?_
  refine lv_iconst (v := 1) hx hb dL_law_928 (by decide) ?_
  refine lv_iadd hx hb dL_law_929 ?_
  refine va_sld hx hb hX hbl hbA hC.2.2.1 (lw_in (k := 1) hi hL (by decide)) dL_law_930 ?_
  refine gm_callL (G := GM) (Z := (D, tc, aM)) (u := uM) (u' := uM') (r := 1) (ci := 10) (As := [.int (xs (ix (nI i + (1 : Int32))))]) (rest := [.int r]) (res := some (.int r)) CM hM hl (ok_X11_need l (D, tc, aM) (xs (ix (nI i + (1 : Int32)))) uM r uM' h2) cw_L_126 im_X11_need rfl se_X11_need rfl rfl rfl ⟨Nat.le_of_ble_eq_true rfl, Nat.le_of_ble_eq_true rfl⟩ hcs rfl rfl (Nat.le_of_ble_eq_true rfl) dL_law_931 (fun H locs hM hk => ?_)
  have hC := gm_other hd2 hC hM hk
  have hO := gm_other hd4 hO hM hk
  refine lv_icmp_eq (tgt := 1386) hx hb dL_law_934 (by decide) (fun hc => ?_) (fun hc => ?_)
  · exact K uC' uM' _ _ hC hM hO hR'
  · exact absurd rfl hc
set_option maxRecDepth 100000 in
set_option maxHeartbeats 4000000 in
theorem lc_25 {p : Program} {l : Launch} {e : Env} {s : State} {m : MethodId} {below : List Frame} {meth : Method} {c : Code} {b L : Nat} {xs : Nat → Int32} {D : va_G} {tc : Nat → ClassId} {aC aM aO : Nat → Nat} {A : Nat → Prop} {Q : State → Prop} (Rel Rel' : gm_M → gm_M → Prop) (hL : L ≤ 3584) (C : gm_C p s m meth c #[.ref b] (D, tc, aC) A code 7 RL ret) (hX : va_X b L xs s s.heap) (hbl : b < s.heap.size) (hbA : ¬ A b) (hd1 : gm_dj GC (D, tc, aC) GM (D, tc, aM)) (hd2 : gm_dj GM (D, tc, aM) GC (D, tc, aC)) (hd3 : gm_dj GC (D, tc, aC) GO (D, tc, aO)) (hd4 : gm_dj GM (D, tc, aM) GO (D, tc, aO)) (S : St_coming Rel Rel') {uC uM uO : gm_M} {H : Heap} {locs : List Loc} {ls : Array Slot} {cells slots : Nat} (hC : wd GC (D, tc, aC) uC A s.heap H locs) (hM : wd GM (D, tc, aM) uM A s.heap H locs) (hO : wd GO (D, tc, aO) uO A s.heap H locs) (hR : Rel uC uM) (hcs : cells ≤ room_1.cells ∧ slots ≤ room_1.slots) {i : Nat} (hi : i + 7 ≤ L) (hl : lv_has ls 7 [(0, .ref b), (1, .ref (aC 1)), (2, .ref (aM 1)), (3, .ref (aO 1)), (4, .int (nI i))]) (K : ∀ (uC uM : gm_M) (H : Heap) (locs : List Loc), wd GC (D, tc, aC) uC A s.heap H locs → wd GM (D, tc, aM) uM A s.heap H locs → wd GO (D, tc, aO) uO A s.heap H locs → Rel' uC uM → W p l e room_1 s m #[.ref b] below meth c H locs cells slots Q (F0 m 1386 ls [])) : W p l e room_1 s m #[.ref b] below meth c H locs cells slots Q (F0 m 939 ls []) := by
  obtain ⟨hx, hb, -⟩ := id C
  have CM : gm_C p s m meth c #[.ref b] (D, tc, aM) A code 7 RL ret := C
  refine lv_aload_n hx hb dL_law_939 rfl (lv_at hl 1 rfl) ?_
  refine lv_aload_n hx hb dL_law_940 rfl (lv_at hl 0 rfl) ?_
  refine lv_iload hx hb dL_law_941 (lv_at hl 4 rfl) ?_
  refine lv_iconst (v := 1) hx hb dL_law_943 (by decide) ?_
  refine lv_iadd hx hb dL_law_944 ?_
  refine va_sld hx hb hX hbl hbA hC.2.2.1 (lw_in (k := 1) hi hL (by decide)) dL_law_945 ?_
  refine lv_aload_n hx hb dL_law_946 rfl (lv_at hl 0 rfl) ?_
  refine lv_iload hx hb dL_law_947 (lv_at hl 4 rfl) ?_
  refine lv_iconst (v := 2) hx hb dL_law_949 (by decide) ?_
  refine lv_iadd hx hb dL_law_950 ?_
  refine va_sld hx hb hX hbl hbA hC.2.2.1 (lw_in (k := 2) hi hL (by decide)) dL_law_951 ?_
  obtain ⟨r, uC', uM', h1, h2, hR'⟩ := S uC uM hR (xs (ix (nI i + (1 : Int32)))) (xs (ix (nI i + (2 : Int32))))
  refine gm_callL (G := GC) (Z := (D, tc, aC)) (u := uC) (u' := uC') (r := 1) (ci := 9) (As := [.int (xs (ix (nI i + (1 : Int32)))), .int (xs (ix (nI i + (2 : Int32))))]) (rest := []) (res := some (.int r)) C hC hl (ok_X10_coming l (D, tc, aC) (xs (ix (nI i + (1 : Int32)))) (xs (ix (nI i + (2 : Int32)))) uC r uC' h1) cw_L_127 im_X10_coming rfl se_X10_coming rfl rfl rfl ⟨Nat.le_of_ble_eq_true rfl, Nat.le_of_ble_eq_true rfl⟩ hcs rfl rfl (Nat.le_of_ble_eq_true rfl) dL_law_952 (fun H locs hC hk => ?_)
  have hM := gm_other hd1 hM hC hk
  have hO := gm_other hd3 hO hC hk
  refine lv_aload_n hx hb dL_law_955 rfl (lv_at hl 2 rfl) ?_
  refine lv_aload_n hx hb dL_law_956 rfl (lv_at hl 0 rfl) ?_
  refine lv_iload hx hb dL_law_957 (lv_at hl 4 rfl) ?_
  refine lv_iconst (v := 1) hx hb dL_law_959 (by decide) ?_
  refine lv_iadd hx hb dL_law_960 ?_
  refine va_sld hx hb hX hbl hbA hC.2.2.1 (lw_in (k := 1) hi hL (by decide)) dL_law_961 ?_
  refine lv_aload_n hx hb dL_law_962 rfl (lv_at hl 0 rfl) ?_
  refine lv_iload hx hb dL_law_963 (lv_at hl 4 rfl) ?_
  refine lv_iconst (v := 2) hx hb dL_law_965 (by decide) ?_
  refine lv_iadd hx hb dL_law_966 ?_
  refine va_sld hx hb hX hbl hbA hC.2.2.1 (lw_in (k := 2) hi hL (by decide)) dL_law_967 ?_
  refine gm_callL (G := GM) (Z := (D, tc, aM)) (u := uM) (u' := uM') (r := 1) (ci := 10) (As := [.int (xs (ix (nI i + (1 : Int32)))), .int (xs (ix (nI i + (2 : Int32))))]) (rest := [.int r]) (res := some (.int r)) CM hM hl (ok_X11_coming l (D, tc, aM) (xs (ix (nI i + (1 : Int32)))) (xs (ix (nI i + (2 : Int32)))) uM r uM' h2) cw_L_130 im_X11_coming rfl se_X11_coming rfl rfl rfl ⟨Nat.le_of_ble_eq_true rfl, Nat.le_of_ble_eq_true rfl⟩ hcs rfl rfl (Nat.le_of_ble_eq_true rfl) dL_law_968 (fun H locs hM hk => ?_)
  have hC := gm_other hd2 hC hM hk
  have hO := gm_other hd4 hO hM hk
  refine lv_icmp_eq (tgt := 1386) hx hb dL_law_971 (by decide) (fun hc => ?_) (fun hc => ?_)
  · exact K uC' uM' _ _ hC hM hO hR'
  · exact absurd rfl hc
set_option maxRecDepth 100000 in
set_option maxHeartbeats 4000000 in
theorem lc_26 {p : Program} {l : Launch} {e : Env} {s : State} {m : MethodId} {below : List Frame} {meth : Method} {c : Code} {b L : Nat} {xs : Nat → Int32} {D : va_G} {tc : Nat → ClassId} {aC aM aO : Nat → Nat} {A : Nat → Prop} {Q : State → Prop} (Rel Rel' : gm_M → gm_M → Prop) (hL : L ≤ 3584) (C : gm_C p s m meth c #[.ref b] (D, tc, aC) A code 7 RL ret) (hX : va_X b L xs s s.heap) (hbl : b < s.heap.size) (hbA : ¬ A b) (hd1 : gm_dj GC (D, tc, aC) GM (D, tc, aM)) (hd2 : gm_dj GM (D, tc, aM) GC (D, tc, aC)) (hd3 : gm_dj GC (D, tc, aC) GO (D, tc, aO)) (hd4 : gm_dj GM (D, tc, aM) GO (D, tc, aO)) (S : St_old Rel Rel') {uC uM uO : gm_M} {H : Heap} {locs : List Loc} {ls : Array Slot} {cells slots : Nat} (hC : wd GC (D, tc, aC) uC A s.heap H locs) (hM : wd GM (D, tc, aM) uM A s.heap H locs) (hO : wd GO (D, tc, aO) uO A s.heap H locs) (hR : Rel uC uM) (hcs : cells ≤ room_1.cells ∧ slots ≤ room_1.slots) {i : Nat} (hi : i + 7 ≤ L) (hl : lv_has ls 7 [(0, .ref b), (1, .ref (aC 1)), (2, .ref (aM 1)), (3, .ref (aO 1)), (4, .int (nI i))]) (K : ∀ (uC uM : gm_M) (H : Heap) (locs : List Loc), wd GC (D, tc, aC) uC A s.heap H locs → wd GM (D, tc, aM) uM A s.heap H locs → wd GO (D, tc, aO) uO A s.heap H locs → Rel' uC uM → W p l e room_1 s m #[.ref b] below meth c H locs cells slots Q (F0 m 1386 ls [])) : W p l e room_1 s m #[.ref b] below meth c H locs cells slots Q (F0 m 976 ls []) := by
  obtain ⟨hx, hb, -⟩ := id C
  have CM : gm_C p s m meth c #[.ref b] (D, tc, aM) A code 7 RL ret := C
  refine lv_aload_n hx hb dL_law_976 rfl (lv_at hl 1 rfl) ?_
  refine lv_aload_n hx hb dL_law_977 rfl (lv_at hl 0 rfl) ?_
  refine lv_iload hx hb dL_law_978 (lv_at hl 4 rfl) ?_
  refine lv_iconst (v := 1) hx hb dL_law_980 (by decide) ?_
  refine lv_iadd hx hb dL_law_981 ?_
  refine va_sld hx hb hX hbl hbA hC.2.2.1 (lw_in (k := 1) hi hL (by decide)) dL_law_982 ?_
  obtain ⟨r, uM', h1, h2, hR'⟩ := S uC uM hR (xs (ix (nI i + (1 : Int32))))
  refine gm_callL (G := GC) (Z := (D, tc, aC)) (u := uC) (u' := uC) (r := 1) (ci := 9) (As := [.int (xs (ix (nI i + (1 : Int32))))]) (rest := []) (res := some (.int r)) C hC hl (ok_X10_old l (D, tc, aC) (xs (ix (nI i + (1 : Int32)))) uC r h1) cw_L_131 im_X10_old rfl se_X10_old rfl rfl rfl ⟨Nat.le_of_ble_eq_true rfl, Nat.le_of_ble_eq_true rfl⟩ hcs rfl rfl (Nat.le_of_ble_eq_true rfl) dL_law_983 (fun H locs hC hk => ?_)
  have hM := gm_other hd1 hM hC hk
  have hO := gm_other hd3 hO hC hk
  refine lv_aload_n hx hb dL_law_986 rfl (lv_at hl 2 rfl) ?_
  refine lv_aload_n hx hb dL_law_987 rfl (lv_at hl 0 rfl) ?_
  refine lv_iload hx hb dL_law_988 (lv_at hl 4 rfl) ?_
  refine lv_iconst (v := 1) hx hb dL_law_990 (by decide) ?_
  refine lv_iadd hx hb dL_law_991 ?_
  refine va_sld hx hb hX hbl hbA hC.2.2.1 (lw_in (k := 1) hi hL (by decide)) dL_law_992 ?_
  refine gm_callL (G := GM) (Z := (D, tc, aM)) (u := uM) (u' := uM') (r := 1) (ci := 10) (As := [.int (xs (ix (nI i + (1 : Int32))))]) (rest := [.int r]) (res := some (.int r)) CM hM hl (ok_X11_old l (D, tc, aM) (xs (ix (nI i + (1 : Int32)))) uM r uM' h2) cw_L_134 im_X11_old rfl se_X11_old rfl rfl rfl ⟨Nat.le_of_ble_eq_true rfl, Nat.le_of_ble_eq_true rfl⟩ hcs rfl rfl (Nat.le_of_ble_eq_true rfl) dL_law_993 (fun H locs hM hk => ?_)
  have hC := gm_other hd2 hC hM hk
  have hO := gm_other hd4 hO hM hk
  refine lv_icmp_eq (tgt := 1386) hx hb dL_law_996 (by decide) (fun hc => ?_) (fun hc => ?_)
  · exact K uC uM' _ _ hC hM hO hR'
  · exact absurd rfl hc
set_option maxRecDepth 100000 in
set_option maxHeartbeats 4000000 in
theorem lc_27 {p : Program} {l : Launch} {e : Env} {s : State} {m : MethodId} {below : List Frame} {meth : Method} {c : Code} {b L : Nat} {xs : Nat → Int32} {D : va_G} {tc : Nat → ClassId} {aC aM aO : Nat → Nat} {A : Nat → Prop} {Q : State → Prop} (Rel Rel' : gm_M → gm_M → Prop) (hL : L ≤ 3584) (C : gm_C p s m meth c #[.ref b] (D, tc, aC) A code 7 RL ret) (hX : va_X b L xs s s.heap) (hbl : b < s.heap.size) (hbA : ¬ A b) (hd1 : gm_dj GC (D, tc, aC) GM (D, tc, aM)) (hd2 : gm_dj GM (D, tc, aM) GC (D, tc, aC)) (hd3 : gm_dj GC (D, tc, aC) GO (D, tc, aO)) (hd4 : gm_dj GM (D, tc, aM) GO (D, tc, aO)) (S : St_julian Rel Rel') {uC uM uO : gm_M} {H : Heap} {locs : List Loc} {ls : Array Slot} {cells slots : Nat} (hC : wd GC (D, tc, aC) uC A s.heap H locs) (hM : wd GM (D, tc, aM) uM A s.heap H locs) (hO : wd GO (D, tc, aO) uO A s.heap H locs) (hR : Rel uC uM) (hcs : cells ≤ room_1.cells ∧ slots ≤ room_1.slots) {i : Nat} (hi : i + 7 ≤ L) (hl : lv_has ls 7 [(0, .ref b), (1, .ref (aC 1)), (2, .ref (aM 1)), (3, .ref (aO 1)), (4, .int (nI i))]) (K : ∀ (uC uM : gm_M) (H : Heap) (locs : List Loc), wd GC (D, tc, aC) uC A s.heap H locs → wd GM (D, tc, aM) uM A s.heap H locs → wd GO (D, tc, aO) uO A s.heap H locs → Rel' uC uM → W p l e room_1 s m #[.ref b] below meth c H locs cells slots Q (F0 m 1386 ls [])) : W p l e room_1 s m #[.ref b] below meth c H locs cells slots Q (F0 m 1001 ls []) := by
  obtain ⟨hx, hb, -⟩ := id C
  have CM : gm_C p s m meth c #[.ref b] (D, tc, aM) A code 7 RL ret := C
  refine lv_aload_n hx hb dL_law_1001 rfl (lv_at hl 1 rfl) ?_
  refine lv_aload_n hx hb dL_law_1002 rfl (lv_at hl 0 rfl) ?_
  refine lv_iload hx hb dL_law_1003 (lv_at hl 4 rfl) ?_
  refine lv_iconst (v := 1) hx hb dL_law_1005 (by decide) ?_
  refine lv_iadd hx hb dL_law_1006 ?_
  refine va_sld hx hb hX hbl hbA hC.2.2.1 (lw_in (k := 1) hi hL (by decide)) dL_law_1007 ?_
  obtain ⟨r, uC', uM', h1, h2, hR'⟩ := S uC uM hR (xs (ix (nI i + (1 : Int32))))
  refine gm_callL (G := GC) (Z := (D, tc, aC)) (u := uC) (u' := uC') (r := 1) (ci := 9) (As := [.int (xs (ix (nI i + (1 : Int32))))]) (rest := []) (res := some (.int r)) C hC hl (ok_X10_julian l (D, tc, aC) (xs (ix (nI i + (1 : Int32)))) uC r uC' h1) cw_L_135 im_X10_julian rfl se_X10_julian rfl rfl rfl ⟨Nat.le_of_ble_eq_true rfl, Nat.le_of_ble_eq_true rfl⟩ hcs rfl rfl (Nat.le_of_ble_eq_true rfl) dL_law_1008 (fun H locs hC hk => ?_)
  have hM := gm_other hd1 hM hC hk
  have hO := gm_other hd3 hO hC hk
  refine lv_aload_n hx hb dL_law_1011 rfl (lv_at hl 2 rfl) ?_
  refine lv_aload_n hx hb dL_law_1012 rfl (lv_at hl 0 rfl) ?_
  refine lv_iload hx hb dL_law_1013 (lv_at hl 4 rfl) ?_
  refine lv_iconst (v := 1) hx hb dL_law_1015 (by decide) ?_
  refine lv_iadd hx hb dL_law_1016 ?_
  refine va_sld hx hb hX hbl hbA hC.2.2.1 (lw_in (k := 1) hi hL (by decide)) dL_law_1017 ?_
  refine gm_callL (G := GM) (Z := (D, tc, aM)) (u := uM) (u' := uM') (r := 1) (ci := 10) (As := [.int (xs (ix (nI i + (1 : Int32))))]) (rest := [.int r]) (res := some (.int r)) CM hM hl (ok_X11_julian l (D, tc, aM) (xs (ix (nI i + (1 : Int32)))) uM r uM' h2) cw_L_138 im_X11_julian rfl se_X11_julian rfl rfl rfl ⟨Nat.le_of_ble_eq_true rfl, Nat.le_of_ble_eq_true rfl⟩ hcs rfl rfl (Nat.le_of_ble_eq_true rfl) dL_law_1018 (fun H locs hM hk => ?_)
  have hC := gm_other hd2 hC hM hk
  have hO := gm_other hd4 hO hM hk
  refine lv_icmp_eq (tgt := 1386) hx hb dL_law_1021 (by decide) (fun hc => ?_) (fun hc => ?_)
  · exact K uC' uM' _ _ hC hM hO hR'
  · exact absurd rfl hc
set_option maxRecDepth 100000 in
set_option maxHeartbeats 4000000 in
theorem lc_28 {p : Program} {l : Launch} {e : Env} {s : State} {m : MethodId} {below : List Frame} {meth : Method} {c : Code} {b L : Nat} {xs : Nat → Int32} {D : va_G} {tc : Nat → ClassId} {aC aM aO : Nat → Nat} {A : Nat → Prop} {Q : State → Prop} (Rel Rel' : gm_M → gm_M → Prop) (hL : L ≤ 3584) (C : gm_C p s m meth c #[.ref b] (D, tc, aC) A code 7 RL ret) (hX : va_X b L xs s s.heap) (hbl : b < s.heap.size) (hbA : ¬ A b) (hd1 : gm_dj GC (D, tc, aC) GM (D, tc, aM)) (hd2 : gm_dj GM (D, tc, aM) GC (D, tc, aC)) (hd3 : gm_dj GC (D, tc, aC) GO (D, tc, aO)) (hd4 : gm_dj GM (D, tc, aM) GO (D, tc, aO)) (S : St_stale Rel Rel') {uC uM uO : gm_M} {H : Heap} {locs : List Loc} {ls : Array Slot} {cells slots : Nat} (hC : wd GC (D, tc, aC) uC A s.heap H locs) (hM : wd GM (D, tc, aM) uM A s.heap H locs) (hO : wd GO (D, tc, aO) uO A s.heap H locs) (hR : Rel uC uM) (hcs : cells ≤ room_1.cells ∧ slots ≤ room_1.slots) {i : Nat} (hi : i + 7 ≤ L) (hl : lv_has ls 7 [(0, .ref b), (1, .ref (aC 1)), (2, .ref (aM 1)), (3, .ref (aO 1)), (4, .int (nI i))]) (K : ∀ (uC uM : gm_M) (H : Heap) (locs : List Loc), wd GC (D, tc, aC) uC A s.heap H locs → wd GM (D, tc, aM) uM A s.heap H locs → wd GO (D, tc, aO) uO A s.heap H locs → Rel' uC uM → W p l e room_1 s m #[.ref b] below meth c H locs cells slots Q (F0 m 1386 ls [])) : W p l e room_1 s m #[.ref b] below meth c H locs cells slots Q (F0 m 1026 ls []) := by
  obtain ⟨hx, hb, -⟩ := id C
  have CM : gm_C p s m meth c #[.ref b] (D, tc, aM) A code 7 RL ret := C
  refine lv_aload_n hx hb dL_law_1026 rfl (lv_at hl 1 rfl) ?_
  obtain ⟨r, uC', uM', h1, h2, hR'⟩ := S uC uM hR ()
  refine gm_callL (G := GC) (Z := (D, tc, aC)) (u := uC) (u' := uC') (r := 1) (ci := 9) (As := []) (rest := []) (res := some (.int r)) C hC hl (ok_X10_stale l (D, tc, aC) uC r uC' h1) cw_L_139 im_X10_stale rfl se_X10_stale rfl rfl rfl ⟨Nat.le_of_ble_eq_true rfl, Nat.le_of_ble_eq_true rfl⟩ hcs rfl rfl (Nat.le_of_ble_eq_true rfl) dL_law_1027 (fun H locs hC hk => ?_)
  have hM := gm_other hd1 hM hC hk
  have hO := gm_other hd3 hO hC hk
  refine lv_aload_n hx hb dL_law_1030 rfl (lv_at hl 2 rfl) ?_
  refine gm_callL (G := GM) (Z := (D, tc, aM)) (u := uM) (u' := uM') (r := 1) (ci := 10) (As := []) (rest := [.int r]) (res := some (.int r)) CM hM hl (ok_X11_stale l (D, tc, aM) uM r uM' h2) cw_L_142 im_X11_stale rfl se_X11_stale rfl rfl rfl ⟨Nat.le_of_ble_eq_true rfl, Nat.le_of_ble_eq_true rfl⟩ hcs rfl rfl (Nat.le_of_ble_eq_true rfl) dL_law_1031 (fun H locs hM hk => ?_)
  have hC := gm_other hd2 hC hM hk
  have hO := gm_other hd4 hO hM hk
  refine lv_icmp_eq (tgt := 1386) hx hb dL_law_1034 (by decide) (fun hc => ?_) (fun hc => ?_)
  · exact K uC' uM' _ _ hC hM hO hR'
  · exact absurd rfl hc
set_option maxRecDepth 100000 in
set_option maxHeartbeats 4000000 in
theorem lc_29 {p : Program} {l : Launch} {e : Env} {s : State} {m : MethodId} {below : List Frame} {meth : Method} {c : Code} {b L : Nat} {xs : Nat → Int32} {D : va_G} {tc : Nat → ClassId} {aC aM aO : Nat → Nat} {A : Nat → Prop} {Q : State → Prop} (Rel Rel' : gm_M → gm_M → Prop) (hL : L ≤ 3584) (C : gm_C p s m meth c #[.ref b] (D, tc, aC) A code 7 RL ret) (hX : va_X b L xs s s.heap) (hbl : b < s.heap.size) (hbA : ¬ A b) (hd1 : gm_dj GC (D, tc, aC) GM (D, tc, aM)) (hd2 : gm_dj GM (D, tc, aM) GC (D, tc, aC)) (hd3 : gm_dj GC (D, tc, aC) GO (D, tc, aO)) (hd4 : gm_dj GM (D, tc, aM) GO (D, tc, aO)) (S : St_say Rel Rel') {uC uM uO : gm_M} {H : Heap} {locs : List Loc} {ls : Array Slot} {cells slots : Nat} (hC : wd GC (D, tc, aC) uC A s.heap H locs) (hM : wd GM (D, tc, aM) uM A s.heap H locs) (hO : wd GO (D, tc, aO) uO A s.heap H locs) (hR : Rel uC uM) (hcs : cells ≤ room_1.cells ∧ slots ≤ room_1.slots) {i : Nat} (hi : i + 7 ≤ L) (hl : lv_has ls 7 [(0, .ref b), (1, .ref (aC 1)), (2, .ref (aM 1)), (3, .ref (aO 1)), (4, .int (nI i))]) (K : ∀ (uC uM : gm_M) (H : Heap) (locs : List Loc), wd GC (D, tc, aC) uC A s.heap H locs → wd GM (D, tc, aM) uM A s.heap H locs → wd GO (D, tc, aO) uO A s.heap H locs → Rel' uC uM → W p l e room_1 s m #[.ref b] below meth c H locs cells slots Q (F0 m 1386 ls [])) : W p l e room_1 s m #[.ref b] below meth c H locs cells slots Q (F0 m 1039 ls []) := by
  obtain ⟨hx, hb, -⟩ := id C
  have CM : gm_C p s m meth c #[.ref b] (D, tc, aM) A code 7 RL ret := C
  refine lv_aload_n hx hb dL_law_1039 rfl (lv_at hl 1 rfl) ?_
  refine lv_aload_n hx hb dL_law_1040 rfl (lv_at hl 0 rfl) ?_
  refine lv_iload hx hb dL_law_1041 (lv_at hl 4 rfl) ?_
  refine lv_iconst (v := 1) hx hb dL_law_1043 (by decide) ?_
  refine lv_iadd hx hb dL_law_1044 ?_
  refine va_sld hx hb hX hbl hbA hC.2.2.1 (lw_in (k := 1) hi hL (by decide)) dL_law_1045 ?_
  refine lv_aload_n hx hb dL_law_1046 rfl (lv_at hl 0 rfl) ?_
  refine lv_iload hx hb dL_law_1047 (lv_at hl 4 rfl) ?_
  refine lv_iconst (v := 2) hx hb dL_law_1049 (by decide) ?_
  refine lv_iadd hx hb dL_law_1050 ?_
  refine va_sld hx hb hX hbl hbA hC.2.2.1 (lw_in (k := 2) hi hL (by decide)) dL_law_1051 ?_
  refine lv_if_eq (tgt := 1059) hx hb dL_law_1052 (by decide) (fun hq => ?_) (fun hq => ?_)
  · skip
    refine lv_iconst (v := 0) hx hb dL_law_1059 (by decide) ?_
    obtain ⟨r, uC', uM', h1, h2, hR'⟩ := S uC uM hR (xs (ix (nI i + (1 : Int32)))) ((0 : Int32)) (by decide)
    refine gm_callL (G := GC) (Z := (D, tc, aC)) (u := uC) (u' := uC') (r := 1) (ci := 9) (As := [.int (xs (ix (nI i + (1 : Int32)))), .int ((0 : Int32))]) (rest := []) (res := some (.int r)) C hC hl (ok_X10_say l (D, tc, aC) (xs (ix (nI i + (1 : Int32)))) ((0 : Int32)) uC r uC' h1) cw_L_143 im_X10_say rfl se_X10_say rfl rfl rfl ⟨Nat.le_of_ble_eq_true rfl, Nat.le_of_ble_eq_true rfl⟩ hcs rfl rfl (Nat.le_of_ble_eq_true rfl) dL_law_1060 (fun H locs hC hk => ?_)
    have hM := gm_other hd1 hM hC hk
    have hO := gm_other hd3 hO hC hk
    refine lv_aload_n hx hb dL_law_1063 rfl (lv_at hl 2 rfl) ?_
    refine lv_aload_n hx hb dL_law_1064 rfl (lv_at hl 0 rfl) ?_
    refine lv_iload hx hb dL_law_1065 (lv_at hl 4 rfl) ?_
    refine lv_iconst (v := 1) hx hb dL_law_1067 (by decide) ?_
    refine lv_iadd hx hb dL_law_1068 ?_
    refine va_sld hx hb hX hbl hbA hC.2.2.1 (lw_in (k := 1) hi hL (by decide)) dL_law_1069 ?_
    refine lv_aload_n hx hb dL_law_1070 rfl (lv_at hl 0 rfl) ?_
    refine lv_iload hx hb dL_law_1071 (lv_at hl 4 rfl) ?_
    refine lv_iconst (v := 2) hx hb dL_law_1073 (by decide) ?_
    refine lv_iadd hx hb dL_law_1074 ?_
    refine va_sld hx hb hX hbl hbA hC.2.2.1 (lw_in (k := 2) hi hL (by decide)) dL_law_1075 ?_
    refine lv_if_eq (tgt := 1083) hx hb dL_law_1076 (by decide) (fun hc => ?_) (fun hc => ?_)
    · skip
      refine lv_iconst (v := 0) hx hb dL_law_1083 (by decide) ?_
      refine gm_callL (G := GM) (Z := (D, tc, aM)) (u := uM) (u' := uM') (r := 1) (ci := 10) (As := [.int (xs (ix (nI i + (1 : Int32)))), .int ((0 : Int32))]) (rest := [.int r]) (res := some (.int r)) CM hM hl (ok_X11_say l (D, tc, aM) (xs (ix (nI i + (1 : Int32)))) ((0 : Int32)) uM r uM' h2) cw_L_147 im_X11_say rfl se_X11_say rfl rfl rfl ⟨Nat.le_of_ble_eq_true rfl, Nat.le_of_ble_eq_true rfl⟩ hcs rfl rfl (Nat.le_of_ble_eq_true rfl) dL_law_1084 (fun H locs hM hk => ?_)
      have hC := gm_other hd2 hC hM hk
      have hO := gm_other hd4 hO hM hk
      refine lv_icmp_eq (tgt := 1386) hx hb dL_law_1087 (by decide) (fun hc => ?_) (fun hc => ?_)
      · exact K uC' uM' _ _ hC hM hO hR'
      · exact absurd rfl hc
    · exact absurd hq hc
  · skip
    refine lv_iconst (v := 1) hx hb dL_law_1055 (by decide) ?_
    refine lv_goto (tgt := 1060) hx hb dL_law_1056 (by decide) ?_
    obtain ⟨r, uC', uM', h1, h2, hR'⟩ := S uC uM hR (xs (ix (nI i + (1 : Int32)))) ((1 : Int32)) (by decide)
    refine gm_callL (G := GC) (Z := (D, tc, aC)) (u := uC) (u' := uC') (r := 1) (ci := 9) (As := [.int (xs (ix (nI i + (1 : Int32)))), .int ((1 : Int32))]) (rest := []) (res := some (.int r)) C hC hl (ok_X10_say l (D, tc, aC) (xs (ix (nI i + (1 : Int32)))) ((1 : Int32)) uC r uC' h1) cw_L_143 im_X10_say rfl se_X10_say rfl rfl rfl ⟨Nat.le_of_ble_eq_true rfl, Nat.le_of_ble_eq_true rfl⟩ hcs rfl rfl (Nat.le_of_ble_eq_true rfl) dL_law_1060 (fun H locs hC hk => ?_)
    have hM := gm_other hd1 hM hC hk
    have hO := gm_other hd3 hO hC hk
    refine lv_aload_n hx hb dL_law_1063 rfl (lv_at hl 2 rfl) ?_
    refine lv_aload_n hx hb dL_law_1064 rfl (lv_at hl 0 rfl) ?_
    refine lv_iload hx hb dL_law_1065 (lv_at hl 4 rfl) ?_
    refine lv_iconst (v := 1) hx hb dL_law_1067 (by decide) ?_
    refine lv_iadd hx hb dL_law_1068 ?_
    refine va_sld hx hb hX hbl hbA hC.2.2.1 (lw_in (k := 1) hi hL (by decide)) dL_law_1069 ?_
    refine lv_aload_n hx hb dL_law_1070 rfl (lv_at hl 0 rfl) ?_
    refine lv_iload hx hb dL_law_1071 (lv_at hl 4 rfl) ?_
    refine lv_iconst (v := 2) hx hb dL_law_1073 (by decide) ?_
    refine lv_iadd hx hb dL_law_1074 ?_
    refine va_sld hx hb hX hbl hbA hC.2.2.1 (lw_in (k := 2) hi hL (by decide)) dL_law_1075 ?_
    refine lv_if_eq (tgt := 1083) hx hb dL_law_1076 (by decide) (fun hc => ?_) (fun hc => ?_)
    · exact absurd hc hq
    · skip
      refine lv_iconst (v := 1) hx hb dL_law_1079 (by decide) ?_
      refine lv_goto (tgt := 1084) hx hb dL_law_1080 (by decide) ?_
      refine gm_callL (G := GM) (Z := (D, tc, aM)) (u := uM) (u' := uM') (r := 1) (ci := 10) (As := [.int (xs (ix (nI i + (1 : Int32)))), .int ((1 : Int32))]) (rest := [.int r]) (res := some (.int r)) CM hM hl (ok_X11_say l (D, tc, aM) (xs (ix (nI i + (1 : Int32)))) ((1 : Int32)) uM r uM' h2) cw_L_147 im_X11_say rfl se_X11_say rfl rfl rfl ⟨Nat.le_of_ble_eq_true rfl, Nat.le_of_ble_eq_true rfl⟩ hcs rfl rfl (Nat.le_of_ble_eq_true rfl) dL_law_1084 (fun H locs hM hk => ?_)
      have hC := gm_other hd2 hC hM hk
      have hO := gm_other hd4 hO hM hk
      refine lv_icmp_eq (tgt := 1386) hx hb dL_law_1087 (by decide) (fun hc => ?_) (fun hc => ?_)
      · exact K uC' uM' _ _ hC hM hO hR'
      · exact absurd rfl hc
set_option maxRecDepth 100000 in
set_option maxHeartbeats 4000000 in
theorem lc_30 {p : Program} {l : Launch} {e : Env} {s : State} {m : MethodId} {below : List Frame} {meth : Method} {c : Code} {b L : Nat} {xs : Nat → Int32} {D : va_G} {tc : Nat → ClassId} {aC aM aO : Nat → Nat} {A : Nat → Prop} {Q : State → Prop} (Rel Rel' : gm_M → gm_M → Prop) (hL : L ≤ 3584) (C : gm_C p s m meth c #[.ref b] (D, tc, aC) A code 7 RL ret) (hX : va_X b L xs s s.heap) (hbl : b < s.heap.size) (hbA : ¬ A b) (hd1 : gm_dj GC (D, tc, aC) GM (D, tc, aM)) (hd2 : gm_dj GM (D, tc, aM) GC (D, tc, aC)) (hd3 : gm_dj GC (D, tc, aC) GO (D, tc, aO)) (hd4 : gm_dj GM (D, tc, aM) GO (D, tc, aO)) (S : St_fits Rel Rel') {uC uM uO : gm_M} {H : Heap} {locs : List Loc} {ls : Array Slot} {cells slots : Nat} (hC : wd GC (D, tc, aC) uC A s.heap H locs) (hM : wd GM (D, tc, aM) uM A s.heap H locs) (hO : wd GO (D, tc, aO) uO A s.heap H locs) (hR : Rel uC uM) (hcs : cells ≤ room_1.cells ∧ slots ≤ room_1.slots) {i : Nat} (hi : i + 7 ≤ L) (hl : lv_has ls 7 [(0, .ref b), (1, .ref (aC 1)), (2, .ref (aM 1)), (3, .ref (aO 1)), (4, .int (nI i))]) (K : ∀ (uC uM : gm_M) (H : Heap) (locs : List Loc), wd GC (D, tc, aC) uC A s.heap H locs → wd GM (D, tc, aM) uM A s.heap H locs → wd GO (D, tc, aO) uO A s.heap H locs → Rel' uC uM → W p l e room_1 s m #[.ref b] below meth c H locs cells slots Q (F0 m 1386 ls [])) : W p l e room_1 s m #[.ref b] below meth c H locs cells slots Q (F0 m 1092 ls []) := by
  obtain ⟨hx, hb, -⟩ := id C
  have CM : gm_C p s m meth c #[.ref b] (D, tc, aM) A code 7 RL ret := C
  refine lv_aload_n hx hb dL_law_1092 rfl (lv_at hl 1 rfl) ?_
  refine lv_aload_n hx hb dL_law_1093 rfl (lv_at hl 0 rfl) ?_
  refine lv_iload hx hb dL_law_1094 (lv_at hl 4 rfl) ?_
  refine lv_iconst (v := 1) hx hb dL_law_1096 (by decide) ?_
  refine lv_iadd hx hb dL_law_1097 ?_
  refine va_sld hx hb hX hbl hbA hC.2.2.1 (lw_in (k := 1) hi hL (by decide)) dL_law_1098 ?_
  obtain ⟨r, uM', h1, h2, hR'⟩ := S uC uM hR (xs (ix (nI i + (1 : Int32))))
  refine gm_callL (G := GC) (Z := (D, tc, aC)) (u := uC) (u' := uC) (r := 1) (ci := 9) (As := [.int (xs (ix (nI i + (1 : Int32))))]) (rest := []) (res := some (.int r)) C hC hl (ok_X10_fits l (D, tc, aC) (xs (ix (nI i + (1 : Int32)))) uC r h1) cw_L_148 im_X10_fits rfl se_X10_fits rfl rfl rfl ⟨Nat.le_of_ble_eq_true rfl, Nat.le_of_ble_eq_true rfl⟩ hcs rfl rfl (Nat.le_of_ble_eq_true rfl) dL_law_1099 (fun H locs hC hk => ?_)
  have hM := gm_other hd1 hM hC hk
  have hO := gm_other hd3 hO hC hk
  refine lv_aload_n hx hb dL_law_1102 rfl (lv_at hl 2 rfl) ?_
  refine lv_aload_n hx hb dL_law_1103 rfl (lv_at hl 0 rfl) ?_
  refine lv_iload hx hb dL_law_1104 (lv_at hl 4 rfl) ?_
  refine lv_iconst (v := 1) hx hb dL_law_1106 (by decide) ?_
  refine lv_iadd hx hb dL_law_1107 ?_
  refine va_sld hx hb hX hbl hbA hC.2.2.1 (lw_in (k := 1) hi hL (by decide)) dL_law_1108 ?_
  refine gm_callL (G := GM) (Z := (D, tc, aM)) (u := uM) (u' := uM') (r := 1) (ci := 10) (As := [.int (xs (ix (nI i + (1 : Int32))))]) (rest := [.int r]) (res := some (.int r)) CM hM hl (ok_X11_fits l (D, tc, aM) (xs (ix (nI i + (1 : Int32)))) uM r uM' h2) cw_L_151 im_X11_fits rfl se_X11_fits rfl rfl rfl ⟨Nat.le_of_ble_eq_true rfl, Nat.le_of_ble_eq_true rfl⟩ hcs rfl rfl (Nat.le_of_ble_eq_true rfl) dL_law_1109 (fun H locs hM hk => ?_)
  have hC := gm_other hd2 hC hM hk
  have hO := gm_other hd4 hO hM hk
  refine lv_icmp_eq (tgt := 1386) hx hb dL_law_1112 (by decide) (fun hc => ?_) (fun hc => ?_)
  · exact K uC uM' _ _ hC hM hO hR'
  · exact absurd rfl hc
set_option maxRecDepth 100000 in
set_option maxHeartbeats 4000000 in
theorem lc_31 {p : Program} {l : Launch} {e : Env} {s : State} {m : MethodId} {below : List Frame} {meth : Method} {c : Code} {b L : Nat} {xs : Nat → Int32} {D : va_G} {tc : Nat → ClassId} {aC aM aO : Nat → Nat} {A : Nat → Prop} {Q : State → Prop} (Rel Rel' : gm_M → gm_M → Prop) (hL : L ≤ 3584) (C : gm_C p s m meth c #[.ref b] (D, tc, aC) A code 7 RL ret) (hX : va_X b L xs s s.heap) (hbl : b < s.heap.size) (hbA : ¬ A b) (hd1 : gm_dj GC (D, tc, aC) GM (D, tc, aM)) (hd2 : gm_dj GM (D, tc, aM) GC (D, tc, aC)) (hd3 : gm_dj GC (D, tc, aC) GO (D, tc, aO)) (hd4 : gm_dj GM (D, tc, aM) GO (D, tc, aO)) (S : St_ask Rel Rel') {uC uM uO : gm_M} {H : Heap} {locs : List Loc} {ls : Array Slot} {cells slots : Nat} (hC : wd GC (D, tc, aC) uC A s.heap H locs) (hM : wd GM (D, tc, aM) uM A s.heap H locs) (hO : wd GO (D, tc, aO) uO A s.heap H locs) (hR : Rel uC uM) (hcs : cells ≤ room_1.cells ∧ slots ≤ room_1.slots) {i : Nat} (hi : i + 7 ≤ L) (hl : lv_has ls 7 [(0, .ref b), (1, .ref (aC 1)), (2, .ref (aM 1)), (3, .ref (aO 1)), (4, .int (nI i))]) (K : ∀ (uC uM : gm_M) (H : Heap) (locs : List Loc), wd GC (D, tc, aC) uC A s.heap H locs → wd GM (D, tc, aM) uM A s.heap H locs → wd GO (D, tc, aO) uO A s.heap H locs → Rel' uC uM → W p l e room_1 s m #[.ref b] below meth c H locs cells slots Q (F0 m 1386 ls [])) : W p l e room_1 s m #[.ref b] below meth c H locs cells slots Q (F0 m 1117 ls []) := by
  obtain ⟨hx, hb, -⟩ := id C
  have CM : gm_C p s m meth c #[.ref b] (D, tc, aM) A code 7 RL ret := C
  refine lv_aload_n hx hb dL_law_1117 rfl (lv_at hl 1 rfl) ?_
  obtain ⟨r, uC', uM', h1, h2, hR'⟩ := S uC uM hR ()
  refine gm_callL (G := GC) (Z := (D, tc, aC)) (u := uC) (u' := uC') (r := 1) (ci := 9) (As := []) (rest := []) (res := some (.int r)) C hC hl (ok_X10_ask l (D, tc, aC) uC r uC' h1) cw_L_152 im_X10_ask rfl se_X10_ask rfl rfl rfl ⟨Nat.le_of_ble_eq_true rfl, Nat.le_of_ble_eq_true rfl⟩ hcs rfl rfl (Nat.le_of_ble_eq_true rfl) dL_law_1118 (fun H locs hC hk => ?_)
  have hM := gm_other hd1 hM hC hk
  have hO := gm_other hd3 hO hC hk
  refine lv_aload_n hx hb dL_law_1121 rfl (lv_at hl 2 rfl) ?_
  refine gm_callL (G := GM) (Z := (D, tc, aM)) (u := uM) (u' := uM') (r := 1) (ci := 10) (As := []) (rest := [.int r]) (res := some (.int r)) CM hM hl (ok_X11_ask l (D, tc, aM) uM r uM' h2) cw_L_155 im_X11_ask rfl se_X11_ask rfl rfl rfl ⟨Nat.le_of_ble_eq_true rfl, Nat.le_of_ble_eq_true rfl⟩ hcs rfl rfl (Nat.le_of_ble_eq_true rfl) dL_law_1122 (fun H locs hM hk => ?_)
  have hC := gm_other hd2 hC hM hk
  have hO := gm_other hd4 hO hM hk
  refine lv_icmp_eq (tgt := 1386) hx hb dL_law_1125 (by decide) (fun hc => ?_) (fun hc => ?_)
  · exact K uC' uM' _ _ hC hM hO hR'
  · exact absurd rfl hc
set_option maxRecDepth 100000 in
set_option maxHeartbeats 4000000 in
theorem lc_32 {p : Program} {l : Launch} {e : Env} {s : State} {m : MethodId} {below : List Frame} {meth : Method} {c : Code} {b L : Nat} {xs : Nat → Int32} {D : va_G} {tc : Nat → ClassId} {aC aM aO : Nat → Nat} {A : Nat → Prop} {Q : State → Prop} (Rel Rel' : gm_M → gm_M → Prop) (hL : L ≤ 3584) (C : gm_C p s m meth c #[.ref b] (D, tc, aC) A code 7 RL ret) (hX : va_X b L xs s s.heap) (hbl : b < s.heap.size) (hbA : ¬ A b) (hd1 : gm_dj GC (D, tc, aC) GM (D, tc, aM)) (hd2 : gm_dj GM (D, tc, aM) GC (D, tc, aC)) (hd3 : gm_dj GC (D, tc, aC) GO (D, tc, aO)) (hd4 : gm_dj GM (D, tc, aM) GO (D, tc, aO)) (S : St_chance Rel Rel') {uC uM uO : gm_M} {H : Heap} {locs : List Loc} {ls : Array Slot} {cells slots : Nat} (hC : wd GC (D, tc, aC) uC A s.heap H locs) (hM : wd GM (D, tc, aM) uM A s.heap H locs) (hO : wd GO (D, tc, aO) uO A s.heap H locs) (hR : Rel uC uM) (hcs : cells ≤ room_1.cells ∧ slots ≤ room_1.slots) {i : Nat} (hi : i + 7 ≤ L) (hl : lv_has ls 7 [(0, .ref b), (1, .ref (aC 1)), (2, .ref (aM 1)), (3, .ref (aO 1)), (4, .int (nI i))]) (K : ∀ (uC uM : gm_M) (H : Heap) (locs : List Loc), wd GC (D, tc, aC) uC A s.heap H locs → wd GM (D, tc, aM) uM A s.heap H locs → wd GO (D, tc, aO) uO A s.heap H locs → Rel' uC uM → W p l e room_1 s m #[.ref b] below meth c H locs cells slots Q (F0 m 1386 ls [])) : W p l e room_1 s m #[.ref b] below meth c H locs cells slots Q (F0 m 1130 ls []) := by
  obtain ⟨hx, hb, -⟩ := id C
  have CM : gm_C p s m meth c #[.ref b] (D, tc, aM) A code 7 RL ret := C
  refine lv_aload_n hx hb dL_law_1130 rfl (lv_at hl 1 rfl) ?_
  refine lv_aload_n hx hb dL_law_1131 rfl (lv_at hl 0 rfl) ?_
  refine lv_iload hx hb dL_law_1132 (lv_at hl 4 rfl) ?_
  refine lv_iconst (v := 1) hx hb dL_law_1134 (by decide) ?_
  refine lv_iadd hx hb dL_law_1135 ?_
  refine va_sld hx hb hX hbl hbA hC.2.2.1 (lw_in (k := 1) hi hL (by decide)) dL_law_1136 ?_
  refine lv_aload_n hx hb dL_law_1137 rfl (lv_at hl 0 rfl) ?_
  refine lv_iload hx hb dL_law_1138 (lv_at hl 4 rfl) ?_
  refine lv_iconst (v := 2) hx hb dL_law_1140 (by decide) ?_
  refine lv_iadd hx hb dL_law_1141 ?_
  refine va_sld hx hb hX hbl hbA hC.2.2.1 (lw_in (k := 2) hi hL (by decide)) dL_law_1142 ?_
  obtain ⟨r, uC', uM', h1, h2, hR'⟩ := S uC uM hR (xs (ix (nI i + (1 : Int32)))) (xs (ix (nI i + (2 : Int32))))
  refine gm_callL (G := GC) (Z := (D, tc, aC)) (u := uC) (u' := uC') (r := 1) (ci := 9) (As := [.int (xs (ix (nI i + (1 : Int32)))), .int (xs (ix (nI i + (2 : Int32))))]) (rest := []) (res := some (.int r)) C hC hl (ok_X10_chance l (D, tc, aC) (xs (ix (nI i + (1 : Int32)))) (xs (ix (nI i + (2 : Int32)))) uC r uC' h1) cw_L_156 im_X10_chance rfl se_X10_chance rfl rfl rfl ⟨Nat.le_of_ble_eq_true rfl, Nat.le_of_ble_eq_true rfl⟩ hcs rfl rfl (Nat.le_of_ble_eq_true rfl) dL_law_1143 (fun H locs hC hk => ?_)
  have hM := gm_other hd1 hM hC hk
  have hO := gm_other hd3 hO hC hk
  refine lv_aload_n hx hb dL_law_1146 rfl (lv_at hl 2 rfl) ?_
  refine lv_aload_n hx hb dL_law_1147 rfl (lv_at hl 0 rfl) ?_
  refine lv_iload hx hb dL_law_1148 (lv_at hl 4 rfl) ?_
  refine lv_iconst (v := 1) hx hb dL_law_1150 (by decide) ?_
  refine lv_iadd hx hb dL_law_1151 ?_
  refine va_sld hx hb hX hbl hbA hC.2.2.1 (lw_in (k := 1) hi hL (by decide)) dL_law_1152 ?_
  refine lv_aload_n hx hb dL_law_1153 rfl (lv_at hl 0 rfl) ?_
  refine lv_iload hx hb dL_law_1154 (lv_at hl 4 rfl) ?_
  refine lv_iconst (v := 2) hx hb dL_law_1156 (by decide) ?_
  refine lv_iadd hx hb dL_law_1157 ?_
  refine va_sld hx hb hX hbl hbA hC.2.2.1 (lw_in (k := 2) hi hL (by decide)) dL_law_1158 ?_
  refine gm_callL (G := GM) (Z := (D, tc, aM)) (u := uM) (u' := uM') (r := 1) (ci := 10) (As := [.int (xs (ix (nI i + (1 : Int32)))), .int (xs (ix (nI i + (2 : Int32))))]) (rest := [.int r]) (res := some (.int r)) CM hM hl (ok_X11_chance l (D, tc, aM) (xs (ix (nI i + (1 : Int32)))) (xs (ix (nI i + (2 : Int32)))) uM r uM' h2) cw_L_159 im_X11_chance rfl se_X11_chance rfl rfl rfl ⟨Nat.le_of_ble_eq_true rfl, Nat.le_of_ble_eq_true rfl⟩ hcs rfl rfl (Nat.le_of_ble_eq_true rfl) dL_law_1159 (fun H locs hM hk => ?_)
  have hC := gm_other hd2 hC hM hk
  have hO := gm_other hd4 hO hM hk
  refine lv_icmp_eq (tgt := 1386) hx hb dL_law_1162 (by decide) (fun hc => ?_) (fun hc => ?_)
  · exact K uC' uM' _ _ hC hM hO hR'
  · exact absurd rfl hc
set_option maxRecDepth 100000 in
set_option maxHeartbeats 4000000 in
theorem lc_34 {p : Program} {l : Launch} {e : Env} {s : State} {m : MethodId} {below : List Frame} {meth : Method} {c : Code} {b L : Nat} {xs : Nat → Int32} {D : va_G} {tc : Nat → ClassId} {aC aM aO : Nat → Nat} {A : Nat → Prop} {Q : State → Prop} (Rel Rel' : gm_M → gm_M → Prop) (hL : L ≤ 3584) (C : gm_C p s m meth c #[.ref b] (D, tc, aC) A code 7 RL ret) (hX : va_X b L xs s s.heap) (hbl : b < s.heap.size) (hbA : ¬ A b) (hd1 : gm_dj GC (D, tc, aC) GM (D, tc, aM)) (hd2 : gm_dj GM (D, tc, aM) GC (D, tc, aC)) (hd3 : gm_dj GC (D, tc, aC) GO (D, tc, aO)) (hd4 : gm_dj GM (D, tc, aM) GO (D, tc, aO)) (S : St_ages Rel Rel') {uC uM uO : gm_M} {H : Heap} {locs : List Loc} {ls : Array Slot} {cells slots : Nat} (hC : wd GC (D, tc, aC) uC A s.heap H locs) (hM : wd GM (D, tc, aM) uM A s.heap H locs) (hO : wd GO (D, tc, aO) uO A s.heap H locs) (hR : Rel uC uM) (hcs : cells ≤ room_1.cells ∧ slots ≤ room_1.slots) {i : Nat} (hi : i + 7 ≤ L) (hl : lv_has ls 7 [(0, .ref b), (1, .ref (aC 1)), (2, .ref (aM 1)), (3, .ref (aO 1)), (4, .int (nI i))]) (K : ∀ (uC uM : gm_M) (H : Heap) (locs : List Loc), wd GC (D, tc, aC) uC A s.heap H locs → wd GM (D, tc, aM) uM A s.heap H locs → wd GO (D, tc, aO) uO A s.heap H locs → Rel' uC uM → W p l e room_1 s m #[.ref b] below meth c H locs cells slots Q (F0 m 1386 ls [])) : W p l e room_1 s m #[.ref b] below meth c H locs cells slots Q (F0 m 1259 ls []) := by
  obtain ⟨hx, hb, -⟩ := id C
  have CM : gm_C p s m meth c #[.ref b] (D, tc, aM) A code 7 RL ret := C
  refine lv_aload_n hx hb dL_law_1259 rfl (lv_at hl 1 rfl) ?_
  refine lv_aload_n hx hb dL_law_1260 rfl (lv_at hl 0 rfl) ?_
  refine lv_iload hx hb dL_law_1261 (lv_at hl 4 rfl) ?_
  refine lv_iconst (v := 1) hx hb dL_law_1263 (by decide) ?_
  refine lv_iadd hx hb dL_law_1264 ?_
  refine va_sld hx hb hX hbl hbA hC.2.2.1 (lw_in (k := 1) hi hL (by decide)) dL_law_1265 ?_
  refine lv_aload_n hx hb dL_law_1266 rfl (lv_at hl 0 rfl) ?_
  refine lv_iload hx hb dL_law_1267 (lv_at hl 4 rfl) ?_
  refine lv_iconst (v := 2) hx hb dL_law_1269 (by decide) ?_
  refine lv_iadd hx hb dL_law_1270 ?_
  refine va_sld hx hb hX hbl hbA hC.2.2.1 (lw_in (k := 2) hi hL (by decide)) dL_law_1271 ?_
  refine lv_aload_n hx hb dL_law_1272 rfl (lv_at hl 0 rfl) ?_
  refine lv_iload hx hb dL_law_1273 (lv_at hl 4 rfl) ?_
  refine lv_iconst (v := 3) hx hb dL_law_1275 (by decide) ?_
  refine lv_iadd hx hb dL_law_1276 ?_
  refine va_sld hx hb hX hbl hbA hC.2.2.1 (lw_in (k := 3) hi hL (by decide)) dL_law_1277 ?_
  obtain ⟨r, uC', uM', h1, h2, hR'⟩ := S uC uM hR (xs (ix (nI i + (1 : Int32)))) (xs (ix (nI i + (2 : Int32)))) (xs (ix (nI i + (3 : Int32))))
  refine gm_callL (G := GC) (Z := (D, tc, aC)) (u := uC) (u' := uC') (r := 1) (ci := 9) (As := [.int (xs (ix (nI i + (1 : Int32)))), .int (xs (ix (nI i + (2 : Int32)))), .int (xs (ix (nI i + (3 : Int32))))]) (rest := []) (res := some (.int r)) C hC hl (ok_X10_ages l (D, tc, aC) (xs (ix (nI i + (1 : Int32)))) (xs (ix (nI i + (2 : Int32)))) (xs (ix (nI i + (3 : Int32)))) uC r uC' h1) cw_L_169 im_X10_ages rfl se_X10_ages rfl rfl rfl ⟨Nat.le_of_ble_eq_true rfl, Nat.le_of_ble_eq_true rfl⟩ hcs rfl rfl (Nat.le_of_ble_eq_true rfl) dL_law_1278 (fun H locs hC hk => ?_)
  have hM := gm_other hd1 hM hC hk
  have hO := gm_other hd3 hO hC hk
  refine lv_aload_n hx hb dL_law_1281 rfl (lv_at hl 2 rfl) ?_
  refine lv_aload_n hx hb dL_law_1282 rfl (lv_at hl 0 rfl) ?_
  refine lv_iload hx hb dL_law_1283 (lv_at hl 4 rfl) ?_
  refine lv_iconst (v := 1) hx hb dL_law_1285 (by decide) ?_
  refine lv_iadd hx hb dL_law_1286 ?_
  refine va_sld hx hb hX hbl hbA hC.2.2.1 (lw_in (k := 1) hi hL (by decide)) dL_law_1287 ?_
  refine lv_aload_n hx hb dL_law_1288 rfl (lv_at hl 0 rfl) ?_
  refine lv_iload hx hb dL_law_1289 (lv_at hl 4 rfl) ?_
  refine lv_iconst (v := 2) hx hb dL_law_1291 (by decide) ?_
  refine lv_iadd hx hb dL_law_1292 ?_
  refine va_sld hx hb hX hbl hbA hC.2.2.1 (lw_in (k := 2) hi hL (by decide)) dL_law_1293 ?_
  refine lv_aload_n hx hb dL_law_1294 rfl (lv_at hl 0 rfl) ?_
  refine lv_iload hx hb dL_law_1295 (lv_at hl 4 rfl) ?_
  refine lv_iconst (v := 3) hx hb dL_law_1297 (by decide) ?_
  refine lv_iadd hx hb dL_law_1298 ?_
  refine va_sld hx hb hX hbl hbA hC.2.2.1 (lw_in (k := 3) hi hL (by decide)) dL_law_1299 ?_
  refine gm_callL (G := GM) (Z := (D, tc, aM)) (u := uM) (u' := uM') (r := 1) (ci := 10) (As := [.int (xs (ix (nI i + (1 : Int32)))), .int (xs (ix (nI i + (2 : Int32)))), .int (xs (ix (nI i + (3 : Int32))))]) (rest := [.int r]) (res := some (.int r)) CM hM hl (ok_X11_ages l (D, tc, aM) (xs (ix (nI i + (1 : Int32)))) (xs (ix (nI i + (2 : Int32)))) (xs (ix (nI i + (3 : Int32)))) uM r uM' h2) cw_L_173 im_X11_ages rfl se_X11_ages rfl rfl rfl ⟨Nat.le_of_ble_eq_true rfl, Nat.le_of_ble_eq_true rfl⟩ hcs rfl rfl (Nat.le_of_ble_eq_true rfl) dL_law_1300 (fun H locs hM hk => ?_)
  have hC := gm_other hd2 hC hM hk
  have hO := gm_other hd4 hO hM hk
  refine lv_icmp_eq (tgt := 1386) hx hb dL_law_1303 (by decide) (fun hc => ?_) (fun hc => ?_)
  · exact K uC' uM' _ _ hC hM hO hR'
  · exact absurd rfl hc
set_option maxRecDepth 100000 in
set_option maxHeartbeats 4000000 in
theorem lc_35 {p : Program} {l : Launch} {e : Env} {s : State} {m : MethodId} {below : List Frame} {meth : Method} {c : Code} {b L : Nat} {xs : Nat → Int32} {D : va_G} {tc : Nat → ClassId} {aC aM aO : Nat → Nat} {A : Nat → Prop} {Q : State → Prop} (Rel Rel' : gm_M → gm_M → Prop) (hL : L ≤ 3584) (C : gm_C p s m meth c #[.ref b] (D, tc, aC) A code 7 RL ret) (hX : va_X b L xs s s.heap) (hbl : b < s.heap.size) (hbA : ¬ A b) (hd1 : gm_dj GC (D, tc, aC) GM (D, tc, aM)) (hd2 : gm_dj GM (D, tc, aM) GC (D, tc, aC)) (hd3 : gm_dj GC (D, tc, aC) GO (D, tc, aO)) (hd4 : gm_dj GM (D, tc, aM) GO (D, tc, aO)) (S : St_mark Rel Rel') {uC uM uO : gm_M} {H : Heap} {locs : List Loc} {ls : Array Slot} {cells slots : Nat} (hC : wd GC (D, tc, aC) uC A s.heap H locs) (hM : wd GM (D, tc, aM) uM A s.heap H locs) (hO : wd GO (D, tc, aO) uO A s.heap H locs) (hR : Rel uC uM) (hcs : cells ≤ room_1.cells ∧ slots ≤ room_1.slots) {i : Nat} (hi : i + 7 ≤ L) (hl : lv_has ls 7 [(0, .ref b), (1, .ref (aC 1)), (2, .ref (aM 1)), (3, .ref (aO 1)), (4, .int (nI i))]) (K : ∀ (uC uM : gm_M) (H : Heap) (locs : List Loc), wd GC (D, tc, aC) uC A s.heap H locs → wd GM (D, tc, aM) uM A s.heap H locs → wd GO (D, tc, aO) uO A s.heap H locs → Rel' uC uM → W p l e room_1 s m #[.ref b] below meth c H locs cells slots Q (F0 m 1386 ls [])) : W p l e room_1 s m #[.ref b] below meth c H locs cells slots Q (F0 m 1308 ls []) := by
  obtain ⟨hx, hb, -⟩ := id C
  have CM : gm_C p s m meth c #[.ref b] (D, tc, aM) A code 7 RL ret := C
  refine lv_aload_n hx hb dL_law_1308 rfl (lv_at hl 1 rfl) ?_
  refine lv_aload_n hx hb dL_law_1309 rfl (lv_at hl 0 rfl) ?_
  refine lv_iload hx hb dL_law_1310 (lv_at hl 4 rfl) ?_
  refine lv_iconst (v := 1) hx hb dL_law_1312 (by decide) ?_
  refine lv_iadd hx hb dL_law_1313 ?_
  refine va_sld hx hb hX hbl hbA hC.2.2.1 (lw_in (k := 1) hi hL (by decide)) dL_law_1314 ?_
  refine lv_aload_n hx hb dL_law_1315 rfl (lv_at hl 0 rfl) ?_
  refine lv_iload hx hb dL_law_1316 (lv_at hl 4 rfl) ?_
  refine lv_iconst (v := 2) hx hb dL_law_1318 (by decide) ?_
  refine lv_iadd hx hb dL_law_1319 ?_
  refine va_sld hx hb hX hbl hbA hC.2.2.1 (lw_in (k := 2) hi hL (by decide)) dL_law_1320 ?_
  refine lv_if_eq (tgt := 1328) hx hb dL_law_1321 (by decide) (fun hq => ?_) (fun hq => ?_)
  · skip
    refine lv_iconst (v := 0) hx hb dL_law_1328 (by decide) ?_
    obtain ⟨r, uC', uM', h1, h2, hR'⟩ := S uC uM hR (xs (ix (nI i + (1 : Int32)))) ((0 : Int32)) (by decide)
    refine gm_callL (G := GC) (Z := (D, tc, aC)) (u := uC) (u' := uC') (r := 1) (ci := 9) (As := [.int (xs (ix (nI i + (1 : Int32)))), .int ((0 : Int32))]) (rest := []) (res := some (.int r)) C hC hl (ok_X10_mark l (D, tc, aC) (xs (ix (nI i + (1 : Int32)))) ((0 : Int32)) uC r uC' h1) cw_L_174 im_X10_mark rfl se_X10_mark rfl rfl rfl ⟨Nat.le_of_ble_eq_true rfl, Nat.le_of_ble_eq_true rfl⟩ hcs rfl rfl (Nat.le_of_ble_eq_true rfl) dL_law_1329 (fun H locs hC hk => ?_)
    have hM := gm_other hd1 hM hC hk
    have hO := gm_other hd3 hO hC hk
    refine lv_aload_n hx hb dL_law_1332 rfl (lv_at hl 2 rfl) ?_
    refine lv_aload_n hx hb dL_law_1333 rfl (lv_at hl 0 rfl) ?_
    refine lv_iload hx hb dL_law_1334 (lv_at hl 4 rfl) ?_
    refine lv_iconst (v := 1) hx hb dL_law_1336 (by decide) ?_
    refine lv_iadd hx hb dL_law_1337 ?_
    refine va_sld hx hb hX hbl hbA hC.2.2.1 (lw_in (k := 1) hi hL (by decide)) dL_law_1338 ?_
    refine lv_aload_n hx hb dL_law_1339 rfl (lv_at hl 0 rfl) ?_
    refine lv_iload hx hb dL_law_1340 (lv_at hl 4 rfl) ?_
    refine lv_iconst (v := 2) hx hb dL_law_1342 (by decide) ?_
    refine lv_iadd hx hb dL_law_1343 ?_
    refine va_sld hx hb hX hbl hbA hC.2.2.1 (lw_in (k := 2) hi hL (by decide)) dL_law_1344 ?_
    refine lv_if_eq (tgt := 1352) hx hb dL_law_1345 (by decide) (fun hc => ?_) (fun hc => ?_)
    · skip
      refine lv_iconst (v := 0) hx hb dL_law_1352 (by decide) ?_
      refine gm_callL (G := GM) (Z := (D, tc, aM)) (u := uM) (u' := uM') (r := 1) (ci := 10) (As := [.int (xs (ix (nI i + (1 : Int32)))), .int ((0 : Int32))]) (rest := [.int r]) (res := some (.int r)) CM hM hl (ok_X11_mark l (D, tc, aM) (xs (ix (nI i + (1 : Int32)))) ((0 : Int32)) uM r uM' h2) cw_L_177 im_X11_mark rfl se_X11_mark rfl rfl rfl ⟨Nat.le_of_ble_eq_true rfl, Nat.le_of_ble_eq_true rfl⟩ hcs rfl rfl (Nat.le_of_ble_eq_true rfl) dL_law_1353 (fun H locs hM hk => ?_)
      have hC := gm_other hd2 hC hM hk
      have hO := gm_other hd4 hO hM hk
      refine lv_icmp_eq (tgt := 1386) hx hb dL_law_1356 (by decide) (fun hc => ?_) (fun hc => ?_)
      · exact K uC' uM' _ _ hC hM hO hR'
      · exact absurd rfl hc
    · exact absurd hq hc
  · skip
    refine lv_iconst (v := 1) hx hb dL_law_1324 (by decide) ?_
    refine lv_goto (tgt := 1329) hx hb dL_law_1325 (by decide) ?_
    obtain ⟨r, uC', uM', h1, h2, hR'⟩ := S uC uM hR (xs (ix (nI i + (1 : Int32)))) ((1 : Int32)) (by decide)
    refine gm_callL (G := GC) (Z := (D, tc, aC)) (u := uC) (u' := uC') (r := 1) (ci := 9) (As := [.int (xs (ix (nI i + (1 : Int32)))), .int ((1 : Int32))]) (rest := []) (res := some (.int r)) C hC hl (ok_X10_mark l (D, tc, aC) (xs (ix (nI i + (1 : Int32)))) ((1 : Int32)) uC r uC' h1) cw_L_174 im_X10_mark rfl se_X10_mark rfl rfl rfl ⟨Nat.le_of_ble_eq_true rfl, Nat.le_of_ble_eq_true rfl⟩ hcs rfl rfl (Nat.le_of_ble_eq_true rfl) dL_law_1329 (fun H locs hC hk => ?_)
    have hM := gm_other hd1 hM hC hk
    have hO := gm_other hd3 hO hC hk
    refine lv_aload_n hx hb dL_law_1332 rfl (lv_at hl 2 rfl) ?_
    refine lv_aload_n hx hb dL_law_1333 rfl (lv_at hl 0 rfl) ?_
    refine lv_iload hx hb dL_law_1334 (lv_at hl 4 rfl) ?_
    refine lv_iconst (v := 1) hx hb dL_law_1336 (by decide) ?_
    refine lv_iadd hx hb dL_law_1337 ?_
    refine va_sld hx hb hX hbl hbA hC.2.2.1 (lw_in (k := 1) hi hL (by decide)) dL_law_1338 ?_
    refine lv_aload_n hx hb dL_law_1339 rfl (lv_at hl 0 rfl) ?_
    refine lv_iload hx hb dL_law_1340 (lv_at hl 4 rfl) ?_
    refine lv_iconst (v := 2) hx hb dL_law_1342 (by decide) ?_
    refine lv_iadd hx hb dL_law_1343 ?_
    refine va_sld hx hb hX hbl hbA hC.2.2.1 (lw_in (k := 2) hi hL (by decide)) dL_law_1344 ?_
    refine lv_if_eq (tgt := 1352) hx hb dL_law_1345 (by decide) (fun hc => ?_) (fun hc => ?_)
    · exact absurd hc hq
    · skip
      refine lv_iconst (v := 1) hx hb dL_law_1348 (by decide) ?_
      refine lv_goto (tgt := 1353) hx hb dL_law_1349 (by decide) ?_
      refine gm_callL (G := GM) (Z := (D, tc, aM)) (u := uM) (u' := uM') (r := 1) (ci := 10) (As := [.int (xs (ix (nI i + (1 : Int32)))), .int ((1 : Int32))]) (rest := [.int r]) (res := some (.int r)) CM hM hl (ok_X11_mark l (D, tc, aM) (xs (ix (nI i + (1 : Int32)))) ((1 : Int32)) uM r uM' h2) cw_L_177 im_X11_mark rfl se_X11_mark rfl rfl rfl ⟨Nat.le_of_ble_eq_true rfl, Nat.le_of_ble_eq_true rfl⟩ hcs rfl rfl (Nat.le_of_ble_eq_true rfl) dL_law_1353 (fun H locs hM hk => ?_)
      have hC := gm_other hd2 hC hM hk
      have hO := gm_other hd4 hO hM hk
      refine lv_icmp_eq (tgt := 1386) hx hb dL_law_1356 (by decide) (fun hc => ?_) (fun hc => ?_)
      · exact K uC' uM' _ _ hC hM hO hR'
      · exact absurd rfl hc
set_option maxRecDepth 100000 in
set_option maxHeartbeats 4000000 in
theorem lc_36 {p : Program} {l : Launch} {e : Env} {s : State} {m : MethodId} {below : List Frame} {meth : Method} {c : Code} {b L : Nat} {xs : Nat → Int32} {D : va_G} {tc : Nat → ClassId} {aC aM aO : Nat → Nat} {A : Nat → Prop} {Q : State → Prop} (Rel Rel' : gm_M → gm_M → Prop) (hL : L ≤ 3584) (C : gm_C p s m meth c #[.ref b] (D, tc, aC) A code 7 RL ret) (hX : va_X b L xs s s.heap) (hbl : b < s.heap.size) (hbA : ¬ A b) (hd1 : gm_dj GC (D, tc, aC) GM (D, tc, aM)) (hd2 : gm_dj GM (D, tc, aM) GC (D, tc, aC)) (hd3 : gm_dj GC (D, tc, aC) GO (D, tc, aO)) (hd4 : gm_dj GM (D, tc, aM) GO (D, tc, aO)) (S : St_count Rel Rel') {uC uM uO : gm_M} {H : Heap} {locs : List Loc} {ls : Array Slot} {cells slots : Nat} (hC : wd GC (D, tc, aC) uC A s.heap H locs) (hM : wd GM (D, tc, aM) uM A s.heap H locs) (hO : wd GO (D, tc, aO) uO A s.heap H locs) (hR : Rel uC uM) (hcs : cells ≤ room_1.cells ∧ slots ≤ room_1.slots) {i : Nat} (hi : i + 7 ≤ L) (hl : lv_has ls 7 [(0, .ref b), (1, .ref (aC 1)), (2, .ref (aM 1)), (3, .ref (aO 1)), (4, .int (nI i))]) (K : ∀ (uC uM : gm_M) (H : Heap) (locs : List Loc), wd GC (D, tc, aC) uC A s.heap H locs → wd GM (D, tc, aM) uM A s.heap H locs → wd GO (D, tc, aO) uO A s.heap H locs → Rel' uC uM → W p l e room_1 s m #[.ref b] below meth c H locs cells slots Q (F0 m 1386 ls [])) : W p l e room_1 s m #[.ref b] below meth c H locs cells slots Q (F0 m 1361 ls []) := by
  obtain ⟨hx, hb, -⟩ := id C
  have CM : gm_C p s m meth c #[.ref b] (D, tc, aM) A code 7 RL ret := C
  refine lv_aload_n hx hb dL_law_1361 rfl (lv_at hl 1 rfl) ?_
  refine lv_aload_n hx hb dL_law_1362 rfl (lv_at hl 0 rfl) ?_
  refine lv_iload hx hb dL_law_1363 (lv_at hl 4 rfl) ?_
  refine lv_iconst (v := 1) hx hb dL_law_1365 (by decide) ?_
  refine lv_iadd hx hb dL_law_1366 ?_
  refine va_sld hx hb hX hbl hbA hC.2.2.1 (lw_in (k := 1) hi hL (by decide)) dL_law_1367 ?_
  obtain ⟨r, uM', h1, h2, hR'⟩ := S uC uM hR (xs (ix (nI i + (1 : Int32))))
  refine gm_callL (G := GC) (Z := (D, tc, aC)) (u := uC) (u' := uC) (r := 1) (ci := 9) (As := [.int (xs (ix (nI i + (1 : Int32))))]) (rest := []) (res := some (.int r)) C hC hl (ok_X10_count l (D, tc, aC) (xs (ix (nI i + (1 : Int32)))) uC r h1) cw_L_178 im_X10_count rfl se_X10_count rfl rfl rfl ⟨Nat.le_of_ble_eq_true rfl, Nat.le_of_ble_eq_true rfl⟩ hcs rfl rfl (Nat.le_of_ble_eq_true rfl) dL_law_1368 (fun H locs hC hk => ?_)
  have hM := gm_other hd1 hM hC hk
  have hO := gm_other hd3 hO hC hk
  refine lv_aload_n hx hb dL_law_1371 rfl (lv_at hl 2 rfl) ?_
  refine lv_aload_n hx hb dL_law_1372 rfl (lv_at hl 0 rfl) ?_
  refine lv_iload hx hb dL_law_1373 (lv_at hl 4 rfl) ?_
  refine lv_iconst (v := 1) hx hb dL_law_1375 (by decide) ?_
  refine lv_iadd hx hb dL_law_1376 ?_
  refine va_sld hx hb hX hbl hbA hC.2.2.1 (lw_in (k := 1) hi hL (by decide)) dL_law_1377 ?_
  refine gm_callL (G := GM) (Z := (D, tc, aM)) (u := uM) (u' := uM') (r := 1) (ci := 10) (As := [.int (xs (ix (nI i + (1 : Int32))))]) (rest := [.int r]) (res := some (.int r)) CM hM hl (ok_X11_count l (D, tc, aM) (xs (ix (nI i + (1 : Int32)))) uM r uM' h2) cw_L_181 im_X11_count rfl se_X11_count rfl rfl rfl ⟨Nat.le_of_ble_eq_true rfl, Nat.le_of_ble_eq_true rfl⟩ hcs rfl rfl (Nat.le_of_ble_eq_true rfl) dL_law_1378 (fun H locs hM hk => ?_)
  have hC := gm_other hd2 hC hM hk
  have hO := gm_other hd4 hO hM hk
  refine lv_icmp_eq (tgt := 1386) hx hb dL_law_1381 (by decide) (fun hc => ?_) (fun hc => ?_)
  · exact K uC uM' _ _ hC hM hO hR'
  · exact absurd rfl hc
