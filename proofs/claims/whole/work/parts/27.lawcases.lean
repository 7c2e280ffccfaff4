/-! ===== the law, case by case ===== -/
section LAWC
variable {p : Program} {l : Launch} {e : Env} {s : State} {m : MethodId} {below : List Frame} {meth : Method} {c : Code} {b L : Nat} {xs : Nat → Int32} {D : va_G} {κ : Nat → ClassId} {a bb : Nat → Nat} {o1 o2 : Nat} {Q : State → Prop}
variable {H : Heap} {locs : List Loc} {cells slots : Nat} {ls : Array Slot} {v : VS} {u k : Nat} {w : Nat → Int64} {wd : Nat → UInt64}
set_option maxHeartbeats 4000000 in
theorem law_c0 (C : LC_ p l s m c b L xs D κ a bb o1 o2) (hH : LH_ s D κ a bb o1 o2 v u v w wd H locs) (hi : iv_ v) (hk : 4 * k + 4 ≤ L) (hc : cells + 1 ≤ room_1.cells ∧ slots + 6 ≤ room_1.slots) (hl : lv_has ls 9 (lb_k b a bb o1 o2 k)) (N : LN_ p l e s m below meth c b D κ a bb o1 o2 k (cells + 1) (slots + 6) Q) : W p l e room_1 s m (lg1_ b) below meth c H locs cells slots Q (F0 m 200 ls []) := by
  have hx := C.1.1
  have hb := C.1.2.1
  obtain ⟨⟨hxf, hmf, h1f, h2f⟩, n1, n2, n3, n4, n5, n6, hap, hbp⟩ := C.2.2.2.2.2.2.2
  obtain ⟨cd, r, rb, v2, hcd, hP1, hP2, hr, hi2⟩ := op_addCoin l C.2.2.2.2.2.1 D κ a bb v hi hap hbp o1 n1 w u (xs (4 * k + 1))
  refine lv_aload_n hx hb dL_law_200 rfl (lv_at hl 1 rfl) ?_
  refine lv_aload_n hx hb dL_law_201 rfl (lv_at hl 0 rfl) ?_
  refine lv_iload hx hb dL_law_202 (lv_at hl 5 rfl) ?_
  refine lv_iconst (v := nI 1) hx hb dL_law_204 (by decide) ?_
  refine nv_iadd (r := 4 * k + 1) hx hb dL_law_205 rfl ?_
  refine lr_sld (j := 4 * k + 1) C hH (by omega) dL_law_206 ?_
  refine lv_aload_n hx hb dL_law_207 rfl (lv_at hl 3 rfl) ?_
  refine lr_help (As := [.ref (a 0), .int (xs (4 * k + 1)), .ref o1]) C hH hP1 g_L_104 n_L_addCoin ⟨Nat.le_of_ble_eq_true rfl, Nat.le_of_ble_eq_true rfl⟩ rfl hl.1 rfl dL_law_208 hc (fun H locs w hH hw => ?_)
  refine lv_istore (lv' := (6, .int (nI cd)) :: lb_k b a bb o1 o2 k) hx hb dL_law_211 hl (by decide) rfl (fun ls hl => ?_)
  refine lv_aload_n hx hb dL_law_213 rfl (lv_at hl 3 rfl) ?_
  refine lv_aload_n hx hb dL_law_214 rfl (lv_at hl 1 rfl) ?_
  refine lv_iload hx hb dL_law_215 (lv_at hl 6 rfl) ?_
  refine lv_iconst (v := nI 1) hx hb dL_law_217 (by decide) ?_
  refine nv_iadd (r := 4 * k + 1) hx hb dL_law_218 rfl ?_
  refine lr_sld (j := 4 * k + 1) C hH (by omega) dL_law_219 ?_
  refine lr_mod (cd := cd) (rest := []) (As := [.int (xs (4 * k + 1))]) C hH hP2 g_L_109 n_X1_addCoin ⟨Nat.le_of_ble_eq_true rfl, Nat.le_of_ble_eq_true rfl⟩ rfl hl.1 rfl (Nat.zero_le _) dL_law_220 hc (fun H locs hH => ?_)
  exact law_tI C hH hi2 hc hl hcd hw hr N dL_law_223 dL_law_225 dL_law_226 dL_law_229 dL_law_231 dL_law_236 dL_law_238 dL_law_241 dL_law_242 dL_law_243 dL_law_244 dL_law_246 dL_law_247 dL_law_248 dL_law_253 (by decide)
set_option maxHeartbeats 4000000 in
theorem law_c1 (C : LC_ p l s m c b L xs D κ a bb o1 o2) (hH : LH_ s D κ a bb o1 o2 v u v w wd H locs) (hi : iv_ v) (hk : 4 * k + 4 ≤ L) (hc : cells + 1 ≤ room_1.cells ∧ slots + 6 ≤ room_1.slots) (hl : lv_has ls 9 (lb_k b a bb o1 o2 k)) (N : LN_ p l e s m below meth c b D κ a bb o1 o2 k (cells + 1) (slots + 6) Q) : W p l e room_1 s m (lg1_ b) below meth c H locs cells slots Q (F0 m 256 ls []) := by
  have hx := C.1.1
  have hb := C.1.2.1
  obtain ⟨⟨hxf, hmf, h1f, h2f⟩, n1, n2, n3, n4, n5, n6, hap, hbp⟩ := C.2.2.2.2.2.2.2
  obtain ⟨cd, r, rb, v2, hcd, hP1, hP2, hr, hi2⟩ := op_addSchool l C.2.2.2.2.2.1 D κ a bb v hi hap hbp o1 n1 w u (xs (4 * k + 1))
  refine lv_aload_n hx hb dL_law_256 rfl (lv_at hl 1 rfl) ?_
  refine lv_aload_n hx hb dL_law_257 rfl (lv_at hl 0 rfl) ?_
  refine lv_iload hx hb dL_law_258 (lv_at hl 5 rfl) ?_
  refine lv_iconst (v := nI 1) hx hb dL_law_260 (by decide) ?_
  refine nv_iadd (r := 4 * k + 1) hx hb dL_law_261 rfl ?_
  refine lr_sld (j := 4 * k + 1) C hH (by omega) dL_law_262 ?_
  refine lv_aload_n hx hb dL_law_263 rfl (lv_at hl 3 rfl) ?_
  refine lr_help (As := [.ref (a 0), .int (xs (4 * k + 1)), .ref o1]) C hH hP1 g_L_113 n_L_addSchool ⟨Nat.le_of_ble_eq_true rfl, Nat.le_of_ble_eq_true rfl⟩ rfl hl.1 rfl dL_law_264 hc (fun H locs w hH hw => ?_)
  refine lv_istore (lv' := (6, .int (nI cd)) :: lb_k b a bb o1 o2 k) hx hb dL_law_267 hl (by decide) rfl (fun ls hl => ?_)
  refine lv_aload_n hx hb dL_law_269 rfl (lv_at hl 3 rfl) ?_
  refine lv_aload_n hx hb dL_law_270 rfl (lv_at hl 1 rfl) ?_
  refine lv_iload hx hb dL_law_271 (lv_at hl 6 rfl) ?_
  refine lv_iconst (v := nI 1) hx hb dL_law_273 (by decide) ?_
  refine nv_iadd (r := 4 * k + 1) hx hb dL_law_274 rfl ?_
  refine lr_sld (j := 4 * k + 1) C hH (by omega) dL_law_275 ?_
  refine lr_mod (cd := cd) (rest := []) (As := [.int (xs (4 * k + 1))]) C hH hP2 g_L_115 n_X1_addSchool ⟨Nat.le_of_ble_eq_true rfl, Nat.le_of_ble_eq_true rfl⟩ rfl hl.1 rfl (Nat.zero_le _) dL_law_276 hc (fun H locs hH => ?_)
  exact law_tI C hH hi2 hc hl hcd hw hr N dL_law_279 dL_law_281 dL_law_282 dL_law_285 dL_law_287 dL_law_292 dL_law_294 dL_law_297 dL_law_298 dL_law_299 dL_law_300 dL_law_302 dL_law_303 dL_law_304 dL_law_309 (by decide)
set_option maxHeartbeats 4000000 in
theorem law_c2 (C : LC_ p l s m c b L xs D κ a bb o1 o2) (hH : LH_ s D κ a bb o1 o2 v u v w wd H locs) (hi : iv_ v) (hk : 4 * k + 4 ≤ L) (hc : cells + 1 ≤ room_1.cells ∧ slots + 6 ≤ room_1.slots) (hl : lv_has ls 9 (lb_k b a bb o1 o2 k)) (N : LN_ p l e s m below meth c b D κ a bb o1 o2 k (cells + 1) (slots + 6) Q) : W p l e room_1 s m (lg1_ b) below meth c H locs cells slots Q (F0 m 312 ls []) := by
  have hx := C.1.1
  have hb := C.1.2.1
  obtain ⟨⟨hxf, hmf, h1f, h2f⟩, n1, n2, n3, n4, n5, n6, hap, hbp⟩ := C.2.2.2.2.2.2.2
  obtain ⟨cd, r, rb, v2, hcd, hP1, hP2, hr, hi2⟩ := op_setShare l C.2.2.2.2.2.1 D κ a bb v hi hap hbp o1 n1 w u (xs (4 * k + 1)) (xs (4 * k + 2)) (xs (4 * k + 3))
  refine lv_aload_n hx hb dL_law_312 rfl (lv_at hl 1 rfl) ?_
  refine lv_aload_n hx hb dL_law_313 rfl (lv_at hl 0 rfl) ?_
  refine lv_iload hx hb dL_law_314 (lv_at hl 5 rfl) ?_
  refine lv_iconst (v := nI 1) hx hb dL_law_316 (by decide) ?_
  refine nv_iadd (r := 4 * k + 1) hx hb dL_law_317 rfl ?_
  refine lr_sld (j := 4 * k + 1) C hH (by omega) dL_law_318 ?_
  refine lv_aload_n hx hb dL_law_319 rfl (lv_at hl 0 rfl) ?_
  refine lv_iload hx hb dL_law_320 (lv_at hl 5 rfl) ?_
  refine lv_iconst (v := nI 2) hx hb dL_law_322 (by decide) ?_
  refine nv_iadd (r := 4 * k + 2) hx hb dL_law_323 rfl ?_
  refine lr_sld (j := 4 * k + 2) C hH (by omega) dL_law_324 ?_
  refine lv_aload_n hx hb dL_law_325 rfl (lv_at hl 0 rfl) ?_
  refine lv_iload hx hb dL_law_326 (lv_at hl 5 rfl) ?_
  refine lv_iconst (v := nI 3) hx hb dL_law_328 (by decide) ?_
  refine nv_iadd (r := 4 * k + 3) hx hb dL_law_329 rfl ?_
  refine lr_sld (j := 4 * k + 3) C hH (by omega) dL_law_330 ?_
  refine lv_aload_n hx hb dL_law_331 rfl (lv_at hl 3 rfl) ?_
  refine lr_help (As := [.ref (a 0), .int (xs (4 * k + 1)), .int (xs (4 * k + 2)), .int (xs (4 * k + 3)), .ref o1]) C hH hP1 g_L_116 n_L_setShare ⟨Nat.le_of_ble_eq_true rfl, Nat.le_of_ble_eq_true rfl⟩ rfl hl.1 rfl dL_law_332 hc (fun H locs w hH hw => ?_)
  refine lv_istore (lv' := (6, .int (nI cd)) :: lb_k b a bb o1 o2 k) hx hb dL_law_335 hl (by decide) rfl (fun ls hl => ?_)
  refine lv_aload_n hx hb dL_law_337 rfl (lv_at hl 3 rfl) ?_
  refine lv_aload_n hx hb dL_law_338 rfl (lv_at hl 1 rfl) ?_
  refine lv_iload hx hb dL_law_339 (lv_at hl 6 rfl) ?_
  refine lv_iconst (v := nI 1) hx hb dL_law_341 (by decide) ?_
  refine nv_iadd (r := 4 * k + 1) hx hb dL_law_342 rfl ?_
  refine lr_sld (j := 4 * k + 1) C hH (by omega) dL_law_343 ?_
  refine lv_aload_n hx hb dL_law_344 rfl (lv_at hl 1 rfl) ?_
  refine lv_iload hx hb dL_law_345 (lv_at hl 6 rfl) ?_
  refine lv_iconst (v := nI 2) hx hb dL_law_347 (by decide) ?_
  refine nv_iadd (r := 4 * k + 2) hx hb dL_law_348 rfl ?_
  refine lr_sld (j := 4 * k + 2) C hH (by omega) dL_law_349 ?_
  refine lv_aload_n hx hb dL_law_350 rfl (lv_at hl 1 rfl) ?_
  refine lv_iload hx hb dL_law_351 (lv_at hl 6 rfl) ?_
  refine lv_iconst (v := nI 3) hx hb dL_law_353 (by decide) ?_
  refine nv_iadd (r := 4 * k + 3) hx hb dL_law_354 rfl ?_
  refine lr_sld (j := 4 * k + 3) C hH (by omega) dL_law_355 ?_
  refine lr_mod (cd := cd) (rest := []) (As := [.int (xs (4 * k + 1)), .int (xs (4 * k + 2)), .int (xs (4 * k + 3))]) C hH hP2 g_L_119 n_X1_setShare ⟨Nat.le_of_ble_eq_true rfl, Nat.le_of_ble_eq_true rfl⟩ rfl hl.1 rfl (Nat.zero_le _) dL_law_356 hc (fun H locs hH => ?_)
  exact law_tI C hH hi2 hc hl hcd hw hr N dL_law_359 dL_law_361 dL_law_362 dL_law_365 dL_law_367 dL_law_372 dL_law_374 dL_law_377 dL_law_378 dL_law_379 dL_law_380 dL_law_382 dL_law_383 dL_law_384 dL_law_389 (by decide)
set_option maxHeartbeats 4000000 in
theorem law_c3 (C : LC_ p l s m c b L xs D κ a bb o1 o2) (hH : LH_ s D κ a bb o1 o2 v u v w wd H locs) (hi : iv_ v) (hk : 4 * k + 4 ≤ L) (hc : cells + 1 ≤ room_1.cells ∧ slots + 6 ≤ room_1.slots) (hl : lv_has ls 9 (lb_k b a bb o1 o2 k)) (N : LN_ p l e s m below meth c b D κ a bb o1 o2 k (cells + 1) (slots + 6) Q) : W p l e room_1 s m (lg1_ b) below meth c H locs cells slots Q (F0 m 392 ls []) := by
  have hx := C.1.1
  have hb := C.1.2.1
  obtain ⟨⟨hxf, hmf, h1f, h2f⟩, n1, n2, n3, n4, n5, n6, hap, hbp⟩ := C.2.2.2.2.2.2.2
  obtain ⟨cd, r, rb, v2, hcd, hP1, hP2, hr, hi2⟩ := op_toss l C.2.2.2.2.2.1 D κ a bb v hi hap hbp o1 n1 w u (zb_ (xs (4 * k + 1)))
  refine lv_aload_n hx hb dL_law_392 rfl (lv_at hl 1 rfl) ?_
  refine lv_aload_n hx hb dL_law_393 rfl (lv_at hl 0 rfl) ?_
  refine lv_iload hx hb dL_law_394 (lv_at hl 5 rfl) ?_
  refine lv_iconst (v := nI 1) hx hb dL_law_396 (by decide) ?_
  refine nv_iadd (r := 4 * k + 1) hx hb dL_law_397 rfl ?_
  refine lr_sld (j := 4 * k + 1) C hH (by omega) dL_law_398 ?_
  refine lr_bool (q := 399) C dL_law_399 dL_law_402 dL_law_403 dL_law_406 ?_
  refine lv_aload_n hx hb dL_law_407 rfl (lv_at hl 3 rfl) ?_
  refine lr_help (As := [.ref (a 0), .int (bI (zb_ (xs (4 * k + 1)))), .ref o1]) C hH hP1 g_L_120 n_L_toss ⟨Nat.le_of_ble_eq_true rfl, Nat.le_of_ble_eq_true rfl⟩ rfl hl.1 rfl dL_law_408 hc (fun H locs w hH hw => ?_)
  refine lv_istore (lv' := (6, .int (nI cd)) :: lb_k b a bb o1 o2 k) hx hb dL_law_411 hl (by decide) rfl (fun ls hl => ?_)
  refine lv_aload_n hx hb dL_law_413 rfl (lv_at hl 3 rfl) ?_
  refine lv_aload_n hx hb dL_law_414 rfl (lv_at hl 1 rfl) ?_
  refine lv_iload hx hb dL_law_415 (lv_at hl 6 rfl) ?_
  refine lv_iconst (v := nI 1) hx hb dL_law_417 (by decide) ?_
  refine nv_iadd (r := 4 * k + 1) hx hb dL_law_418 rfl ?_
  refine lr_sld (j := 4 * k + 1) C hH (by omega) dL_law_419 ?_
  refine lr_bool (q := 420) C dL_law_420 dL_law_423 dL_law_424 dL_law_427 ?_
  refine lr_mod (cd := cd) (rest := []) (As := [.int (bI (zb_ (xs (4 * k + 1))))]) C hH hP2 g_L_123 n_X1_toss ⟨Nat.le_of_ble_eq_true rfl, Nat.le_of_ble_eq_true rfl⟩ rfl hl.1 rfl (Nat.zero_le _) dL_law_428 hc (fun H locs hH => ?_)
  exact law_tI C hH hi2 hc hl hcd hw hr N dL_law_431 dL_law_433 dL_law_434 dL_law_437 dL_law_439 dL_law_444 dL_law_446 dL_law_449 dL_law_450 dL_law_451 dL_law_452 dL_law_454 dL_law_455 dL_law_456 dL_law_461 (by decide)
set_option maxHeartbeats 4000000 in
theorem law_c4 (C : LC_ p l s m c b L xs D κ a bb o1 o2) (hH : LH_ s D κ a bb o1 o2 v u v w wd H locs) (hi : iv_ v) (hk : 4 * k + 4 ≤ L) (hc : cells + 1 ≤ room_1.cells ∧ slots + 6 ≤ room_1.slots) (hl : lv_has ls 9 (lb_k b a bb o1 o2 k)) (N : LN_ p l e s m below meth c b D κ a bb o1 o2 k (cells + 1) (slots + 6) Q) : W p l e room_1 s m (lg1_ b) below meth c H locs cells slots Q (F0 m 464 ls []) := by
  have hx := C.1.1
  have hb := C.1.2.1
  obtain ⟨⟨hxf, hmf, h1f, h2f⟩, n1, n2, n3, n4, n5, n6, hap, hbp⟩ := C.2.2.2.2.2.2.2
  obtain ⟨cd, r, rb, v2, hcd, hP1, hP2, hr, hi2⟩ := op_undo l C.2.2.2.2.2.1 D κ a bb v hi hap hbp o1 n1 w u
  refine lv_aload_n hx hb dL_law_464 rfl (lv_at hl 1 rfl) ?_
  refine lv_aload_n hx hb dL_law_465 rfl (lv_at hl 3 rfl) ?_
  refine lr_help (As := [.ref (a 0), .ref o1]) C hH hP1 g_L_124 n_L_undo ⟨Nat.le_of_ble_eq_true rfl, Nat.le_of_ble_eq_true rfl⟩ rfl hl.1 rfl dL_law_466 hc (fun H locs w hH hw => ?_)
  refine lv_istore (lv' := (6, .int (nI cd)) :: lb_k b a bb o1 o2 k) hx hb dL_law_469 hl (by decide) rfl (fun ls hl => ?_)
  refine lv_aload_n hx hb dL_law_471 rfl (lv_at hl 3 rfl) ?_
  refine lr_mod (cd := cd) (rest := []) (As := []) C hH hP2 g_L_127 n_X1_undo ⟨Nat.le_of_ble_eq_true rfl, Nat.le_of_ble_eq_true rfl⟩ rfl hl.1 rfl (Nat.zero_le _) dL_law_472 hc (fun H locs hH => ?_)
  exact law_tZ C hH hi2 hc hl hcd hw hr N dL_law_475 dL_law_477 dL_law_478 dL_law_481 dL_law_483 dL_law_488 dL_law_490 dL_law_493 dL_law_494 dL_law_495 dL_law_496 dL_law_498 dL_law_501 dL_law_502 dL_law_505 dL_law_506 dL_law_507 dL_law_512 (by decide)
set_option maxHeartbeats 4000000 in
theorem law_c5 (C : LC_ p l s m c b L xs D κ a bb o1 o2) (hH : LH_ s D κ a bb o1 o2 v u v w wd H locs) (hi : iv_ v) (hk : 4 * k + 4 ≤ L) (hc : cells + 1 ≤ room_1.cells ∧ slots + 6 ≤ room_1.slots) (hl : lv_has ls 9 (lb_k b a bb o1 o2 k)) (N : LN_ p l e s m below meth c b D κ a bb o1 o2 k (cells + 1) (slots + 6) Q) : W p l e room_1 s m (lg1_ b) below meth c H locs cells slots Q (F0 m 515 ls []) := by
  have hx := C.1.1
  have hb := C.1.2.1
  obtain ⟨⟨hxf, hmf, h1f, h2f⟩, n1, n2, n3, n4, n5, n6, hap, hbp⟩ := C.2.2.2.2.2.2.2
  obtain ⟨cd, r, rb, v2, hcd, hP1, hP2, hr, hi2⟩ := op_strike l C.2.2.2.2.2.1 D κ a bb v hi hap hbp o1 n1 w u (xs (4 * k + 1))
  refine lv_aload_n hx hb dL_law_515 rfl (lv_at hl 1 rfl) ?_
  refine lv_aload_n hx hb dL_law_516 rfl (lv_at hl 0 rfl) ?_
  refine lv_iload hx hb dL_law_517 (lv_at hl 5 rfl) ?_
  refine lv_iconst (v := nI 1) hx hb dL_law_519 (by decide) ?_
  refine nv_iadd (r := 4 * k + 1) hx hb dL_law_520 rfl ?_
  refine lr_sld (j := 4 * k + 1) C hH (by omega) dL_law_521 ?_
  refine lv_aload_n hx hb dL_law_522 rfl (lv_at hl 3 rfl) ?_
  refine lr_help (As := [.ref (a 0), .int (xs (4 * k + 1)), .ref o1]) C hH hP1 g_L_128 n_L_strike ⟨Nat.le_of_ble_eq_true rfl, Nat.le_of_ble_eq_true rfl⟩ rfl hl.1 rfl dL_law_523 hc (fun H locs w hH hw => ?_)
  refine lv_istore (lv' := (6, .int (nI cd)) :: lb_k b a bb o1 o2 k) hx hb dL_law_526 hl (by decide) rfl (fun ls hl => ?_)
  refine lv_aload_n hx hb dL_law_528 rfl (lv_at hl 3 rfl) ?_
  refine lv_aload_n hx hb dL_law_529 rfl (lv_at hl 1 rfl) ?_
  refine lv_iload hx hb dL_law_530 (lv_at hl 6 rfl) ?_
  refine lv_iconst (v := nI 1) hx hb dL_law_532 (by decide) ?_
  refine nv_iadd (r := 4 * k + 1) hx hb dL_law_533 rfl ?_
  refine lr_sld (j := 4 * k + 1) C hH (by omega) dL_law_534 ?_
  refine lr_mod (cd := cd) (rest := []) (As := [.int (xs (4 * k + 1))]) C hH hP2 g_L_130 n_X1_strike ⟨Nat.le_of_ble_eq_true rfl, Nat.le_of_ble_eq_true rfl⟩ rfl hl.1 rfl (Nat.zero_le _) dL_law_535 hc (fun H locs hH => ?_)
  exact law_tI C hH hi2 hc hl hcd hw hr N dL_law_538 dL_law_540 dL_law_541 dL_law_544 dL_law_546 dL_law_551 dL_law_553 dL_law_556 dL_law_557 dL_law_558 dL_law_559 dL_law_561 dL_law_562 dL_law_563 dL_law_568 (by decide)
set_option maxHeartbeats 4000000 in
theorem law_c6 (C : LC_ p l s m c b L xs D κ a bb o1 o2) (hH : LH_ s D κ a bb o1 o2 v u v w wd H locs) (hi : iv_ v) (hk : 4 * k + 4 ≤ L) (hc : cells + 1 ≤ room_1.cells ∧ slots + 6 ≤ room_1.slots) (hl : lv_has ls 9 (lb_k b a bb o1 o2 k)) (N : LN_ p l e s m below meth c b D κ a bb o1 o2 k (cells + 1) (slots + 6) Q) : W p l e room_1 s m (lg1_ b) below meth c H locs cells slots Q (F0 m 571 ls []) := by
  have hx := C.1.1
  have hb := C.1.2.1
  obtain ⟨⟨hxf, hmf, h1f, h2f⟩, n1, n2, n3, n4, n5, n6, hap, hbp⟩ := C.2.2.2.2.2.2.2
  have hc0 : cells ≤ room_1.cells ∧ slots ≤ room_1.slots := ⟨by omega, by omega⟩
  refine lv_aload_n hx hb dL_law_571 rfl (lv_at hl 1 rfl) ?_
  refine lr_cls (rest := []) (As := []) C hH (c_X0_coins l D κ a v hi.1) g_L_131 n_X0_coins ⟨Nat.le_of_ble_eq_true rfl, Nat.le_of_ble_eq_true rfl⟩ rfl hl.1 rfl (Nat.zero_le _) dL_law_572 hc0 ?_
  refine lv_aload_n hx hb dL_law_575 rfl (lv_at hl 2 rfl) ?_
  refine lr_mod (cd := 0) (rest := [.int (nI (vs_c v))]) (As := []) C hH (c_X1_coins_ok l D κ bb u v hi.1 hbp) g_L_134 n_X1_coins ⟨Nat.le_of_ble_eq_true rfl, Nat.le_of_ble_eq_true rfl⟩ rfl hl.1 rfl (Nat.le_of_ble_eq_true rfl) dL_law_576 hc0 (fun H locs hH => ?_)
  refine W.widen (k := cells + 1) (n := slots + 6) (by omega) (by omega) ?_
  exact lv_icmp_eq (tgt := 1818) hx hb dL_law_579 (by decide) (fun _ => N v 0 w wd H locs ls hi hH hl) (fun z => absurd rfl z)
set_option maxHeartbeats 4000000 in
theorem law_c7 (C : LC_ p l s m c b L xs D κ a bb o1 o2) (hH : LH_ s D κ a bb o1 o2 v u v w wd H locs) (hi : iv_ v) (hk : 4 * k + 4 ≤ L) (hc : cells + 1 ≤ room_1.cells ∧ slots + 6 ≤ room_1.slots) (hl : lv_has ls 9 (lb_k b a bb o1 o2 k)) (N : LN_ p l e s m below meth c b D κ a bb o1 o2 k (cells + 1) (slots + 6) Q) : W p l e room_1 s m (lg1_ b) below meth c H locs cells slots Q (F0 m 584 ls []) := by
  have hx := C.1.1
  have hb := C.1.2.1
  obtain ⟨⟨hxf, hmf, h1f, h2f⟩, n1, n2, n3, n4, n5, n6, hap, hbp⟩ := C.2.2.2.2.2.2.2
  have hc0 : cells ≤ room_1.cells ∧ slots ≤ room_1.slots := ⟨by omega, by omega⟩
  refine lv_aload_n hx hb dL_law_584 rfl (lv_at hl 1 rfl) ?_
  refine lr_cls (rest := []) (As := []) C hH (c_X0_schools l D κ a v hi.1) g_L_135 n_X0_schools ⟨Nat.le_of_ble_eq_true rfl, Nat.le_of_ble_eq_true rfl⟩ rfl hl.1 rfl (Nat.zero_le _) dL_law_585 hc0 ?_
  refine lv_aload_n hx hb dL_law_588 rfl (lv_at hl 2 rfl) ?_
  refine lr_mod (cd := 0) (rest := [.int (nI (vs_n v))]) (As := []) C hH (c_X1_schools_ok l D κ bb u v hi.1 hbp) g_L_138 n_X1_schools ⟨Nat.le_of_ble_eq_true rfl, Nat.le_of_ble_eq_true rfl⟩ rfl hl.1 rfl (Nat.le_of_ble_eq_true rfl) dL_law_589 hc0 (fun H locs hH => ?_)
  refine W.widen (k := cells + 1) (n := slots + 6) (by omega) (by omega) ?_
  exact lv_icmp_eq (tgt := 1818) hx hb dL_law_592 (by decide) (fun _ => N v 0 w wd H locs ls hi hH hl) (fun z => absurd rfl z)
set_option maxHeartbeats 4000000 in
theorem law_c8 (C : LC_ p l s m c b L xs D κ a bb o1 o2) (hH : LH_ s D κ a bb o1 o2 v u v w wd H locs) (hi : iv_ v) (hk : 4 * k + 4 ≤ L) (hc : cells + 1 ≤ room_1.cells ∧ slots + 6 ≤ room_1.slots) (hl : lv_has ls 9 (lb_k b a bb o1 o2 k)) (N : LN_ p l e s m below meth c b D κ a bb o1 o2 k (cells + 1) (slots + 6) Q) : W p l e room_1 s m (lg1_ b) below meth c H locs cells slots Q (F0 m 597 ls []) := by
  have hx := C.1.1
  have hb := C.1.2.1
  obtain ⟨⟨hxf, hmf, h1f, h2f⟩, n1, n2, n3, n4, n5, n6, hap, hbp⟩ := C.2.2.2.2.2.2.2
  have hc0 : cells ≤ room_1.cells ∧ slots ≤ room_1.slots := ⟨by omega, by omega⟩
  refine lv_aload_n hx hb dL_law_597 rfl (lv_at hl 1 rfl) ?_
  refine lr_cls (rest := []) (As := []) C hH (c_X0_tosses l D κ a v hi.1) g_L_139 n_X0_tosses ⟨Nat.le_of_ble_eq_true rfl, Nat.le_of_ble_eq_true rfl⟩ rfl hl.1 rfl (Nat.zero_le _) dL_law_598 hc0 ?_
  refine lv_aload_n hx hb dL_law_601 rfl (lv_at hl 2 rfl) ?_
  refine lr_mod (cd := 0) (rest := [.int (nI (vs_t v))]) (As := []) C hH (c_X1_tosses_ok l D κ bb u v hi.1 hbp) g_L_142 n_X1_tosses ⟨Nat.le_of_ble_eq_true rfl, Nat.le_of_ble_eq_true rfl⟩ rfl hl.1 rfl (Nat.le_of_ble_eq_true rfl) dL_law_602 hc0 (fun H locs hH => ?_)
  refine W.widen (k := cells + 1) (n := slots + 6) (by omega) (by omega) ?_
  exact lv_icmp_eq (tgt := 1818) hx hb dL_law_605 (by decide) (fun _ => N v 0 w wd H locs ls hi hH hl) (fun z => absurd rfl z)
set_option maxHeartbeats 4000000 in
theorem law_c9 (C : LC_ p l s m c b L xs D κ a bb o1 o2) (hH : LH_ s D κ a bb o1 o2 v u v w wd H locs) (hi : iv_ v) (hk : 4 * k + 4 ≤ L) (hc : cells + 1 ≤ room_1.cells ∧ slots + 6 ≤ room_1.slots) (hl : lv_has ls 9 (lb_k b a bb o1 o2 k)) (N : LN_ p l e s m below meth c b D κ a bb o1 o2 k (cells + 1) (slots + 6) Q) : W p l e room_1 s m (lg1_ b) below meth c H locs cells slots Q (F0 m 610 ls []) := by
  have hx := C.1.1
  have hb := C.1.2.1
  obtain ⟨⟨hxf, hmf, h1f, h2f⟩, n1, n2, n3, n4, n5, n6, hap, hbp⟩ := C.2.2.2.2.2.2.2
  have hc0 : cells ≤ room_1.cells ∧ slots ≤ room_1.slots := ⟨by omega, by omega⟩
  refine lv_aload_n hx hb dL_law_610 rfl (lv_at hl 1 rfl) ?_
  refine lr_cls (rest := []) (As := []) C hH (c_X0_heads l D κ a v hi.1) g_L_143 n_X0_heads ⟨Nat.le_of_ble_eq_true rfl, Nat.le_of_ble_eq_true rfl⟩ rfl hl.1 rfl (Nat.zero_le _) dL_law_611 hc0 ?_
  refine lv_aload_n hx hb dL_law_614 rfl (lv_at hl 2 rfl) ?_
  refine lr_mod (cd := 0) (rest := [.int (nI (hh_ v))]) (As := []) C hH (c_X1_heads_ok l D κ bb u v hi.1 hbp) g_L_146 n_X1_heads ⟨Nat.le_of_ble_eq_true rfl, Nat.le_of_ble_eq_true rfl⟩ rfl hl.1 rfl (Nat.le_of_ble_eq_true rfl) dL_law_615 hc0 (fun H locs hH => ?_)
  refine W.widen (k := cells + 1) (n := slots + 6) (by omega) (by omega) ?_
  exact lv_icmp_eq (tgt := 1818) hx hb dL_law_618 (by decide) (fun _ => N v 0 w wd H locs ls hi hH hl) (fun z => absurd rfl z)
set_option maxHeartbeats 4000000 in
theorem law_c10 (C : LC_ p l s m c b L xs D κ a bb o1 o2) (hH : LH_ s D κ a bb o1 o2 v u v w wd H locs) (hi : iv_ v) (hk : 4 * k + 4 ≤ L) (hc : cells + 1 ≤ room_1.cells ∧ slots + 6 ≤ room_1.slots) (hl : lv_has ls 9 (lb_k b a bb o1 o2 k)) (N : LN_ p l e s m below meth c b D κ a bb o1 o2 k (cells + 1) (slots + 6) Q) : W p l e room_1 s m (lg1_ b) below meth c H locs cells slots Q (F0 m 623 ls []) := by
  have hx := C.1.1
  have hb := C.1.2.1
  obtain ⟨⟨hxf, hmf, h1f, h2f⟩, n1, n2, n3, n4, n5, n6, hap, hbp⟩ := C.2.2.2.2.2.2.2
  obtain ⟨cd, r, rb, v2, hcd, hP1, hP2, hr, hi2⟩ := op_isHeads l C.2.2.2.2.2.1 D κ a bb v hi hap hbp o1 n1 w u (xs (4 * k + 1))
  refine lv_aload_n hx hb dL_law_623 rfl (lv_at hl 1 rfl) ?_
  refine lv_aload_n hx hb dL_law_624 rfl (lv_at hl 0 rfl) ?_
  refine lv_iload hx hb dL_law_625 (lv_at hl 5 rfl) ?_
  refine lv_iconst (v := nI 1) hx hb dL_law_627 (by decide) ?_
  refine nv_iadd (r := 4 * k + 1) hx hb dL_law_628 rfl ?_
  refine lr_sld (j := 4 * k + 1) C hH (by omega) dL_law_629 ?_
  refine lv_aload_n hx hb dL_law_630 rfl (lv_at hl 3 rfl) ?_
  refine lr_help (As := [.ref (a 0), .int (xs (4 * k + 1)), .ref o1]) C hH hP1 g_L_147 n_L_isHeads ⟨Nat.le_of_ble_eq_true rfl, Nat.le_of_ble_eq_true rfl⟩ rfl hl.1 rfl dL_law_631 hc (fun H locs w hH hw => ?_)
  refine lv_istore (lv' := (6, .int (nI cd)) :: lb_k b a bb o1 o2 k) hx hb dL_law_634 hl (by decide) rfl (fun ls hl => ?_)
  refine lv_aload_n hx hb dL_law_636 rfl (lv_at hl 3 rfl) ?_
  refine lv_aload_n hx hb dL_law_637 rfl (lv_at hl 1 rfl) ?_
  refine lv_iload hx hb dL_law_638 (lv_at hl 6 rfl) ?_
  refine lv_iconst (v := nI 1) hx hb dL_law_640 (by decide) ?_
  refine nv_iadd (r := 4 * k + 1) hx hb dL_law_641 rfl ?_
  refine lr_sld (j := 4 * k + 1) C hH (by omega) dL_law_642 ?_
  refine lr_mod (cd := cd) (rest := []) (As := [.int (xs (4 * k + 1))]) C hH hP2 g_L_149 n_X1_isHeads ⟨Nat.le_of_ble_eq_true rfl, Nat.le_of_ble_eq_true rfl⟩ rfl hl.1 rfl (Nat.zero_le _) dL_law_643 hc (fun H locs hH => ?_)
  exact law_tZ C hH hi2 hc hl hcd hw hr N dL_law_646 dL_law_648 dL_law_649 dL_law_652 dL_law_654 dL_law_659 dL_law_661 dL_law_664 dL_law_665 dL_law_666 dL_law_667 dL_law_669 dL_law_672 dL_law_673 dL_law_676 dL_law_677 dL_law_678 dL_law_683 (by decide)
set_option maxHeartbeats 4000000 in
theorem law_c11 (C : LC_ p l s m c b L xs D κ a bb o1 o2) (hH : LH_ s D κ a bb o1 o2 v u v w wd H locs) (hi : iv_ v) (hk : 4 * k + 4 ≤ L) (hc : cells + 1 ≤ room_1.cells ∧ slots + 6 ≤ room_1.slots) (hl : lv_has ls 9 (lb_k b a bb o1 o2 k)) (N : LN_ p l e s m below meth c b D κ a bb o1 o2 k (cells + 1) (slots + 6) Q) : W p l e room_1 s m (lg1_ b) below meth c H locs cells slots Q (F0 m 686 ls []) := by
  have hx := C.1.1
  have hb := C.1.2.1
  obtain ⟨⟨hxf, hmf, h1f, h2f⟩, n1, n2, n3, n4, n5, n6, hap, hbp⟩ := C.2.2.2.2.2.2.2
  obtain ⟨cd, r, rb, v2, hcd, hP1, hP2, hr, hi2⟩ := op_tenthsOf l C.2.2.2.2.2.1 D κ a bb v hi hap hbp o1 n1 w u (xs (4 * k + 1))
  refine lv_aload_n hx hb dL_law_686 rfl (lv_at hl 1 rfl) ?_
  refine lv_aload_n hx hb dL_law_687 rfl (lv_at hl 0 rfl) ?_
  refine lv_iload hx hb dL_law_688 (lv_at hl 5 rfl) ?_
  refine lv_iconst (v := nI 1) hx hb dL_law_690 (by decide) ?_
  refine nv_iadd (r := 4 * k + 1) hx hb dL_law_691 rfl ?_
  refine lr_sld (j := 4 * k + 1) C hH (by omega) dL_law_692 ?_
  refine lv_aload_n hx hb dL_law_693 rfl (lv_at hl 3 rfl) ?_
  refine lr_help (As := [.ref (a 0), .int (xs (4 * k + 1)), .ref o1]) C hH hP1 g_L_150 n_L_tenthsOf ⟨Nat.le_of_ble_eq_true rfl, Nat.le_of_ble_eq_true rfl⟩ rfl hl.1 rfl dL_law_694 hc (fun H locs w hH hw => ?_)
  refine lv_istore (lv' := (6, .int (nI cd)) :: lb_k b a bb o1 o2 k) hx hb dL_law_697 hl (by decide) rfl (fun ls hl => ?_)
  refine lv_aload_n hx hb dL_law_699 rfl (lv_at hl 3 rfl) ?_
  refine lv_aload_n hx hb dL_law_700 rfl (lv_at hl 1 rfl) ?_
  refine lv_iload hx hb dL_law_701 (lv_at hl 6 rfl) ?_
  refine lv_iconst (v := nI 1) hx hb dL_law_703 (by decide) ?_
  refine nv_iadd (r := 4 * k + 1) hx hb dL_law_704 rfl ?_
  refine lr_sld (j := 4 * k + 1) C hH (by omega) dL_law_705 ?_
  refine lr_mod (cd := cd) (rest := []) (As := [.int (xs (4 * k + 1))]) C hH hP2 g_L_152 n_X1_tenthsOf ⟨Nat.le_of_ble_eq_true rfl, Nat.le_of_ble_eq_true rfl⟩ rfl hl.1 rfl (Nat.zero_le _) dL_law_706 hc (fun H locs hH => ?_)
  exact law_tI C hH hi2 hc hl hcd hw hr N dL_law_709 dL_law_711 dL_law_712 dL_law_715 dL_law_717 dL_law_722 dL_law_724 dL_law_727 dL_law_728 dL_law_729 dL_law_730 dL_law_732 dL_law_733 dL_law_734 dL_law_739 (by decide)
set_option maxHeartbeats 4000000 in
theorem law_c12 (C : LC_ p l s m c b L xs D κ a bb o1 o2) (hH : LH_ s D κ a bb o1 o2 v u v w wd H locs) (hi : iv_ v) (hk : 4 * k + 4 ≤ L) (hc : cells + 1 ≤ room_1.cells ∧ slots + 6 ≤ room_1.slots) (hl : lv_has ls 9 (lb_k b a bb o1 o2 k)) (N : LN_ p l e s m below meth c b D κ a bb o1 o2 k (cells + 1) (slots + 6) Q) : W p l e room_1 s m (lg1_ b) below meth c H locs cells slots Q (F0 m 742 ls []) := by
  have hx := C.1.1
  have hb := C.1.2.1
  obtain ⟨⟨hxf, hmf, h1f, h2f⟩, n1, n2, n3, n4, n5, n6, hap, hbp⟩ := C.2.2.2.2.2.2.2
  obtain ⟨cd, r, rb, v2, hcd, hP1, hP2, hr, hi2⟩ := op_oddsOf l C.2.2.2.2.2.1 D κ a bb v hi hap hbp o1 n1 w u (xs (4 * k + 1))
  refine lv_aload_n hx hb dL_law_742 rfl (lv_at hl 1 rfl) ?_
  refine lv_aload_n hx hb dL_law_743 rfl (lv_at hl 0 rfl) ?_
  refine lv_iload hx hb dL_law_744 (lv_at hl 5 rfl) ?_
  refine lv_iconst (v := nI 1) hx hb dL_law_746 (by decide) ?_
  refine nv_iadd (r := 4 * k + 1) hx hb dL_law_747 rfl ?_
  refine lr_sld (j := 4 * k + 1) C hH (by omega) dL_law_748 ?_
  refine lv_aload_n hx hb dL_law_749 rfl (lv_at hl 3 rfl) ?_
  refine lr_help (As := [.ref (a 0), .int (xs (4 * k + 1)), .ref o1]) C hH hP1 g_L_153 n_L_oddsOf ⟨Nat.le_of_ble_eq_true rfl, Nat.le_of_ble_eq_true rfl⟩ rfl hl.1 rfl dL_law_750 hc (fun H locs w hH hw => ?_)
  refine lv_istore (lv' := (6, .int (nI cd)) :: lb_k b a bb o1 o2 k) hx hb dL_law_753 hl (by decide) rfl (fun ls hl => ?_)
  refine lv_aload_n hx hb dL_law_755 rfl (lv_at hl 3 rfl) ?_
  refine lv_aload_n hx hb dL_law_756 rfl (lv_at hl 1 rfl) ?_
  refine lv_iload hx hb dL_law_757 (lv_at hl 6 rfl) ?_
  refine lv_iconst (v := nI 1) hx hb dL_law_759 (by decide) ?_
  refine nv_iadd (r := 4 * k + 1) hx hb dL_law_760 rfl ?_
  refine lr_sld (j := 4 * k + 1) C hH (by omega) dL_law_761 ?_
  refine lr_mod (cd := cd) (rest := []) (As := [.int (xs (4 * k + 1))]) C hH hP2 g_L_155 n_X1_oddsOf ⟨Nat.le_of_ble_eq_true rfl, Nat.le_of_ble_eq_true rfl⟩ rfl hl.1 rfl (Nat.zero_le _) dL_law_762 hc (fun H locs hH => ?_)
  exact law_tI C hH hi2 hc hl hcd hw hr N dL_law_765 dL_law_767 dL_law_768 dL_law_771 dL_law_773 dL_law_778 dL_law_780 dL_law_783 dL_law_784 dL_law_785 dL_law_786 dL_law_788 dL_law_789 dL_law_790 dL_law_795 (by decide)
set_option maxHeartbeats 4000000 in
theorem law_c13 (C : LC_ p l s m c b L xs D κ a bb o1 o2) (hH : LH_ s D κ a bb o1 o2 v u v w wd H locs) (hi : iv_ v) (hk : 4 * k + 4 ≤ L) (hc : cells + 1 ≤ room_1.cells ∧ slots + 6 ≤ room_1.slots) (hl : lv_has ls 9 (lb_k b a bb o1 o2 k)) (N : LN_ p l e s m below meth c b D κ a bb o1 o2 k (cells + 1) (slots + 6) Q) : W p l e room_1 s m (lg1_ b) below meth c H locs cells slots Q (F0 m 798 ls []) := by
  have hx := C.1.1
  have hb := C.1.2.1
  obtain ⟨⟨hxf, hmf, h1f, h2f⟩, n1, n2, n3, n4, n5, n6, hap, hbp⟩ := C.2.2.2.2.2.2.2
  obtain ⟨cd, r, rb, v2, hcd, hP1, hP2, hr, hi2⟩ := op_shareOf l C.2.2.2.2.2.1 D κ a bb v hi hap hbp o1 n1 w u (xs (4 * k + 1)) (xs (4 * k + 2))
  refine lv_aload_n hx hb dL_law_798 rfl (lv_at hl 1 rfl) ?_
  refine lv_aload_n hx hb dL_law_799 rfl (lv_at hl 0 rfl) ?_
  refine lv_iload hx hb dL_law_800 (lv_at hl 5 rfl) ?_
  refine lv_iconst (v := nI 1) hx hb dL_law_802 (by decide) ?_
  refine nv_iadd (r := 4 * k + 1) hx hb dL_law_803 rfl ?_
  refine lr_sld (j := 4 * k + 1) C hH (by omega) dL_law_804 ?_
  refine lv_aload_n hx hb dL_law_805 rfl (lv_at hl 0 rfl) ?_
  refine lv_iload hx hb dL_law_806 (lv_at hl 5 rfl) ?_
  refine lv_iconst (v := nI 2) hx hb dL_law_808 (by decide) ?_
  refine nv_iadd (r := 4 * k + 2) hx hb dL_law_809 rfl ?_
  refine lr_sld (j := 4 * k + 2) C hH (by omega) dL_law_810 ?_
  refine lv_aload_n hx hb dL_law_811 rfl (lv_at hl 3 rfl) ?_
  refine lr_help (As := [.ref (a 0), .int (xs (4 * k + 1)), .int (xs (4 * k + 2)), .ref o1]) C hH hP1 g_L_156 n_L_shareOf ⟨Nat.le_of_ble_eq_true rfl, Nat.le_of_ble_eq_true rfl⟩ rfl hl.1 rfl dL_law_812 hc (fun H locs w hH hw => ?_)
  refine lv_istore (lv' := (6, .int (nI cd)) :: lb_k b a bb o1 o2 k) hx hb dL_law_815 hl (by decide) rfl (fun ls hl => ?_)
  refine lv_aload_n hx hb dL_law_817 rfl (lv_at hl 3 rfl) ?_
  refine lv_aload_n hx hb dL_law_818 rfl (lv_at hl 1 rfl) ?_
  refine lv_iload hx hb dL_law_819 (lv_at hl 6 rfl) ?_
  refine lv_iconst (v := nI 1) hx hb dL_law_821 (by decide) ?_
  refine nv_iadd (r := 4 * k + 1) hx hb dL_law_822 rfl ?_
  refine lr_sld (j := 4 * k + 1) C hH (by omega) dL_law_823 ?_
  refine lv_aload_n hx hb dL_law_824 rfl (lv_at hl 1 rfl) ?_
  refine lv_iload hx hb dL_law_825 (lv_at hl 6 rfl) ?_
  refine lv_iconst (v := nI 2) hx hb dL_law_827 (by decide) ?_
  refine nv_iadd (r := 4 * k + 2) hx hb dL_law_828 rfl ?_
  refine lr_sld (j := 4 * k + 2) C hH (by omega) dL_law_829 ?_
  refine lr_mod (cd := cd) (rest := []) (As := [.int (xs (4 * k + 1)), .int (xs (4 * k + 2))]) C hH hP2 g_L_159 n_X1_shareOf ⟨Nat.le_of_ble_eq_true rfl, Nat.le_of_ble_eq_true rfl⟩ rfl hl.1 rfl (Nat.zero_le _) dL_law_830 hc (fun H locs hH => ?_)
  exact law_tI C hH hi2 hc hl hcd hw hr N dL_law_833 dL_law_835 dL_law_836 dL_law_839 dL_law_841 dL_law_846 dL_law_848 dL_law_851 dL_law_852 dL_law_853 dL_law_854 dL_law_856 dL_law_857 dL_law_858 dL_law_863 (by decide)
set_option maxHeartbeats 4000000 in
theorem law_c14 (C : LC_ p l s m c b L xs D κ a bb o1 o2) (hH : LH_ s D κ a bb o1 o2 v u v w wd H locs) (hi : iv_ v) (hk : 4 * k + 4 ≤ L) (hc : cells + 1 ≤ room_1.cells ∧ slots + 6 ≤ room_1.slots) (hl : lv_has ls 9 (lb_k b a bb o1 o2 k)) (N : LN_ p l e s m below meth c b D κ a bb o1 o2 k (cells + 1) (slots + 6) Q) : W p l e room_1 s m (lg1_ b) below meth c H locs cells slots Q (F0 m 866 ls []) := by
  have hx := C.1.1
  have hb := C.1.2.1
  obtain ⟨⟨hxf, hmf, h1f, h2f⟩, n1, n2, n3, n4, n5, n6, hap, hbp⟩ := C.2.2.2.2.2.2.2
  obtain ⟨cd, r, rb, v2, hcd, hP1, hP2, hr, hi2⟩ := op_weightOf l C.2.2.2.2.2.1 D κ a bb v hi hap hbp o1 n1 w u (xs (4 * k + 1)) (xs (4 * k + 2))
  refine lv_aload_n hx hb dL_law_866 rfl (lv_at hl 1 rfl) ?_
  refine lv_aload_n hx hb dL_law_867 rfl (lv_at hl 0 rfl) ?_
  refine lv_iload hx hb dL_law_868 (lv_at hl 5 rfl) ?_
  refine lv_iconst (v := nI 1) hx hb dL_law_870 (by decide) ?_
  refine nv_iadd (r := 4 * k + 1) hx hb dL_law_871 rfl ?_
  refine lr_sld (j := 4 * k + 1) C hH (by omega) dL_law_872 ?_
  refine lv_aload_n hx hb dL_law_873 rfl (lv_at hl 0 rfl) ?_
  refine lv_iload hx hb dL_law_874 (lv_at hl 5 rfl) ?_
  refine lv_iconst (v := nI 2) hx hb dL_law_876 (by decide) ?_
  refine nv_iadd (r := 4 * k + 2) hx hb dL_law_877 rfl ?_
  refine lr_sld (j := 4 * k + 2) C hH (by omega) dL_law_878 ?_
  refine lv_aload_n hx hb dL_law_879 rfl (lv_at hl 3 rfl) ?_
  refine lr_help (As := [.ref (a 0), .int (xs (4 * k + 1)), .int (xs (4 * k + 2)), .ref o1]) C hH hP1 g_L_160 n_L_weightOf ⟨Nat.le_of_ble_eq_true rfl, Nat.le_of_ble_eq_true rfl⟩ rfl hl.1 rfl dL_law_880 hc (fun H locs w hH hw => ?_)
  refine lv_istore (lv' := (6, .int (nI cd)) :: lb_k b a bb o1 o2 k) hx hb dL_law_883 hl (by decide) rfl (fun ls hl => ?_)
  refine lv_aload_n hx hb dL_law_885 rfl (lv_at hl 3 rfl) ?_
  refine lv_aload_n hx hb dL_law_886 rfl (lv_at hl 1 rfl) ?_
  refine lv_iload hx hb dL_law_887 (lv_at hl 6 rfl) ?_
  refine lv_iconst (v := nI 1) hx hb dL_law_889 (by decide) ?_
  refine nv_iadd (r := 4 * k + 1) hx hb dL_law_890 rfl ?_
  refine lr_sld (j := 4 * k + 1) C hH (by omega) dL_law_891 ?_
  refine lv_aload_n hx hb dL_law_892 rfl (lv_at hl 1 rfl) ?_
  refine lv_iload hx hb dL_law_893 (lv_at hl 6 rfl) ?_
  refine lv_iconst (v := nI 2) hx hb dL_law_895 (by decide) ?_
  refine nv_iadd (r := 4 * k + 2) hx hb dL_law_896 rfl ?_
  refine lr_sld (j := 4 * k + 2) C hH (by omega) dL_law_897 ?_
  refine lr_mod (cd := cd) (rest := []) (As := [.int (xs (4 * k + 1)), .int (xs (4 * k + 2))]) C hH hP2 g_L_162 n_X1_weightOf ⟨Nat.le_of_ble_eq_true rfl, Nat.le_of_ble_eq_true rfl⟩ rfl hl.1 rfl (Nat.zero_le _) dL_law_898 hc (fun H locs hH => ?_)
  exact law_tL C hH hi2 hc hl hcd hw hr N dL_law_901 dL_law_903 dL_law_904 dL_law_907 dL_law_909 dL_law_914 dL_law_916 dL_law_919 dL_law_920 dL_law_921 dL_law_922 dL_law_924 dL_law_925 dL_law_930 (by decide)
set_option maxHeartbeats 4000000 in
theorem law_c15 (C : LC_ p l s m c b L xs D κ a bb o1 o2) (hH : LH_ s D κ a bb o1 o2 v u v w wd H locs) (hi : iv_ v) (hk : 4 * k + 4 ≤ L) (hc : cells + 1 ≤ room_1.cells ∧ slots + 6 ≤ room_1.slots) (hl : lv_has ls 9 (lb_k b a bb o1 o2 k)) (N : LN_ p l e s m below meth c b D κ a bb o1 o2 k (cells + 1) (slots + 6) Q) : W p l e room_1 s m (lg1_ b) below meth c H locs cells slots Q (F0 m 933 ls []) := by
  have hx := C.1.1
  have hb := C.1.2.1
  obtain ⟨⟨hxf, hmf, h1f, h2f⟩, n1, n2, n3, n4, n5, n6, hap, hbp⟩ := C.2.2.2.2.2.2.2
  obtain ⟨cd, r, rb, v2, hcd, hP1, hP2, hr, hi2⟩ := op_coinWeight l C.2.2.2.2.2.1 D κ a bb v hi hap hbp o1 n1 w u (xs (4 * k + 1))
  refine lv_aload_n hx hb dL_law_933 rfl (lv_at hl 1 rfl) ?_
  refine lv_aload_n hx hb dL_law_934 rfl (lv_at hl 0 rfl) ?_
  refine lv_iload hx hb dL_law_935 (lv_at hl 5 rfl) ?_
  refine lv_iconst (v := nI 1) hx hb dL_law_937 (by decide) ?_
  refine nv_iadd (r := 4 * k + 1) hx hb dL_law_938 rfl ?_
  refine lr_sld (j := 4 * k + 1) C hH (by omega) dL_law_939 ?_
  refine lv_aload_n hx hb dL_law_940 rfl (lv_at hl 3 rfl) ?_
  refine lr_help (As := [.ref (a 0), .int (xs (4 * k + 1)), .ref o1]) C hH hP1 g_L_163 n_L_coinWeight ⟨Nat.le_of_ble_eq_true rfl, Nat.le_of_ble_eq_true rfl⟩ rfl hl.1 rfl dL_law_941 hc (fun H locs w hH hw => ?_)
  refine lv_istore (lv' := (6, .int (nI cd)) :: lb_k b a bb o1 o2 k) hx hb dL_law_944 hl (by decide) rfl (fun ls hl => ?_)
  refine lv_aload_n hx hb dL_law_946 rfl (lv_at hl 3 rfl) ?_
  refine lv_aload_n hx hb dL_law_947 rfl (lv_at hl 1 rfl) ?_
  refine lv_iload hx hb dL_law_948 (lv_at hl 6 rfl) ?_
  refine lv_iconst (v := nI 1) hx hb dL_law_950 (by decide) ?_
  refine nv_iadd (r := 4 * k + 1) hx hb dL_law_951 rfl ?_
  refine lr_sld (j := 4 * k + 1) C hH (by omega) dL_law_952 ?_
  refine lr_mod (cd := cd) (rest := []) (As := [.int (xs (4 * k + 1))]) C hH hP2 g_L_165 n_X1_coinWeight ⟨Nat.le_of_ble_eq_true rfl, Nat.le_of_ble_eq_true rfl⟩ rfl hl.1 rfl (Nat.zero_le _) dL_law_953 hc (fun H locs hH => ?_)
  exact law_tL C hH hi2 hc hl hcd hw hr N dL_law_956 dL_law_958 dL_law_959 dL_law_962 dL_law_964 dL_law_969 dL_law_971 dL_law_974 dL_law_975 dL_law_976 dL_law_977 dL_law_979 dL_law_980 dL_law_985 (by decide)
set_option maxHeartbeats 4000000 in
theorem law_c16 (C : LC_ p l s m c b L xs D κ a bb o1 o2) (hH : LH_ s D κ a bb o1 o2 v u v w wd H locs) (hi : iv_ v) (hk : 4 * k + 4 ≤ L) (hc : cells + 1 ≤ room_1.cells ∧ slots + 6 ≤ room_1.slots) (hl : lv_has ls 9 (lb_k b a bb o1 o2 k)) (N : LN_ p l e s m below meth c b D κ a bb o1 o2 k (cells + 1) (slots + 6) Q) : W p l e room_1 s m (lg1_ b) below meth c H locs cells slots Q (F0 m 988 ls []) := by
  have hx := C.1.1
  have hb := C.1.2.1
  obtain ⟨⟨hxf, hmf, h1f, h2f⟩, n1, n2, n3, n4, n5, n6, hap, hbp⟩ := C.2.2.2.2.2.2.2
  obtain ⟨cd, r, rb, v2, hcd, hP1, hP2, hr, hi2⟩ := op_schoolWeight l C.2.2.2.2.2.1 D κ a bb v hi hap hbp o1 n1 w u (xs (4 * k + 1))
  refine lv_aload_n hx hb dL_law_988 rfl (lv_at hl 1 rfl) ?_
  refine lv_aload_n hx hb dL_law_989 rfl (lv_at hl 0 rfl) ?_
  refine lv_iload hx hb dL_law_990 (lv_at hl 5 rfl) ?_
  refine lv_iconst (v := nI 1) hx hb dL_law_992 (by decide) ?_
  refine nv_iadd (r := 4 * k + 1) hx hb dL_law_993 rfl ?_
  refine lr_sld (j := 4 * k + 1) C hH (by omega) dL_law_994 ?_
  refine lv_aload_n hx hb dL_law_995 rfl (lv_at hl 3 rfl) ?_
  refine lr_help (As := [.ref (a 0), .int (xs (4 * k + 1)), .ref o1]) C hH hP1 g_L_166 n_L_schoolWeight ⟨Nat.le_of_ble_eq_true rfl, Nat.le_of_ble_eq_true rfl⟩ rfl hl.1 rfl dL_law_996 hc (fun H locs w hH hw => ?_)
  refine lv_istore (lv' := (6, .int (nI cd)) :: lb_k b a bb o1 o2 k) hx hb dL_law_999 hl (by decide) rfl (fun ls hl => ?_)
  refine lv_aload_n hx hb dL_law_1001 rfl (lv_at hl 3 rfl) ?_
  refine lv_aload_n hx hb dL_law_1002 rfl (lv_at hl 1 rfl) ?_
  refine lv_iload hx hb dL_law_1003 (lv_at hl 6 rfl) ?_
  refine lv_iconst (v := nI 1) hx hb dL_law_1005 (by decide) ?_
  refine nv_iadd (r := 4 * k + 1) hx hb dL_law_1006 rfl ?_
  refine lr_sld (j := 4 * k + 1) C hH (by omega) dL_law_1007 ?_
  refine lr_mod (cd := cd) (rest := []) (As := [.int (xs (4 * k + 1))]) C hH hP2 g_L_168 n_X1_schoolWeight ⟨Nat.le_of_ble_eq_true rfl, Nat.le_of_ble_eq_true rfl⟩ rfl hl.1 rfl (Nat.zero_le _) dL_law_1008 hc (fun H locs hH => ?_)
  exact law_tL C hH hi2 hc hl hcd hw hr N dL_law_1011 dL_law_1013 dL_law_1014 dL_law_1017 dL_law_1019 dL_law_1024 dL_law_1026 dL_law_1029 dL_law_1030 dL_law_1031 dL_law_1032 dL_law_1034 dL_law_1035 dL_law_1040 (by decide)
set_option maxHeartbeats 4000000 in
theorem law_c17 (C : LC_ p l s m c b L xs D κ a bb o1 o2) (hH : LH_ s D κ a bb o1 o2 v u v w wd H locs) (hi : iv_ v) (hk : 4 * k + 4 ≤ L) (hc : cells + 1 ≤ room_1.cells ∧ slots + 6 ≤ room_1.slots) (hl : lv_has ls 9 (lb_k b a bb o1 o2 k)) (N : LN_ p l e s m below meth c b D κ a bb o1 o2 k (cells + 1) (slots + 6) Q) : W p l e room_1 s m (lg1_ b) below meth c H locs cells slots Q (F0 m 1043 ls []) := by
  have hx := C.1.1
  have hb := C.1.2.1
  obtain ⟨⟨hxf, hmf, h1f, h2f⟩, n1, n2, n3, n4, n5, n6, hap, hbp⟩ := C.2.2.2.2.2.2.2
  have hc0 : cells ≤ room_1.cells ∧ slots ≤ room_1.slots := ⟨by omega, by omega⟩
  refine lv_aload_n hx hb dL_law_1043 rfl (lv_at hl 1 rfl) ?_
  refine lr_cls (rest := []) (As := []) C hH (c_X0_wholeWeight l D κ a v hi.1) g_L_169 n_X0_wholeWeight ⟨Nat.le_of_ble_eq_true rfl, Nat.le_of_ble_eq_true rfl⟩ rfl hl.1 rfl (Nat.zero_le _) dL_law_1044 hc0 ?_
  refine lv_aload_n hx hb dL_law_1047 rfl (lv_at hl 2 rfl) ?_
  refine lr_mod (cd := 0) (rest := [.long (lN (wl_ v (hh_ v) (tt_ v)))]) (As := []) C hH (c_X1_wholeWeight_ok l D κ bb u v hi.1 hbp) g_L_173 n_X1_wholeWeight ⟨Nat.le_of_ble_eq_true rfl, Nat.le_of_ble_eq_true rfl⟩ rfl hl.1 rfl (Nat.le_of_ble_eq_true rfl) dL_law_1048 hc0 (fun H locs hH => ?_)
  refine W.widen (k := cells + 1) (n := slots + 6) (by omega) (by omega) ?_
  exact lr_lcmp (tgt := 1818) C dL_law_1051 dL_law_1052 (by decide) (N v 0 w wd H locs ls hi hH hl)
set_option maxHeartbeats 4000000 in
theorem law_c18 (C : LC_ p l s m c b L xs D κ a bb o1 o2) (hH : LH_ s D κ a bb o1 o2 v u v w wd H locs) (hi : iv_ v) (hk : 4 * k + 4 ≤ L) (hc : cells + 1 ≤ room_1.cells ∧ slots + 6 ≤ room_1.slots) (hl : lv_has ls 9 (lb_k b a bb o1 o2 k)) (N : LN_ p l e s m below meth c b D κ a bb o1 o2 k (cells + 1) (slots + 6) Q) : W p l e room_1 s m (lg1_ b) below meth c H locs cells slots Q (F0 m 1057 ls []) := by
  have hx := C.1.1
  have hb := C.1.2.1
  obtain ⟨⟨hxf, hmf, h1f, h2f⟩, n1, n2, n3, n4, n5, n6, hap, hbp⟩ := C.2.2.2.2.2.2.2
  obtain ⟨cd, r, rb, v2, hcd, hP1, hP2, hr, hi2⟩ := op_isRuledOut l C.2.2.2.2.2.1 D κ a bb v hi hap hbp o1 n1 w u (xs (4 * k + 1))
  refine lv_aload_n hx hb dL_law_1057 rfl (lv_at hl 1 rfl) ?_
  refine lv_aload_n hx hb dL_law_1058 rfl (lv_at hl 0 rfl) ?_
  refine lv_iload hx hb dL_law_1059 (lv_at hl 5 rfl) ?_
  refine lv_iconst (v := nI 1) hx hb dL_law_1061 (by decide) ?_
  refine nv_iadd (r := 4 * k + 1) hx hb dL_law_1062 rfl ?_
  refine lr_sld (j := 4 * k + 1) C hH (by omega) dL_law_1063 ?_
  refine lv_aload_n hx hb dL_law_1064 rfl (lv_at hl 3 rfl) ?_
  refine lr_help (As := [.ref (a 0), .int (xs (4 * k + 1)), .ref o1]) C hH hP1 g_L_174 n_L_isRuledOut ⟨Nat.le_of_ble_eq_true rfl, Nat.le_of_ble_eq_true rfl⟩ rfl hl.1 rfl dL_law_1065 hc (fun H locs w hH hw => ?_)
  refine lv_istore (lv' := (6, .int (nI cd)) :: lb_k b a bb o1 o2 k) hx hb dL_law_1068 hl (by decide) rfl (fun ls hl => ?_)
  refine lv_aload_n hx hb dL_law_1070 rfl (lv_at hl 3 rfl) ?_
  refine lv_aload_n hx hb dL_law_1071 rfl (lv_at hl 1 rfl) ?_
  refine lv_iload hx hb dL_law_1072 (lv_at hl 6 rfl) ?_
  refine lv_iconst (v := nI 1) hx hb dL_law_1074 (by decide) ?_
  refine nv_iadd (r := 4 * k + 1) hx hb dL_law_1075 rfl ?_
  refine lr_sld (j := 4 * k + 1) C hH (by omega) dL_law_1076 ?_
  refine lr_mod (cd := cd) (rest := []) (As := [.int (xs (4 * k + 1))]) C hH hP2 g_L_176 n_X1_isRuledOut ⟨Nat.le_of_ble_eq_true rfl, Nat.le_of_ble_eq_true rfl⟩ rfl hl.1 rfl (Nat.zero_le _) dL_law_1077 hc (fun H locs hH => ?_)
  exact law_tZ C hH hi2 hc hl hcd hw hr N dL_law_1080 dL_law_1082 dL_law_1083 dL_law_1086 dL_law_1088 dL_law_1093 dL_law_1095 dL_law_1098 dL_law_1099 dL_law_1100 dL_law_1101 dL_law_1103 dL_law_1106 dL_law_1107 dL_law_1110 dL_law_1111 dL_law_1112 dL_law_1117 (by decide)
set_option maxHeartbeats 4000000 in
theorem law_c19 (C : LC_ p l s m c b L xs D κ a bb o1 o2) (hH : LH_ s D κ a bb o1 o2 v u v w wd H locs) (hi : iv_ v) (hk : 4 * k + 4 ≤ L) (hc : cells + 1 ≤ room_1.cells ∧ slots + 6 ≤ room_1.slots) (hl : lv_has ls 9 (lb_k b a bb o1 o2 k)) (N : LN_ p l e s m below meth c b D κ a bb o1 o2 k (cells + 1) (slots + 6) Q) : W p l e room_1 s m (lg1_ b) below meth c H locs cells slots Q (F0 m 1120 ls []) := by
  have hx := C.1.1
  have hb := C.1.2.1
  obtain ⟨⟨hxf, hmf, h1f, h2f⟩, n1, n2, n3, n4, n5, n6, hap, hbp⟩ := C.2.2.2.2.2.2.2
  have hc0 : cells ≤ room_1.cells ∧ slots ≤ room_1.slots := ⟨by omega, by omega⟩
  refine lv_aload_n hx hb dL_law_1120 rfl (lv_at hl 1 rfl) ?_
  refine lr_cls (rest := []) (As := []) C hH (c_X0_ruledOut l D κ a v hi.1) g_L_177 n_X0_ruledOut ⟨Nat.le_of_ble_eq_true rfl, Nat.le_of_ble_eq_true rfl⟩ rfl hl.1 rfl (Nat.zero_le _) dL_law_1121 hc0 ?_
  refine lv_aload_n hx hb dL_law_1124 rfl (lv_at hl 2 rfl) ?_
  refine lr_mod (cd := 0) (rest := [.int (nI (go_ v))]) (As := []) C hH (c_X1_ruledOut_ok l D κ bb u v hi.1 hbp) g_L_180 n_X1_ruledOut ⟨Nat.le_of_ble_eq_true rfl, Nat.le_of_ble_eq_true rfl⟩ rfl hl.1 rfl (Nat.le_of_ble_eq_true rfl) dL_law_1125 hc0 (fun H locs hH => ?_)
  refine W.widen (k := cells + 1) (n := slots + 6) (by omega) (by omega) ?_
  exact lv_icmp_eq (tgt := 1818) hx hb dL_law_1128 (by decide) (fun _ => N v 0 w wd H locs ls hi hH hl) (fun z => absurd rfl z)
set_option maxHeartbeats 4000000 in
theorem law_c20 (C : LC_ p l s m c b L xs D κ a bb o1 o2) (hH : LH_ s D κ a bb o1 o2 v u v w wd H locs) (hi : iv_ v) (hk : 4 * k + 4 ≤ L) (hc : cells + 1 ≤ room_1.cells ∧ slots + 6 ≤ room_1.slots) (hl : lv_has ls 9 (lb_k b a bb o1 o2 k)) (N : LN_ p l e s m below meth c b D κ a bb o1 o2 k (cells + 1) (slots + 6) Q) : W p l e room_1 s m (lg1_ b) below meth c H locs cells slots Q (F0 m 1133 ls []) := by
  have hx := C.1.1
  have hb := C.1.2.1
  obtain ⟨⟨hxf, hmf, h1f, h2f⟩, n1, n2, n3, n4, n5, n6, hap, hbp⟩ := C.2.2.2.2.2.2.2
  obtain ⟨cd, r, rb, v2, hcd, hP1, hP2, hr, hi2⟩ := op_coinPercent l C.2.2.2.2.2.1 D κ a bb v hi hap hbp o1 n1 w u (xs (4 * k + 1))
  refine lv_aload_n hx hb dL_law_1133 rfl (lv_at hl 1 rfl) ?_
  refine lv_aload_n hx hb dL_law_1134 rfl (lv_at hl 0 rfl) ?_
  refine lv_iload hx hb dL_law_1135 (lv_at hl 5 rfl) ?_
  refine lv_iconst (v := nI 1) hx hb dL_law_1137 (by decide) ?_
  refine nv_iadd (r := 4 * k + 1) hx hb dL_law_1138 rfl ?_
  refine lr_sld (j := 4 * k + 1) C hH (by omega) dL_law_1139 ?_
  refine lv_aload_n hx hb dL_law_1140 rfl (lv_at hl 3 rfl) ?_
  refine lr_help (As := [.ref (a 0), .int (xs (4 * k + 1)), .ref o1]) C hH hP1 g_L_181 n_L_coinPercent ⟨Nat.le_of_ble_eq_true rfl, Nat.le_of_ble_eq_true rfl⟩ rfl hl.1 rfl dL_law_1141 hc (fun H locs w hH hw => ?_)
  refine lv_istore (lv' := (6, .int (nI cd)) :: lb_k b a bb o1 o2 k) hx hb dL_law_1144 hl (by decide) rfl (fun ls hl => ?_)
  refine lv_aload_n hx hb dL_law_1146 rfl (lv_at hl 3 rfl) ?_
  refine lv_aload_n hx hb dL_law_1147 rfl (lv_at hl 1 rfl) ?_
  refine lv_iload hx hb dL_law_1148 (lv_at hl 6 rfl) ?_
  refine lv_iconst (v := nI 1) hx hb dL_law_1150 (by decide) ?_
  refine nv_iadd (r := 4 * k + 1) hx hb dL_law_1151 rfl ?_
  refine lr_sld (j := 4 * k + 1) C hH (by omega) dL_law_1152 ?_
  refine lr_mod (cd := cd) (rest := []) (As := [.int (xs (4 * k + 1))]) C hH hP2 g_L_183 n_X1_coinPercent ⟨Nat.le_of_ble_eq_true rfl, Nat.le_of_ble_eq_true rfl⟩ rfl hl.1 rfl (Nat.zero_le _) dL_law_1153 hc (fun H locs hH => ?_)
  exact law_tI C hH hi2 hc hl hcd hw hr N dL_law_1156 dL_law_1158 dL_law_1159 dL_law_1162 dL_law_1164 dL_law_1169 dL_law_1171 dL_law_1174 dL_law_1175 dL_law_1176 dL_law_1177 dL_law_1179 dL_law_1180 dL_law_1181 dL_law_1186 (by decide)
set_option maxHeartbeats 4000000 in
theorem law_c21 (C : LC_ p l s m c b L xs D κ a bb o1 o2) (hH : LH_ s D κ a bb o1 o2 v u v w wd H locs) (hi : iv_ v) (hk : 4 * k + 4 ≤ L) (hc : cells + 1 ≤ room_1.cells ∧ slots + 6 ≤ room_1.slots) (hl : lv_has ls 9 (lb_k b a bb o1 o2 k)) (N : LN_ p l e s m below meth c b D κ a bb o1 o2 k (cells + 1) (slots + 6) Q) : W p l e room_1 s m (lg1_ b) below meth c H locs cells slots Q (F0 m 1189 ls []) := by
  have hx := C.1.1
  have hb := C.1.2.1
  obtain ⟨⟨hxf, hmf, h1f, h2f⟩, n1, n2, n3, n4, n5, n6, hap, hbp⟩ := C.2.2.2.2.2.2.2
  obtain ⟨cd, r, rb, v2, hcd, hP1, hP2, hr, hi2⟩ := op_schoolPercent l C.2.2.2.2.2.1 D κ a bb v hi hap hbp o1 n1 w u (xs (4 * k + 1))
  refine lv_aload_n hx hb dL_law_1189 rfl (lv_at hl 1 rfl) ?_
  refine lv_aload_n hx hb dL_law_1190 rfl (lv_at hl 0 rfl) ?_
  refine lv_iload hx hb dL_law_1191 (lv_at hl 5 rfl) ?_
  refine lv_iconst (v := nI 1) hx hb dL_law_1193 (by decide) ?_
  refine nv_iadd (r := 4 * k + 1) hx hb dL_law_1194 rfl ?_
  refine lr_sld (j := 4 * k + 1) C hH (by omega) dL_law_1195 ?_
  refine lv_aload_n hx hb dL_law_1196 rfl (lv_at hl 3 rfl) ?_
  refine lr_help (As := [.ref (a 0), .int (xs (4 * k + 1)), .ref o1]) C hH hP1 g_L_184 n_L_schoolPercent ⟨Nat.le_of_ble_eq_true rfl, Nat.le_of_ble_eq_true rfl⟩ rfl hl.1 rfl dL_law_1197 hc (fun H locs w hH hw => ?_)
  refine lv_istore (lv' := (6, .int (nI cd)) :: lb_k b a bb o1 o2 k) hx hb dL_law_1200 hl (by decide) rfl (fun ls hl => ?_)
  refine lv_aload_n hx hb dL_law_1202 rfl (lv_at hl 3 rfl) ?_
  refine lv_aload_n hx hb dL_law_1203 rfl (lv_at hl 1 rfl) ?_
  refine lv_iload hx hb dL_law_1204 (lv_at hl 6 rfl) ?_
  refine lv_iconst (v := nI 1) hx hb dL_law_1206 (by decide) ?_
  refine nv_iadd (r := 4 * k + 1) hx hb dL_law_1207 rfl ?_
  refine lr_sld (j := 4 * k + 1) C hH (by omega) dL_law_1208 ?_
  refine lr_mod (cd := cd) (rest := []) (As := [.int (xs (4 * k + 1))]) C hH hP2 g_L_186 n_X1_schoolPercent ⟨Nat.le_of_ble_eq_true rfl, Nat.le_of_ble_eq_true rfl⟩ rfl hl.1 rfl (Nat.zero_le _) dL_law_1209 hc (fun H locs hH => ?_)
  exact law_tI C hH hi2 hc hl hcd hw hr N dL_law_1212 dL_law_1214 dL_law_1215 dL_law_1218 dL_law_1220 dL_law_1225 dL_law_1227 dL_law_1230 dL_law_1231 dL_law_1232 dL_law_1233 dL_law_1235 dL_law_1236 dL_law_1237 dL_law_1242 (by decide)
set_option maxHeartbeats 4000000 in
theorem law_c22 (C : LC_ p l s m c b L xs D κ a bb o1 o2) (hH : LH_ s D κ a bb o1 o2 v u v w wd H locs) (hi : iv_ v) (hk : 4 * k + 4 ≤ L) (hc : cells + 1 ≤ room_1.cells ∧ slots + 6 ≤ room_1.slots) (hl : lv_has ls 9 (lb_k b a bb o1 o2 k)) (N : LN_ p l e s m below meth c b D κ a bb o1 o2 k (cells + 1) (slots + 6) Q) : W p l e room_1 s m (lg1_ b) below meth c H locs cells slots Q (F0 m 1245 ls []) := by
  have hx := C.1.1
  have hb := C.1.2.1
  obtain ⟨⟨hxf, hmf, h1f, h2f⟩, n1, n2, n3, n4, n5, n6, hap, hbp⟩ := C.2.2.2.2.2.2.2
  obtain ⟨cd, r, rb, v2, hcd, hP1, hP2, hr, hi2⟩ := op_leadingCoin l C.2.2.2.2.2.1 D κ a bb v hi hap hbp o1 n1 w u
  refine lv_aload_n hx hb dL_law_1245 rfl (lv_at hl 1 rfl) ?_
  refine lv_aload_n hx hb dL_law_1246 rfl (lv_at hl 3 rfl) ?_
  refine lr_help (As := [.ref (a 0), .ref o1]) C hH hP1 g_L_187 n_L_leadingCoin ⟨Nat.le_of_ble_eq_true rfl, Nat.le_of_ble_eq_true rfl⟩ rfl hl.1 rfl dL_law_1247 hc (fun H locs w hH hw => ?_)
  refine lv_istore (lv' := (6, .int (nI cd)) :: lb_k b a bb o1 o2 k) hx hb dL_law_1250 hl (by decide) rfl (fun ls hl => ?_)
  refine lv_aload_n hx hb dL_law_1252 rfl (lv_at hl 3 rfl) ?_
  refine lr_mod (cd := cd) (rest := []) (As := []) C hH hP2 g_L_189 n_X1_leadingCoin ⟨Nat.le_of_ble_eq_true rfl, Nat.le_of_ble_eq_true rfl⟩ rfl hl.1 rfl (Nat.zero_le _) dL_law_1253 hc (fun H locs hH => ?_)
  exact law_tI C hH hi2 hc hl hcd hw hr N dL_law_1256 dL_law_1258 dL_law_1259 dL_law_1262 dL_law_1264 dL_law_1269 dL_law_1271 dL_law_1274 dL_law_1275 dL_law_1276 dL_law_1277 dL_law_1279 dL_law_1280 dL_law_1281 dL_law_1286 (by decide)
set_option maxHeartbeats 4000000 in
theorem law_c23 (C : LC_ p l s m c b L xs D κ a bb o1 o2) (hH : LH_ s D κ a bb o1 o2 v u v w wd H locs) (hi : iv_ v) (hk : 4 * k + 4 ≤ L) (hc : cells + 1 ≤ room_1.cells ∧ slots + 6 ≤ room_1.slots) (hl : lv_has ls 9 (lb_k b a bb o1 o2 k)) (N : LN_ p l e s m below meth c b D κ a bb o1 o2 k (cells + 1) (slots + 6) Q) : W p l e room_1 s m (lg1_ b) below meth c H locs cells slots Q (F0 m 1289 ls []) := by
  have hx := C.1.1
  have hb := C.1.2.1
  obtain ⟨⟨hxf, hmf, h1f, h2f⟩, n1, n2, n3, n4, n5, n6, hap, hbp⟩ := C.2.2.2.2.2.2.2
  obtain ⟨cd, r, rb, v2, hcd, hP1, hP2, hr, hi2⟩ := op_leadingSchool l C.2.2.2.2.2.1 D κ a bb v hi hap hbp o1 n1 w u
  refine lv_aload_n hx hb dL_law_1289 rfl (lv_at hl 1 rfl) ?_
  refine lv_aload_n hx hb dL_law_1290 rfl (lv_at hl 3 rfl) ?_
  refine lr_help (As := [.ref (a 0), .ref o1]) C hH hP1 g_L_190 n_L_leadingSchool ⟨Nat.le_of_ble_eq_true rfl, Nat.le_of_ble_eq_true rfl⟩ rfl hl.1 rfl dL_law_1291 hc (fun H locs w hH hw => ?_)
  refine lv_istore (lv' := (6, .int (nI cd)) :: lb_k b a bb o1 o2 k) hx hb dL_law_1294 hl (by decide) rfl (fun ls hl => ?_)
  refine lv_aload_n hx hb dL_law_1296 rfl (lv_at hl 3 rfl) ?_
  refine lr_mod (cd := cd) (rest := []) (As := []) C hH hP2 g_L_192 n_X1_leadingSchool ⟨Nat.le_of_ble_eq_true rfl, Nat.le_of_ble_eq_true rfl⟩ rfl hl.1 rfl (Nat.zero_le _) dL_law_1297 hc (fun H locs hH => ?_)
  exact law_tI C hH hi2 hc hl hcd hw hr N dL_law_1300 dL_law_1302 dL_law_1303 dL_law_1306 dL_law_1308 dL_law_1313 dL_law_1315 dL_law_1318 dL_law_1319 dL_law_1320 dL_law_1321 dL_law_1323 dL_law_1324 dL_law_1325 dL_law_1330 (by decide)
set_option maxHeartbeats 4000000 in
theorem law_c24 (C : LC_ p l s m c b L xs D κ a bb o1 o2) (hH : LH_ s D κ a bb o1 o2 v u v w wd H locs) (hi : iv_ v) (hk : 4 * k + 4 ≤ L) (hc : cells + 1 ≤ room_1.cells ∧ slots + 6 ≤ room_1.slots) (hl : lv_has ls 9 (lb_k b a bb o1 o2 k)) (N : LN_ p l e s m below meth c b D κ a bb o1 o2 k (cells + 1) (slots + 6) Q) : W p l e room_1 s m (lg1_ b) below meth c H locs cells slots Q (F0 m 1333 ls []) := by
  have hx := C.1.1
  have hb := C.1.2.1
  obtain ⟨⟨hxf, hmf, h1f, h2f⟩, n1, n2, n3, n4, n5, n6, hap, hbp⟩ := C.2.2.2.2.2.2.2
  obtain ⟨cd, r, rb, v2, hcd, hP1, hP2, hr, hi2⟩ := op_oddsAgainst l C.2.2.2.2.2.1 D κ a bb v hi hap hbp o1 n1 w u (xs (4 * k + 1)) (xs (4 * k + 2))
  refine lv_aload_n hx hb dL_law_1333 rfl (lv_at hl 1 rfl) ?_
  refine lv_aload_n hx hb dL_law_1334 rfl (lv_at hl 0 rfl) ?_
  refine lv_iload hx hb dL_law_1335 (lv_at hl 5 rfl) ?_
  refine lv_iconst (v := nI 1) hx hb dL_law_1337 (by decide) ?_
  refine nv_iadd (r := 4 * k + 1) hx hb dL_law_1338 rfl ?_
  refine lr_sld (j := 4 * k + 1) C hH (by omega) dL_law_1339 ?_
  refine lv_aload_n hx hb dL_law_1340 rfl (lv_at hl 0 rfl) ?_
  refine lv_iload hx hb dL_law_1341 (lv_at hl 5 rfl) ?_
  refine lv_iconst (v := nI 2) hx hb dL_law_1343 (by decide) ?_
  refine nv_iadd (r := 4 * k + 2) hx hb dL_law_1344 rfl ?_
  refine lr_sld (j := 4 * k + 2) C hH (by omega) dL_law_1345 ?_
  refine lv_aload_n hx hb dL_law_1346 rfl (lv_at hl 3 rfl) ?_
  refine lr_help (As := [.ref (a 0), .int (xs (4 * k + 1)), .int (xs (4 * k + 2)), .ref o1]) C hH hP1 g_L_193 n_L_oddsAgainst ⟨Nat.le_of_ble_eq_true rfl, Nat.le_of_ble_eq_true rfl⟩ rfl hl.1 rfl dL_law_1347 hc (fun H locs w hH hw => ?_)
  refine lv_istore (lv' := (6, .int (nI cd)) :: lb_k b a bb o1 o2 k) hx hb dL_law_1350 hl (by decide) rfl (fun ls hl => ?_)
  refine lv_aload_n hx hb dL_law_1352 rfl (lv_at hl 3 rfl) ?_
  refine lv_aload_n hx hb dL_law_1353 rfl (lv_at hl 1 rfl) ?_
  refine lv_iload hx hb dL_law_1354 (lv_at hl 6 rfl) ?_
  refine lv_iconst (v := nI 1) hx hb dL_law_1356 (by decide) ?_
  refine nv_iadd (r := 4 * k + 1) hx hb dL_law_1357 rfl ?_
  refine lr_sld (j := 4 * k + 1) C hH (by omega) dL_law_1358 ?_
  refine lv_aload_n hx hb dL_law_1359 rfl (lv_at hl 1 rfl) ?_
  refine lv_iload hx hb dL_law_1360 (lv_at hl 6 rfl) ?_
  refine lv_iconst (v := nI 2) hx hb dL_law_1362 (by decide) ?_
  refine nv_iadd (r := 4 * k + 2) hx hb dL_law_1363 rfl ?_
  refine lr_sld (j := 4 * k + 2) C hH (by omega) dL_law_1364 ?_
  refine lr_mod (cd := cd) (rest := []) (As := [.int (xs (4 * k + 1)), .int (xs (4 * k + 2))]) C hH hP2 g_L_195 n_X1_oddsAgainst ⟨Nat.le_of_ble_eq_true rfl, Nat.le_of_ble_eq_true rfl⟩ rfl hl.1 rfl (Nat.zero_le _) dL_law_1365 hc (fun H locs hH => ?_)
  exact law_tL C hH hi2 hc hl hcd hw hr N dL_law_1368 dL_law_1370 dL_law_1371 dL_law_1374 dL_law_1376 dL_law_1381 dL_law_1383 dL_law_1386 dL_law_1387 dL_law_1388 dL_law_1389 dL_law_1391 dL_law_1392 dL_law_1397 (by decide)
set_option maxHeartbeats 4000000 in
theorem law_c25 (C : LC_ p l s m c b L xs D κ a bb o1 o2) (hH : LH_ s D κ a bb o1 o2 v u v w wd H locs) (hi : iv_ v) (hk : 4 * k + 4 ≤ L) (hc : cells + 1 ≤ room_1.cells ∧ slots + 6 ≤ room_1.slots) (hl : lv_has ls 9 (lb_k b a bb o1 o2 k)) (N : LN_ p l e s m below meth c b D κ a bb o1 o2 k (cells + 1) (slots + 6) Q) : W p l e room_1 s m (lg1_ b) below meth c H locs cells slots Q (F0 m 1400 ls []) := by
  have hx := C.1.1
  have hb := C.1.2.1
  obtain ⟨⟨hxf, hmf, h1f, h2f⟩, n1, n2, n3, n4, n5, n6, hap, hbp⟩ := C.2.2.2.2.2.2.2
  obtain ⟨cd, r, rb, v2, hcd, hP1, hP2, hr, hi2⟩ := op_surpriseOf l C.2.2.2.2.2.1 D κ a bb v hi hap hbp o1 n1 w u (xs (4 * k + 1))
  refine lv_aload_n hx hb dL_law_1400 rfl (lv_at hl 1 rfl) ?_
  refine lv_aload_n hx hb dL_law_1401 rfl (lv_at hl 0 rfl) ?_
  refine lv_iload hx hb dL_law_1402 (lv_at hl 5 rfl) ?_
  refine lv_iconst (v := nI 1) hx hb dL_law_1404 (by decide) ?_
  refine nv_iadd (r := 4 * k + 1) hx hb dL_law_1405 rfl ?_
  refine lr_sld (j := 4 * k + 1) C hH (by omega) dL_law_1406 ?_
  refine lv_aload_n hx hb dL_law_1407 rfl (lv_at hl 3 rfl) ?_
  refine lr_help (As := [.ref (a 0), .int (xs (4 * k + 1)), .ref o1]) C hH hP1 g_L_196 n_L_surpriseOf ⟨Nat.le_of_ble_eq_true rfl, Nat.le_of_ble_eq_true rfl⟩ rfl hl.1 rfl dL_law_1408 hc (fun H locs w hH hw => ?_)
  refine lv_istore (lv' := (6, .int (nI cd)) :: lb_k b a bb o1 o2 k) hx hb dL_law_1411 hl (by decide) rfl (fun ls hl => ?_)
  refine lv_aload_n hx hb dL_law_1413 rfl (lv_at hl 3 rfl) ?_
  refine lv_aload_n hx hb dL_law_1414 rfl (lv_at hl 1 rfl) ?_
  refine lv_iload hx hb dL_law_1415 (lv_at hl 6 rfl) ?_
  refine lv_iconst (v := nI 1) hx hb dL_law_1417 (by decide) ?_
  refine nv_iadd (r := 4 * k + 1) hx hb dL_law_1418 rfl ?_
  refine lr_sld (j := 4 * k + 1) C hH (by omega) dL_law_1419 ?_
  refine lr_mod (cd := cd) (rest := []) (As := [.int (xs (4 * k + 1))]) C hH hP2 g_L_198 n_X1_surpriseOf ⟨Nat.le_of_ble_eq_true rfl, Nat.le_of_ble_eq_true rfl⟩ rfl hl.1 rfl (Nat.zero_le _) dL_law_1420 hc (fun H locs hH => ?_)
  exact law_tI C hH hi2 hc hl hcd hw hr N dL_law_1423 dL_law_1425 dL_law_1426 dL_law_1429 dL_law_1431 dL_law_1436 dL_law_1438 dL_law_1441 dL_law_1442 dL_law_1443 dL_law_1444 dL_law_1446 dL_law_1447 dL_law_1448 dL_law_1453 (by decide)
set_option maxHeartbeats 4000000 in
theorem law_c26 (C : LC_ p l s m c b L xs D κ a bb o1 o2) (hH : LH_ s D κ a bb o1 o2 v u v w wd H locs) (hi : iv_ v) (hk : 4 * k + 4 ≤ L) (hc : cells + 1 ≤ room_1.cells ∧ slots + 6 ≤ room_1.slots) (hl : lv_has ls 9 (lb_k b a bb o1 o2 k)) (N : LN_ p l e s m below meth c b D κ a bb o1 o2 k (cells + 1) (slots + 6) Q) : W p l e room_1 s m (lg1_ b) below meth c H locs cells slots Q (F0 m 1456 ls []) := by
  have hx := C.1.1
  have hb := C.1.2.1
  obtain ⟨⟨hxf, hmf, h1f, h2f⟩, n1, n2, n3, n4, n5, n6, hap, hbp⟩ := C.2.2.2.2.2.2.2
  have hc0 : cells ≤ room_1.cells ∧ slots ≤ room_1.slots := ⟨by omega, by omega⟩
  refine lv_aload_n hx hb dL_law_1456 rfl (lv_at hl 1 rfl) ?_
  refine lr_cls (rest := []) (As := []) C hH (c_X0_allSurprise l D κ a v hi.1) g_L_199 n_X0_allSurprise ⟨Nat.le_of_ble_eq_true rfl, Nat.le_of_ble_eq_true rfl⟩ rfl hl.1 rfl (Nat.zero_le _) dL_law_1457 hc0 ?_
  refine lv_aload_n hx hb dL_law_1460 rfl (lv_at hl 2 rfl) ?_
  refine lr_mod (cd := 0) (rest := [.int (nI (as_ v))]) (As := []) C hH (c_X1_allSurprise_ok l D κ bb u v hi.1 hbp (pp_of hi)) g_L_202 n_X1_allSurprise ⟨Nat.le_of_ble_eq_true rfl, Nat.le_of_ble_eq_true rfl⟩ rfl hl.1 rfl (Nat.le_of_ble_eq_true rfl) dL_law_1461 hc0 (fun H locs hH => ?_)
  refine W.widen (k := cells + 1) (n := slots + 6) (by omega) (by omega) ?_
  exact lv_icmp_eq (tgt := 1818) hx hb dL_law_1464 (by decide) (fun _ => N v 0 w wd H locs ls hi hH hl) (fun z => absurd rfl z)
set_option maxHeartbeats 4000000 in
theorem law_c27 (C : LC_ p l s m c b L xs D κ a bb o1 o2) (hH : LH_ s D κ a bb o1 o2 v u v w wd H locs) (hi : iv_ v) (hk : 4 * k + 4 ≤ L) (hc : cells + 1 ≤ room_1.cells ∧ slots + 6 ≤ room_1.slots) (hl : lv_has ls 9 (lb_k b a bb o1 o2 k)) (N : LN_ p l e s m below meth c b D κ a bb o1 o2 k (cells + 1) (slots + 6) Q) : W p l e room_1 s m (lg1_ b) below meth c H locs cells slots Q (F0 m 1469 ls []) := by
  have hx := C.1.1
  have hb := C.1.2.1
  obtain ⟨⟨hxf, hmf, h1f, h2f⟩, n1, n2, n3, n4, n5, n6, hap, hbp⟩ := C.2.2.2.2.2.2.2
  have hc0 : cells ≤ room_1.cells ∧ slots ≤ room_1.slots := ⟨by omega, by omega⟩
  refine lv_aload_n hx hb dL_law_1469 rfl (lv_at hl 1 rfl) ?_
  refine lr_cls (rest := []) (As := []) C hH (c_X0_greatestSurprise l D κ a v hi.1) g_L_203 n_X0_greatestSurprise ⟨Nat.le_of_ble_eq_true rfl, Nat.le_of_ble_eq_true rfl⟩ rfl hl.1 rfl (Nat.zero_le _) dL_law_1470 hc0 ?_
  refine lv_aload_n hx hb dL_law_1473 rfl (lv_at hl 2 rfl) ?_
  refine lr_mod (cd := 0) (rest := [.int (fS_ v (vs_t v))]) (As := []) C hH (c_X1_greatestSurprise_ok l D κ bb u v hi.1 hbp (pp_of hi)) g_L_206 n_X1_greatestSurprise ⟨Nat.le_of_ble_eq_true rfl, Nat.le_of_ble_eq_true rfl⟩ rfl hl.1 rfl (Nat.le_of_ble_eq_true rfl) dL_law_1474 hc0 (fun H locs hH => ?_)
  refine W.widen (k := cells + 1) (n := slots + 6) (by omega) (by omega) ?_
  exact lv_icmp_eq (tgt := 1818) hx hb dL_law_1477 (by decide) (fun _ => N v 0 w wd H locs ls hi hH hl) (fun z => absurd rfl z)
set_option maxHeartbeats 4000000 in
theorem law_c28 (C : LC_ p l s m c b L xs D κ a bb o1 o2) (hH : LH_ s D κ a bb o1 o2 v u v w wd H locs) (hi : iv_ v) (hk : 4 * k + 4 ≤ L) (hc : cells + 1 ≤ room_1.cells ∧ slots + 6 ≤ room_1.slots) (hl : lv_has ls 9 (lb_k b a bb o1 o2 k)) (N : LN_ p l e s m below meth c b D κ a bb o1 o2 k (cells + 1) (slots + 6) Q) : W p l e room_1 s m (lg1_ b) below meth c H locs cells slots Q (F0 m 1482 ls []) := by
  have hx := C.1.1
  have hb := C.1.2.1
  obtain ⟨⟨hxf, hmf, h1f, h2f⟩, n1, n2, n3, n4, n5, n6, hap, hbp⟩ := C.2.2.2.2.2.2.2
  obtain ⟨cd, r, rb, v2, hcd, hP1, hP2, hr, hi2⟩ := op_headsPercent l C.2.2.2.2.2.1 D κ a bb v hi hap hbp o1 n1 w u
  refine lv_aload_n hx hb dL_law_1482 rfl (lv_at hl 1 rfl) ?_
  refine lv_aload_n hx hb dL_law_1483 rfl (lv_at hl 3 rfl) ?_
  refine lr_help (As := [.ref (a 0), .ref o1]) C hH hP1 g_L_207 n_L_headsPercent ⟨Nat.le_of_ble_eq_true rfl, Nat.le_of_ble_eq_true rfl⟩ rfl hl.1 rfl dL_law_1484 hc (fun H locs w hH hw => ?_)
  refine lv_istore (lv' := (6, .int (nI cd)) :: lb_k b a bb o1 o2 k) hx hb dL_law_1487 hl (by decide) rfl (fun ls hl => ?_)
  refine lv_aload_n hx hb dL_law_1489 rfl (lv_at hl 3 rfl) ?_
  refine lr_mod (cd := cd) (rest := []) (As := []) C hH hP2 g_L_209 n_X1_headsPercent ⟨Nat.le_of_ble_eq_true rfl, Nat.le_of_ble_eq_true rfl⟩ rfl hl.1 rfl (Nat.zero_le _) dL_law_1490 hc (fun H locs hH => ?_)
  exact law_tI C hH hi2 hc hl hcd hw hr N dL_law_1493 dL_law_1495 dL_law_1496 dL_law_1499 dL_law_1501 dL_law_1506 dL_law_1508 dL_law_1511 dL_law_1512 dL_law_1513 dL_law_1514 dL_law_1516 dL_law_1517 dL_law_1518 dL_law_1523 (by decide)
set_option maxHeartbeats 4000000 in
theorem law_c29 (C : LC_ p l s m c b L xs D κ a bb o1 o2) (hH : LH_ s D κ a bb o1 o2 v u v w wd H locs) (hi : iv_ v) (hk : 4 * k + 4 ≤ L) (hc : cells + 1 ≤ room_1.cells ∧ slots + 6 ≤ room_1.slots) (hl : lv_has ls 9 (lb_k b a bb o1 o2 k)) (N : LN_ p l e s m below meth c b D κ a bb o1 o2 k (cells + 1) (slots + 6) Q) : W p l e room_1 s m (lg1_ b) below meth c H locs cells slots Q (F0 m 1526 ls []) := by
  have hx := C.1.1
  have hb := C.1.2.1
  obtain ⟨⟨hxf, hmf, h1f, h2f⟩, n1, n2, n3, n4, n5, n6, hap, hbp⟩ := C.2.2.2.2.2.2.2
  obtain ⟨cd, r, rb, v2, hcd, hP1, hP2, hr, hi2⟩ := op_wouldSurprise l C.2.2.2.2.2.1 D κ a bb v hi hap hbp o1 n1 w u (zb_ (xs (4 * k + 1)))
  refine lv_aload_n hx hb dL_law_1526 rfl (lv_at hl 1 rfl) ?_
  refine lv_aload_n hx hb dL_law_1527 rfl (lv_at hl 0 rfl) ?_
  refine lv_iload hx hb dL_law_1528 (lv_at hl 5 rfl) ?_
  refine lv_iconst (v := nI 1) hx hb dL_law_1530 (by decide) ?_
  refine nv_iadd (r := 4 * k + 1) hx hb dL_law_1531 rfl ?_
  refine lr_sld (j := 4 * k + 1) C hH (by omega) dL_law_1532 ?_
  refine lr_bool (q := 1533) C dL_law_1533 dL_law_1536 dL_law_1537 dL_law_1540 ?_
  refine lv_aload_n hx hb dL_law_1541 rfl (lv_at hl 3 rfl) ?_
  refine lr_help (As := [.ref (a 0), .int (bI (zb_ (xs (4 * k + 1)))), .ref o1]) C hH hP1 g_L_210 n_L_wouldSurprise ⟨Nat.le_of_ble_eq_true rfl, Nat.le_of_ble_eq_true rfl⟩ rfl hl.1 rfl dL_law_1542 hc (fun H locs w hH hw => ?_)
  refine lv_istore (lv' := (6, .int (nI cd)) :: lb_k b a bb o1 o2 k) hx hb dL_law_1545 hl (by decide) rfl (fun ls hl => ?_)
  refine lv_aload_n hx hb dL_law_1547 rfl (lv_at hl 3 rfl) ?_
  refine lv_aload_n hx hb dL_law_1548 rfl (lv_at hl 1 rfl) ?_
  refine lv_iload hx hb dL_law_1549 (lv_at hl 6 rfl) ?_
  refine lv_iconst (v := nI 1) hx hb dL_law_1551 (by decide) ?_
  refine nv_iadd (r := 4 * k + 1) hx hb dL_law_1552 rfl ?_
  refine lr_sld (j := 4 * k + 1) C hH (by omega) dL_law_1553 ?_
  refine lr_bool (q := 1554) C dL_law_1554 dL_law_1557 dL_law_1558 dL_law_1561 ?_
  refine lr_mod (cd := cd) (rest := []) (As := [.int (bI (zb_ (xs (4 * k + 1))))]) C hH hP2 g_L_212 n_X1_wouldSurprise ⟨Nat.le_of_ble_eq_true rfl, Nat.le_of_ble_eq_true rfl⟩ rfl hl.1 rfl (Nat.zero_le _) dL_law_1562 hc (fun H locs hH => ?_)
  exact law_tI C hH hi2 hc hl hcd hw hr N dL_law_1565 dL_law_1567 dL_law_1568 dL_law_1571 dL_law_1573 dL_law_1578 dL_law_1580 dL_law_1583 dL_law_1584 dL_law_1585 dL_law_1586 dL_law_1588 dL_law_1589 dL_law_1590 dL_law_1595 (by decide)
set_option maxHeartbeats 4000000 in
theorem law_c30 (C : LC_ p l s m c b L xs D κ a bb o1 o2) (hH : LH_ s D κ a bb o1 o2 v u v w wd H locs) (hi : iv_ v) (hk : 4 * k + 4 ≤ L) (hc : cells + 1 ≤ room_1.cells ∧ slots + 6 ≤ room_1.slots) (hl : lv_has ls 9 (lb_k b a bb o1 o2 k)) (N : LN_ p l e s m below meth c b D κ a bb o1 o2 k (cells + 1) (slots + 6) Q) : W p l e room_1 s m (lg1_ b) below meth c H locs cells slots Q (F0 m 1598 ls []) := by
  have hx := C.1.1
  have hb := C.1.2.1
  obtain ⟨⟨hxf, hmf, h1f, h2f⟩, n1, n2, n3, n4, n5, n6, hap, hbp⟩ := C.2.2.2.2.2.2.2
  obtain ⟨cd, r, rb, v2, hcd, hP1, hP2, hr, hi2⟩ := op_leaderBehind l C.2.2.2.2.2.1 D κ a bb v hi hap hbp o1 n1 w u (zb_ (xs (4 * k + 1)))
  refine lv_aload_n hx hb dL_law_1598 rfl (lv_at hl 1 rfl) ?_
  refine lv_aload_n hx hb dL_law_1599 rfl (lv_at hl 0 rfl) ?_
  refine lv_iload hx hb dL_law_1600 (lv_at hl 5 rfl) ?_
  refine lv_iconst (v := nI 1) hx hb dL_law_1602 (by decide) ?_
  refine nv_iadd (r := 4 * k + 1) hx hb dL_law_1603 rfl ?_
  refine lr_sld (j := 4 * k + 1) C hH (by omega) dL_law_1604 ?_
  refine lr_bool (q := 1605) C dL_law_1605 dL_law_1608 dL_law_1609 dL_law_1612 ?_
  refine lv_aload_n hx hb dL_law_1613 rfl (lv_at hl 3 rfl) ?_
  refine lr_help (As := [.ref (a 0), .int (bI (zb_ (xs (4 * k + 1)))), .ref o1]) C hH hP1 g_L_213 n_L_leaderBehind ⟨Nat.le_of_ble_eq_true rfl, Nat.le_of_ble_eq_true rfl⟩ rfl hl.1 rfl dL_law_1614 hc (fun H locs w hH hw => ?_)
  refine lv_istore (lv' := (6, .int (nI cd)) :: lb_k b a bb o1 o2 k) hx hb dL_law_1617 hl (by decide) rfl (fun ls hl => ?_)
  refine lv_aload_n hx hb dL_law_1619 rfl (lv_at hl 3 rfl) ?_
  refine lv_aload_n hx hb dL_law_1620 rfl (lv_at hl 1 rfl) ?_
  refine lv_iload hx hb dL_law_1621 (lv_at hl 6 rfl) ?_
  refine lv_iconst (v := nI 1) hx hb dL_law_1623 (by decide) ?_
  refine nv_iadd (r := 4 * k + 1) hx hb dL_law_1624 rfl ?_
  refine lr_sld (j := 4 * k + 1) C hH (by omega) dL_law_1625 ?_
  refine lr_bool (q := 1626) C dL_law_1626 dL_law_1629 dL_law_1630 dL_law_1633 ?_
  refine lr_mod (cd := cd) (rest := []) (As := [.int (bI (zb_ (xs (4 * k + 1))))]) C hH hP2 g_L_215 n_X1_leaderBehind ⟨Nat.le_of_ble_eq_true rfl, Nat.le_of_ble_eq_true rfl⟩ rfl hl.1 rfl (Nat.zero_le _) dL_law_1634 hc (fun H locs hH => ?_)
  exact law_tI C hH hi2 hc hl hcd hw hr N dL_law_1637 dL_law_1639 dL_law_1640 dL_law_1643 dL_law_1645 dL_law_1650 dL_law_1652 dL_law_1655 dL_law_1656 dL_law_1657 dL_law_1658 dL_law_1660 dL_law_1661 dL_law_1662 dL_law_1667 (by decide)
set_option maxHeartbeats 4000000 in
theorem law_c31 (C : LC_ p l s m c b L xs D κ a bb o1 o2) (hH : LH_ s D κ a bb o1 o2 v u v w wd H locs) (hi : iv_ v) (hk : 4 * k + 4 ≤ L) (hc : cells + 1 ≤ room_1.cells ∧ slots + 6 ≤ room_1.slots) (hl : lv_has ls 9 (lb_k b a bb o1 o2 k)) (N : LN_ p l e s m below meth c b D κ a bb o1 o2 k (cells + 1) (slots + 6) Q) : W p l e room_1 s m (lg1_ b) below meth c H locs cells slots Q (F0 m 1670 ls []) := by
  have hx := C.1.1
  have hb := C.1.2.1
  obtain ⟨⟨hxf, hmf, h1f, h2f⟩, n1, n2, n3, n4, n5, n6, hap, hbp⟩ := C.2.2.2.2.2.2.2
  obtain ⟨cd, r, rb, v2, hcd, hP1, hP2, hr, hi2⟩ := op_tossesToLead l C.2.2.2.2.2.1 D κ a bb v hi hap hbp o1 n1 w u (xs (4 * k + 1))
  refine lv_aload_n hx hb dL_law_1670 rfl (lv_at hl 1 rfl) ?_
  refine lv_aload_n hx hb dL_law_1671 rfl (lv_at hl 0 rfl) ?_
  refine lv_iload hx hb dL_law_1672 (lv_at hl 5 rfl) ?_
  refine lv_iconst (v := nI 1) hx hb dL_law_1674 (by decide) ?_
  refine nv_iadd (r := 4 * k + 1) hx hb dL_law_1675 rfl ?_
  refine lr_sld (j := 4 * k + 1) C hH (by omega) dL_law_1676 ?_
  refine lv_aload_n hx hb dL_law_1677 rfl (lv_at hl 3 rfl) ?_
  refine lr_help (As := [.ref (a 0), .int (xs (4 * k + 1)), .ref o1]) C hH hP1 g_L_216 n_L_tossesToLead ⟨Nat.le_of_ble_eq_true rfl, Nat.le_of_ble_eq_true rfl⟩ rfl hl.1 rfl dL_law_1678 hc (fun H locs w hH hw => ?_)
  refine lv_istore (lv' := (6, .int (nI cd)) :: lb_k b a bb o1 o2 k) hx hb dL_law_1681 hl (by decide) rfl (fun ls hl => ?_)
  refine lv_aload_n hx hb dL_law_1683 rfl (lv_at hl 3 rfl) ?_
  refine lv_aload_n hx hb dL_law_1684 rfl (lv_at hl 1 rfl) ?_
  refine lv_iload hx hb dL_law_1685 (lv_at hl 6 rfl) ?_
  refine lv_iconst (v := nI 1) hx hb dL_law_1687 (by decide) ?_
  refine nv_iadd (r := 4 * k + 1) hx hb dL_law_1688 rfl ?_
  refine lr_sld (j := 4 * k + 1) C hH (by omega) dL_law_1689 ?_
  refine lr_mod (cd := cd) (rest := []) (As := [.int (xs (4 * k + 1))]) C hH hP2 g_L_218 n_X1_tossesToLead ⟨Nat.le_of_ble_eq_true rfl, Nat.le_of_ble_eq_true rfl⟩ rfl hl.1 rfl (Nat.zero_le _) dL_law_1690 hc (fun H locs hH => ?_)
  exact law_tI C hH hi2 hc hl hcd hw hr N dL_law_1693 dL_law_1695 dL_law_1696 dL_law_1699 dL_law_1701 dL_law_1706 dL_law_1708 dL_law_1711 dL_law_1712 dL_law_1713 dL_law_1714 dL_law_1716 dL_law_1717 dL_law_1718 dL_law_1723 (by decide)
set_option maxHeartbeats 4000000 in
theorem law_c32 (C : LC_ p l s m c b L xs D κ a bb o1 o2) (hH : LH_ s D κ a bb o1 o2 v u v w wd H locs) (hi : iv_ v) (hk : 4 * k + 4 ≤ L) (hc : cells + 1 ≤ room_1.cells ∧ slots + 6 ≤ room_1.slots) (hl : lv_has ls 9 (lb_k b a bb o1 o2 k)) (N : LN_ p l e s m below meth c b D κ a bb o1 o2 k (cells + 1) (slots + 6) Q) : W p l e room_1 s m (lg1_ b) below meth c H locs cells slots Q (F0 m 1726 ls []) := by
  have hx := C.1.1
  have hb := C.1.2.1
  obtain ⟨⟨hxf, hmf, h1f, h2f⟩, n1, n2, n3, n4, n5, n6, hap, hbp⟩ := C.2.2.2.2.2.2.2
  have hc0 : cells ≤ room_1.cells ∧ slots ≤ room_1.slots := ⟨by omega, by omega⟩
  refine lv_aload_n hx hb dL_law_1726 rfl (lv_at hl 1 rfl) ?_
  refine lr_cls (rest := []) (As := []) C hH (c_X0_decisiveTosses l D κ a v hi.1 hi.2.2) g_L_219 n_X0_decisiveTosses ⟨Nat.le_of_ble_eq_true rfl, Nat.le_of_ble_eq_true rfl⟩ rfl hl.1 rfl (Nat.zero_le _) dL_law_1727 hc0 ?_
  refine lv_aload_n hx hb dL_law_1730 rfl (lv_at hl 2 rfl) ?_
  refine lr_mod (cd := 0) (rest := [.int (nI (dc_ v))]) (As := []) C hH (c_X1_decisiveTosses_ok l D κ bb u v hi.1 hbp) g_L_222 n_X1_decisiveTosses ⟨Nat.le_of_ble_eq_true rfl, Nat.le_of_ble_eq_true rfl⟩ rfl hl.1 rfl (Nat.le_of_ble_eq_true rfl) dL_law_1731 hc0 (fun H locs hH => ?_)
  refine W.widen (k := cells + 1) (n := slots + 6) (by omega) (by omega) ?_
  exact lv_icmp_eq (tgt := 1818) hx hb dL_law_1734 (by decide) (fun _ => N v 0 w wd H locs ls hi hH hl) (fun z => absurd rfl z)
set_option maxHeartbeats 4000000 in
theorem law_c33 (C : LC_ p l s m c b L xs D κ a bb o1 o2) (hH : LH_ s D κ a bb o1 o2 v u v w wd H locs) (hi : iv_ v) (hk : 4 * k + 4 ≤ L) (hc : cells + 1 ≤ room_1.cells ∧ slots + 6 ≤ room_1.slots) (hl : lv_has ls 9 (lb_k b a bb o1 o2 k)) (N : LN_ p l e s m below meth c b D κ a bb o1 o2 k (cells + 1) (slots + 6) Q) : W p l e room_1 s m (lg1_ b) below meth c H locs cells slots Q (F0 m 1739 ls []) := by
  have hx := C.1.1
  have hb := C.1.2.1
  obtain ⟨⟨hxf, hmf, h1f, h2f⟩, n1, n2, n3, n4, n5, n6, hap, hbp⟩ := C.2.2.2.2.2.2.2
  obtain ⟨cd, r, rb, v2, hcd, hP1, hP2, hr, hi2⟩ := op_meanTenths l C.2.2.2.2.2.1 D κ a bb v hi hap hbp o2 n2 wd u
  refine lv_aload_n hx hb dL_law_1739 rfl (lv_at hl 1 rfl) ?_
  refine lv_aload hx hb dL_law_1740 (lv_at hl 4 rfl) ?_
  refine lr_helpD (As := [.ref (a 0), .ref o2]) C hH hP1 g_L_223 n_L_meanTenths ⟨Nat.le_of_ble_eq_true rfl, Nat.le_of_ble_eq_true rfl⟩ rfl hl.1 rfl dL_law_1742 hc (fun H locs wd hH hw => ?_)
  refine lv_istore (lv' := (6, .int (nI cd)) :: lb_k b a bb o1 o2 k) hx hb dL_law_1745 hl (by decide) rfl (fun ls hl => ?_)
  refine lv_aload_n hx hb dL_law_1747 rfl (lv_at hl 3 rfl) ?_
  refine lr_mod (cd := cd) (rest := []) (As := []) C hH hP2 g_L_226 n_X1_meanTenths ⟨Nat.le_of_ble_eq_true rfl, Nat.le_of_ble_eq_true rfl⟩ rfl hl.1 rfl (Nat.zero_le _) dL_law_1748 hc (fun H locs hH => ?_)
  exact law_tD C hH hi2 hc hl hcd hw hr N
set_option maxHeartbeats 4000000 in
theorem law_c34 (C : LC_ p l s m c b L xs D κ a bb o1 o2) (hH : LH_ s D κ a bb o1 o2 v u v w wd H locs) (hi : iv_ v) (hk : 4 * k + 4 ≤ L) (hc : cells + 1 ≤ room_1.cells ∧ slots + 6 ≤ room_1.slots) (hl : lv_has ls 9 (lb_k b a bb o1 o2 k)) (N : LN_ p l e s m below meth c b D κ a bb o1 o2 k (cells + 1) (slots + 6) Q) : W p l e room_1 s m (lg1_ b) below meth c H locs cells slots Q (F0 m 1804 ls []) := by
  have hx := C.1.1
  have hb := C.1.2.1
  obtain ⟨⟨hxf, hmf, h1f, h2f⟩, n1, n2, n3, n4, n5, n6, hap, hbp⟩ := C.2.2.2.2.2.2.2
  have hc0 : cells ≤ room_1.cells ∧ slots ≤ room_1.slots := ⟨by omega, by omega⟩
  refine lv_aload_n hx hb dL_law_1804 rfl (lv_at hl 1 rfl) ?_
  refine lr_cls (rest := []) (As := []) C hH (c_X0_digest l D κ a v hi.1 hi.2.2) g_L_227 n_X0_digest ⟨Nat.le_of_ble_eq_true rfl, Nat.le_of_ble_eq_true rfl⟩ rfl hl.1 rfl (Nat.zero_le _) dL_law_1805 hc0 ?_
  refine lv_aload_n hx hb dL_law_1808 rfl (lv_at hl 2 rfl) ?_
  refine lr_mod (cd := 0) (rest := [.long (di_ v)]) (As := []) C hH (c_X1_digest_ok l D κ bb u v hi.1 hbp (pp_of hi)) g_L_230 n_X1_digest ⟨Nat.le_of_ble_eq_true rfl, Nat.le_of_ble_eq_true rfl⟩ rfl hl.1 rfl (Nat.le_of_ble_eq_true rfl) dL_law_1809 hc0 (fun H locs hH => ?_)
  refine W.widen (k := cells + 1) (n := slots + 6) (by omega) (by omega) ?_
  exact lr_lcmp (tgt := 1818) C dL_law_1812 dL_law_1813 (by decide) (N v 0 w wd H locs ls hi hH hl)
end LAWC
