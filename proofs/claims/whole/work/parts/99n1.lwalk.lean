-- the law walked (by program)
theorem lc_0 {p : Program} {l : Launch} {e : Env} {R : Room} {s : State} {m : MethodId} {args : Array Value} {below : List Frame} {meth : Method} {c : Code} {dC : Nat → ClassId} {dI : Nat → Nat → Nat} {cy : Nat → ClassId} {φ0 : Int → Nat} {base : Nat} {Q : State → Prop} {b L : Nat} {xs : Nat → Int32} (C : q_C mL p s m args meth c dC dI cy φ0 base) (S : l_S b L xs s φ0 base) (hR : 101 ≤ R.frames ∧ 4040 ≤ R.locals ∧ q_N ≤ R.cells ∧ q_sz q_N ≤ R.slots) {i : Int} (h0 : 0 ≤ i) (h1 : i + 6 ≤ (L : Int)) {M : q_Mem} (hM : z_IV M) (kk : ∀ M' : q_Mem, z_IV M' → l_U p l e R s m args below meth c dC dI cy φ0 base Q q_N M' 1475 [some (qR (-300)), some (qR 1), some (qR 178), some (qI i)] []) : l_U p l e R s m args below meth c dC dI cy φ0 base Q q_N M 240 [some (qR (-300)), some (qR 1), some (qR 178), some (qI i)] [] := by
  refine lr_aload_n C 240 241 rfl (x := 1) rfl dL_law_240 ?_
  refine lr_arg C S 241 (k := 1) (by omega) h0 h1 dL_law_241 dL_law_242 dL_law_243 dL_law_244 dL_law_245 ?_
  refine lr_arg C S 246 (k := 2) (by omega) h0 h1 dL_law_246 dL_law_247 dL_law_248 dL_law_249 dL_law_250 ?_
  refine lr_arg C S 251 (k := 3) (by omega) h0 h1 dL_law_251 dL_law_252 dL_law_253 dL_law_254 dL_law_255 ?_
  refine lr_arg C S 256 (k := 4) (by omega) h0 h1 dL_law_256 dL_law_257 dL_law_258 dL_law_259 dL_law_260 ?_
  refine lr_arg C S 261 (k := 5) (by omega) h0 h1 dL_law_261 dL_law_262 dL_law_263 dL_law_264 dL_law_265 ?_
  refine lr_vI C hR 266 269 rfl (av := [qI (l_x xs (i + 1)), qI (l_x xs (i + 2)), qI (l_x xs (i + 3)), qI (l_x xs (i + 4)), qI (l_x xs (i + 5))]) ca_X11_feed wm_436 wm_437 wm_435 ck11 (by decide +kernel) rfl rfl (Nat.le_of_ble_eq_true rfl) dL_law_266 (tt_feed (d := 101) (K := fun v v2 M2 => v = v2 ∧ z_IV M2) (by omega) hM (fun v M1 h => ⟨rfl, h⟩)) (fun v M1 h => ?_)
  refine lr_aload_n C 269 270 rfl (x := 178) rfl dL_law_269 ?_
  refine lr_arg C S 270 (k := 1) (by omega) h0 h1 dL_law_270 dL_law_271 dL_law_272 dL_law_273 dL_law_274 ?_
  refine lr_arg C S 275 (k := 2) (by omega) h0 h1 dL_law_275 dL_law_276 dL_law_277 dL_law_278 dL_law_279 ?_
  refine lr_arg C S 280 (k := 3) (by omega) h0 h1 dL_law_280 dL_law_281 dL_law_282 dL_law_283 dL_law_284 ?_
  refine lr_arg C S 285 (k := 4) (by omega) h0 h1 dL_law_285 dL_law_286 dL_law_287 dL_law_288 dL_law_289 ?_
  refine lr_arg C S 290 (k := 5) (by omega) h0 h1 dL_law_290 dL_law_291 dL_law_292 dL_law_293 dL_law_294 ?_
  refine lr_vI C hR 295 298 rfl (av := [qI (l_x xs (i + 1)), qI (l_x xs (i + 2)), qI (l_x xs (i + 3)), qI (l_x xs (i + 4)), qI (l_x xs (i + 5))]) ca_X12_feed wm_1473 wm_1474 wm_1472 ck12 (by decide +kernel) rfl rfl (Nat.le_of_ble_eq_true rfl) dL_law_295 h (fun v2 M2 h2 => ?_)
  obtain ⟨e9, hM2⟩ := h2
  subst e9
  exact lr_icmp_eq C 298 301 1475 rfl (by decide) dL_law_298 (fun _ => kk _ hM2) (fun g => absurd rfl g)
theorem lc_1 {p : Program} {l : Launch} {e : Env} {R : Room} {s : State} {m : MethodId} {args : Array Value} {below : List Frame} {meth : Method} {c : Code} {dC : Nat → ClassId} {dI : Nat → Nat → Nat} {cy : Nat → ClassId} {φ0 : Int → Nat} {base : Nat} {Q : State → Prop} {b L : Nat} {xs : Nat → Int32} (C : q_C mL p s m args meth c dC dI cy φ0 base) (S : l_S b L xs s φ0 base) (hR : 101 ≤ R.frames ∧ 4040 ≤ R.locals ∧ q_N ≤ R.cells ∧ q_sz q_N ≤ R.slots) {i : Int} (h0 : 0 ≤ i) (h1 : i + 6 ≤ (L : Int)) {M : q_Mem} (hM : z_IV M) (kk : ∀ M' : q_Mem, z_IV M' → l_U p l e R s m args below meth c dC dI cy φ0 base Q q_N M' 1475 [some (qR (-300)), some (qR 1), some (qR 178), some (qI i)] []) : l_U p l e R s m args below meth c dC dI cy φ0 base Q q_N M 303 [some (qR (-300)), some (qR 1), some (qR 178), some (qI i)] [] := by
  refine lr_aload_n C 303 304 rfl (x := 1) rfl dL_law_303 ?_
  refine lr_arg C S 304 (k := 1) (by omega) h0 h1 dL_law_304 dL_law_305 dL_law_306 dL_law_307 dL_law_308 ?_
  refine lr_vI C hR 309 312 rfl (av := [qI (l_x xs (i + 1))]) ca_X11_net wm_444 wm_445 wm_443 ck11 (by decide +kernel) rfl rfl (Nat.le_of_ble_eq_true rfl) dL_law_309 (tt_net (d := 101) (K := fun v v2 M2 => v = v2 ∧ z_IV M2) (by omega) hM (fun v M1 h => ⟨rfl, h⟩)) (fun v M1 h => ?_)
  refine lr_aload_n C 312 313 rfl (x := 178) rfl dL_law_312 ?_
  refine lr_arg C S 313 (k := 1) (by omega) h0 h1 dL_law_313 dL_law_314 dL_law_315 dL_law_316 dL_law_317 ?_
  refine lr_vI C hR 318 321 rfl (av := [qI (l_x xs (i + 1))]) ca_X12_net wm_1477 wm_1478 wm_1476 ck12 (by decide +kernel) rfl rfl (Nat.le_of_ble_eq_true rfl) dL_law_318 h (fun v2 M2 h2 => ?_)
  obtain ⟨e9, hM2⟩ := h2
  subst e9
  exact lr_icmp_eq C 321 324 1475 rfl (by decide) dL_law_321 (fun _ => kk _ hM2) (fun g => absurd rfl g)
theorem lc_2 {p : Program} {l : Launch} {e : Env} {R : Room} {s : State} {m : MethodId} {args : Array Value} {below : List Frame} {meth : Method} {c : Code} {dC : Nat → ClassId} {dI : Nat → Nat → Nat} {cy : Nat → ClassId} {φ0 : Int → Nat} {base : Nat} {Q : State → Prop} {b L : Nat} {xs : Nat → Int32} (C : q_C mL p s m args meth c dC dI cy φ0 base) (S : l_S b L xs s φ0 base) (hR : 101 ≤ R.frames ∧ 4040 ≤ R.locals ∧ q_N ≤ R.cells ∧ q_sz q_N ≤ R.slots) {i : Int} (h0 : 0 ≤ i) (h1 : i + 6 ≤ (L : Int)) {M : q_Mem} (hM : z_IV M) (kk : ∀ M' : q_Mem, z_IV M' → l_U p l e R s m args below meth c dC dI cy φ0 base Q q_N M' 1475 [some (qR (-300)), some (qR 1), some (qR 178), some (qI i)] []) : l_U p l e R s m args below meth c dC dI cy φ0 base Q q_N M 326 [some (qR (-300)), some (qR 1), some (qR 178), some (qI i)] [] := by
  refine lr_aload_n C 326 327 rfl (x := 1) rfl dL_law_326 ?_
  refine lr_arg C S 327 (k := 1) (by omega) h0 h1 dL_law_327 dL_law_328 dL_law_329 dL_law_330 dL_law_331 ?_
  refine lr_vI C hR 332 335 rfl (av := [qI (l_x xs (i + 1))]) ca_X11_fault wm_742 wm_743 wm_741 ck11 (by decide +kernel) rfl rfl (Nat.le_of_ble_eq_true rfl) dL_law_332 (tt_fault (d := 101) (K := fun v v2 M2 => v = v2 ∧ z_IV M2) (by omega) hM (fun v M1 h => ⟨rfl, h⟩)) (fun v M1 h => ?_)
  refine lr_aload_n C 335 336 rfl (x := 178) rfl dL_law_335 ?_
  refine lr_arg C S 336 (k := 1) (by omega) h0 h1 dL_law_336 dL_law_337 dL_law_338 dL_law_339 dL_law_340 ?_
  refine lr_vI C hR 341 344 rfl (av := [qI (l_x xs (i + 1))]) ca_X12_fault wm_1601 wm_1602 wm_1600 ck12 (by decide +kernel) rfl rfl (Nat.le_of_ble_eq_true rfl) dL_law_341 h (fun v2 M2 h2 => ?_)
  obtain ⟨e9, hM2⟩ := h2
  subst e9
  exact lr_icmp_eq C 344 347 1475 rfl (by decide) dL_law_344 (fun _ => kk _ hM2) (fun g => absurd rfl g)
theorem lc_3 {p : Program} {l : Launch} {e : Env} {R : Room} {s : State} {m : MethodId} {args : Array Value} {below : List Frame} {meth : Method} {c : Code} {dC : Nat → ClassId} {dI : Nat → Nat → Nat} {cy : Nat → ClassId} {φ0 : Int → Nat} {base : Nat} {Q : State → Prop} {b L : Nat} {xs : Nat → Int32} (C : q_C mL p s m args meth c dC dI cy φ0 base) (S : l_S b L xs s φ0 base) (hR : 101 ≤ R.frames ∧ 4040 ≤ R.locals ∧ q_N ≤ R.cells ∧ q_sz q_N ≤ R.slots) {i : Int} (h0 : 0 ≤ i) (h1 : i + 6 ≤ (L : Int)) {M : q_Mem} (hM : z_IV M) (kk : ∀ M' : q_Mem, z_IV M' → l_U p l e R s m args below meth c dC dI cy φ0 base Q q_N M' 1475 [some (qR (-300)), some (qR 1), some (qR 178), some (qI i)] []) : l_U p l e R s m args below meth c dC dI cy φ0 base Q q_N M 349 [some (qR (-300)), some (qR 1), some (qR 178), some (qI i)] [] := by
  refine lr_aload_n C 349 350 rfl (x := 1) rfl dL_law_349 ?_
  refine lr_arg C S 350 (k := 1) (by omega) h0 h1 dL_law_350 dL_law_351 dL_law_352 dL_law_353 dL_law_354 ?_
  refine lr_arg C S 355 (k := 2) (by omega) h0 h1 dL_law_355 dL_law_356 dL_law_357 dL_law_358 dL_law_359 ?_
  refine lr_vI C hR 360 363 rfl (av := [qI (l_x xs (i + 1)), qI (l_x xs (i + 2))]) ca_X11_link wm_746 wm_747 wm_745 ck11 (by decide +kernel) rfl rfl (Nat.le_of_ble_eq_true rfl) dL_law_360 (tt_link (d := 101) (K := fun v v2 M2 => v = v2 ∧ z_IV M2) (by omega) hM (fun v M1 h => ⟨rfl, h⟩)) (fun v M1 h => ?_)
  refine lr_aload_n C 363 364 rfl (x := 178) rfl dL_law_363 ?_
  refine lr_arg C S 364 (k := 1) (by omega) h0 h1 dL_law_364 dL_law_365 dL_law_366 dL_law_367 dL_law_368 ?_
  refine lr_arg C S 369 (k := 2) (by omega) h0 h1 dL_law_369 dL_law_370 dL_law_371 dL_law_372 dL_law_373 ?_
  refine lr_vI C hR 374 377 rfl (av := [qI (l_x xs (i + 1)), qI (l_x xs (i + 2))]) ca_X12_link wm_1605 wm_1606 wm_1604 ck12 (by decide +kernel) rfl rfl (Nat.le_of_ble_eq_true rfl) dL_law_374 h (fun v2 M2 h2 => ?_)
  obtain ⟨e9, hM2⟩ := h2
  subst e9
  exact lr_icmp_eq C 377 380 1475 rfl (by decide) dL_law_377 (fun _ => kk _ hM2) (fun g => absurd rfl g)
theorem lc_4 {p : Program} {l : Launch} {e : Env} {R : Room} {s : State} {m : MethodId} {args : Array Value} {below : List Frame} {meth : Method} {c : Code} {dC : Nat → ClassId} {dI : Nat → Nat → Nat} {cy : Nat → ClassId} {φ0 : Int → Nat} {base : Nat} {Q : State → Prop} {b L : Nat} {xs : Nat → Int32} (C : q_C mL p s m args meth c dC dI cy φ0 base) (S : l_S b L xs s φ0 base) (hR : 101 ≤ R.frames ∧ 4040 ≤ R.locals ∧ q_N ≤ R.cells ∧ q_sz q_N ≤ R.slots) {i : Int} (h0 : 0 ≤ i) (h1 : i + 6 ≤ (L : Int)) {M : q_Mem} (hM : z_IV M) (kk : ∀ M' : q_Mem, z_IV M' → l_U p l e R s m args below meth c dC dI cy φ0 base Q q_N M' 1475 [some (qR (-300)), some (qR 1), some (qR 178), some (qI i)] []) : l_U p l e R s m args below meth c dC dI cy φ0 base Q q_N M 382 [some (qR (-300)), some (qR 1), some (qR 178), some (qI i)] [] := by
  refine lr_aload_n C 382 383 rfl (x := 1) rfl dL_law_382 ?_
  refine lr_arg C S 383 (k := 1) (by omega) h0 h1 dL_law_383 dL_law_384 dL_law_385 dL_law_386 dL_law_387 ?_
  refine lr_vI C hR 388 391 rfl (av := [qI (l_x xs (i + 1))]) ca_X11_weight wm_785 wm_786 wm_784 ck11 (by decide +kernel) rfl rfl (Nat.le_of_ble_eq_true rfl) dL_law_388 (tt_weight (d := 101) (K := fun v v2 M2 => v = v2 ∧ z_IV M2) (by omega) hM (fun v M1 h => ⟨rfl, h⟩)) (fun v M1 h => ?_)
  refine lr_aload_n C 391 392 rfl (x := 178) rfl dL_law_391 ?_
  refine lr_arg C S 392 (k := 1) (by omega) h0 h1 dL_law_392 dL_law_393 dL_law_394 dL_law_395 dL_law_396 ?_
  refine lr_vI C hR 397 400 rfl (av := [qI (l_x xs (i + 1))]) ca_X12_weight wm_1633 wm_1634 wm_1632 ck12 (by decide +kernel) rfl rfl (Nat.le_of_ble_eq_true rfl) dL_law_397 h (fun v2 M2 h2 => ?_)
  obtain ⟨e9, hM2⟩ := h2
  subst e9
  exact lr_icmp_eq C 400 403 1475 rfl (by decide) dL_law_400 (fun _ => kk _ hM2) (fun g => absurd rfl g)
theorem lc_5 {p : Program} {l : Launch} {e : Env} {R : Room} {s : State} {m : MethodId} {args : Array Value} {below : List Frame} {meth : Method} {c : Code} {dC : Nat → ClassId} {dI : Nat → Nat → Nat} {cy : Nat → ClassId} {φ0 : Int → Nat} {base : Nat} {Q : State → Prop} {b L : Nat} {xs : Nat → Int32} (C : q_C mL p s m args meth c dC dI cy φ0 base) (S : l_S b L xs s φ0 base) (hR : 101 ≤ R.frames ∧ 4040 ≤ R.locals ∧ q_N ≤ R.cells ∧ q_sz q_N ≤ R.slots) {i : Int} (h0 : 0 ≤ i) (h1 : i + 6 ≤ (L : Int)) {M : q_Mem} (hM : z_IV M) (kk : ∀ M' : q_Mem, z_IV M' → l_U p l e R s m args below meth c dC dI cy φ0 base Q q_N M' 1475 [some (qR (-300)), some (qR 1), some (qR 178), some (qI i)] []) : l_U p l e R s m args below meth c dC dI cy φ0 base Q q_N M 405 [some (qR (-300)), some (qR 1), some (qR 178), some (qI i)] [] := by
  refine lr_aload_n C 405 406 rfl (x := 1) rfl dL_law_405 ?_
  refine lr_arg C S 406 (k := 1) (by omega) h0 h1 dL_law_406 dL_law_407 dL_law_408 dL_law_409 dL_law_410 ?_
  refine lr_arg C S 411 (k := 2) (by omega) h0 h1 dL_law_411 dL_law_412 dL_law_413 dL_law_414 dL_law_415 ?_
  refine lr_vI C hR 416 419 rfl (av := [qI (l_x xs (i + 1)), qI (l_x xs (i + 2))]) ca_X11_round wm_891 wm_892 wm_890 ck11 (by decide +kernel) rfl rfl (Nat.le_of_ble_eq_true rfl) dL_law_416 (tt_round (d := 101) (K := fun v v2 M2 => v = v2 ∧ z_IV M2) (by omega) hM (fun v M1 h => ⟨rfl, h⟩)) (fun v M1 h => ?_)
  refine lr_aload_n C 419 420 rfl (x := 178) rfl dL_law_419 ?_
  refine lr_arg C S 420 (k := 1) (by omega) h0 h1 dL_law_420 dL_law_421 dL_law_422 dL_law_423 dL_law_424 ?_
  refine lr_arg C S 425 (k := 2) (by omega) h0 h1 dL_law_425 dL_law_426 dL_law_427 dL_law_428 dL_law_429 ?_
  refine lr_vI C hR 430 433 rfl (av := [qI (l_x xs (i + 1)), qI (l_x xs (i + 2))]) ca_X12_round wm_1651 wm_1652 wm_1650 ck12 (by decide +kernel) rfl rfl (Nat.le_of_ble_eq_true rfl) dL_law_430 h (fun v2 M2 h2 => ?_)
  obtain ⟨e9, hM2⟩ := h2
  subst e9
  exact lr_icmp_eq C 433 436 1475 rfl (by decide) dL_law_433 (fun _ => kk _ hM2) (fun g => absurd rfl g)
theorem lc_6 {p : Program} {l : Launch} {e : Env} {R : Room} {s : State} {m : MethodId} {args : Array Value} {below : List Frame} {meth : Method} {c : Code} {dC : Nat → ClassId} {dI : Nat → Nat → Nat} {cy : Nat → ClassId} {φ0 : Int → Nat} {base : Nat} {Q : State → Prop} {b L : Nat} {xs : Nat → Int32} (C : q_C mL p s m args meth c dC dI cy φ0 base) (S : l_S b L xs s φ0 base) (hR : 101 ≤ R.frames ∧ 4040 ≤ R.locals ∧ q_N ≤ R.cells ∧ q_sz q_N ≤ R.slots) {i : Int} (h0 : 0 ≤ i) (h1 : i + 6 ≤ (L : Int)) {M : q_Mem} (hM : z_IV M) (kk : ∀ M' : q_Mem, z_IV M' → l_U p l e R s m args below meth c dC dI cy φ0 base Q q_N M' 1475 [some (qR (-300)), some (qR 1), some (qR 178), some (qI i)] []) : l_U p l e R s m args below meth c dC dI cy φ0 base Q q_N M 438 [some (qR (-300)), some (qR 1), some (qR 178), some (qI i)] [] := by
  refine lr_aload_n C 438 439 rfl (x := 1) rfl dL_law_438 ?_
  refine lr_arg C S 439 (k := 1) (by omega) h0 h1 dL_law_439 dL_law_440 dL_law_441 dL_law_442 dL_law_443 ?_
  refine lr_vI C hR 444 447 rfl (av := [qI (l_x xs (i + 1))]) ca_X11_next wm_899 wm_900 wm_898 ck11 (by decide +kernel) rfl rfl (Nat.le_of_ble_eq_true rfl) dL_law_444 (tt_next (d := 101) (K := fun v v2 M2 => v = v2 ∧ z_IV M2) (by omega) hM (fun v M1 h => ⟨rfl, h⟩)) (fun v M1 h => ?_)
  refine lr_aload_n C 447 448 rfl (x := 178) rfl dL_law_447 ?_
  refine lr_arg C S 448 (k := 1) (by omega) h0 h1 dL_law_448 dL_law_449 dL_law_450 dL_law_451 dL_law_452 ?_
  refine lr_vI C hR 453 456 rfl (av := [qI (l_x xs (i + 1))]) ca_X12_next wm_1659 wm_1660 wm_1658 ck12 (by decide +kernel) rfl rfl (Nat.le_of_ble_eq_true rfl) dL_law_453 h (fun v2 M2 h2 => ?_)
  obtain ⟨e9, hM2⟩ := h2
  subst e9
  exact lr_icmp_eq C 456 459 1475 rfl (by decide) dL_law_456 (fun _ => kk _ hM2) (fun g => absurd rfl g)
theorem lc_7 {p : Program} {l : Launch} {e : Env} {R : Room} {s : State} {m : MethodId} {args : Array Value} {below : List Frame} {meth : Method} {c : Code} {dC : Nat → ClassId} {dI : Nat → Nat → Nat} {cy : Nat → ClassId} {φ0 : Int → Nat} {base : Nat} {Q : State → Prop} {b L : Nat} {xs : Nat → Int32} (C : q_C mL p s m args meth c dC dI cy φ0 base) (S : l_S b L xs s φ0 base) (hR : 101 ≤ R.frames ∧ 4040 ≤ R.locals ∧ q_N ≤ R.cells ∧ q_sz q_N ≤ R.slots) {i : Int} (h0 : 0 ≤ i) (h1 : i + 6 ≤ (L : Int)) {M : q_Mem} (hM : z_IV M) (kk : ∀ M' : q_Mem, z_IV M' → l_U p l e R s m args below meth c dC dI cy φ0 base Q q_N M' 1475 [some (qR (-300)), some (qR 1), some (qR 178), some (qI i)] []) : l_U p l e R s m args below meth c dC dI cy φ0 base Q q_N M 461 [some (qR (-300)), some (qR 1), some (qR 178), some (qI i)] [] := by
  refine lr_aload_n C 461 462 rfl (x := 1) rfl dL_law_461 ?_
  refine lr_arg C S 462 (k := 1) (by omega) h0 h1 dL_law_462 dL_law_463 dL_law_464 dL_law_465 dL_law_466 ?_
  refine lr_arg C S 467 (k := 2) (by omega) h0 h1 dL_law_467 dL_law_468 dL_law_469 dL_law_470 dL_law_471 ?_
  refine lr_vI C hR 472 475 rfl (av := [qI (l_x xs (i + 1)), qI (l_x xs (i + 2))]) ca_X11_weigh wm_903 wm_904 wm_902 ck11 (by decide +kernel) rfl rfl (Nat.le_of_ble_eq_true rfl) dL_law_472 (tt_weigh (d := 101) (K := fun v v2 M2 => v = v2 ∧ z_IV M2) (by omega) hM (fun v M1 h => ⟨rfl, h⟩)) (fun v M1 h => ?_)
  refine lr_aload_n C 475 476 rfl (x := 178) rfl dL_law_475 ?_
  refine lr_arg C S 476 (k := 1) (by omega) h0 h1 dL_law_476 dL_law_477 dL_law_478 dL_law_479 dL_law_480 ?_
  refine lr_arg C S 481 (k := 2) (by omega) h0 h1 dL_law_481 dL_law_482 dL_law_483 dL_law_484 dL_law_485 ?_
  refine lr_vI C hR 486 489 rfl (av := [qI (l_x xs (i + 1)), qI (l_x xs (i + 2))]) ca_X12_weigh wm_1663 wm_1664 wm_1662 ck12 (by decide +kernel) rfl rfl (Nat.le_of_ble_eq_true rfl) dL_law_486 h (fun v2 M2 h2 => ?_)
  obtain ⟨e9, hM2⟩ := h2
  subst e9
  exact lr_icmp_eq C 489 492 1475 rfl (by decide) dL_law_489 (fun _ => kk _ hM2) (fun g => absurd rfl g)
theorem lc_8 {p : Program} {l : Launch} {e : Env} {R : Room} {s : State} {m : MethodId} {args : Array Value} {below : List Frame} {meth : Method} {c : Code} {dC : Nat → ClassId} {dI : Nat → Nat → Nat} {cy : Nat → ClassId} {φ0 : Int → Nat} {base : Nat} {Q : State → Prop} {b L : Nat} {xs : Nat → Int32} (C : q_C mL p s m args meth c dC dI cy φ0 base) (S : l_S b L xs s φ0 base) (hR : 101 ≤ R.frames ∧ 4040 ≤ R.locals ∧ q_N ≤ R.cells ∧ q_sz q_N ≤ R.slots) {i : Int} (h0 : 0 ≤ i) (h1 : i + 6 ≤ (L : Int)) {M : q_Mem} (hM : z_IV M) (kk : ∀ M' : q_Mem, z_IV M' → l_U p l e R s m args below meth c dC dI cy φ0 base Q q_N M' 1475 [some (qR (-300)), some (qR 1), some (qR 178), some (qI i)] []) : l_U p l e R s m args below meth c dC dI cy φ0 base Q q_N M 494 [some (qR (-300)), some (qR 1), some (qR 178), some (qI i)] [] := by
  refine lr_aload_n C 494 495 rfl (x := 1) rfl dL_law_494 ?_
  refine lr_arg C S 495 (k := 1) (by omega) h0 h1 dL_law_495 dL_law_496 dL_law_497 dL_law_498 dL_law_499 ?_
  refine lr_vI C hR 500 503 rfl (av := [qI (l_x xs (i + 1))]) ca_X11_flip wm_926 wm_927 wm_925 ck11 (by decide +kernel) rfl rfl (Nat.le_of_ble_eq_true rfl) dL_law_500 (tt_flip (d := 101) (K := fun v v2 M2 => v = v2 ∧ z_IV M2) (by omega) hM (fun v M1 h => ⟨rfl, h⟩)) (fun v M1 h => ?_)
  refine lr_aload_n C 503 504 rfl (x := 178) rfl dL_law_503 ?_
  refine lr_arg C S 504 (k := 1) (by omega) h0 h1 dL_law_504 dL_law_505 dL_law_506 dL_law_507 dL_law_508 ?_
  refine lr_vI C hR 509 512 rfl (av := [qI (l_x xs (i + 1))]) ca_X12_flip wm_1678 wm_1679 wm_1677 ck12 (by decide +kernel) rfl rfl (Nat.le_of_ble_eq_true rfl) dL_law_509 h (fun v2 M2 h2 => ?_)
  obtain ⟨e9, hM2⟩ := h2
  subst e9
  exact lr_icmp_eq C 512 515 1475 rfl (by decide) dL_law_512 (fun _ => kk _ hM2) (fun g => absurd rfl g)
theorem lc_9 {p : Program} {l : Launch} {e : Env} {R : Room} {s : State} {m : MethodId} {args : Array Value} {below : List Frame} {meth : Method} {c : Code} {dC : Nat → ClassId} {dI : Nat → Nat → Nat} {cy : Nat → ClassId} {φ0 : Int → Nat} {base : Nat} {Q : State → Prop} {b L : Nat} {xs : Nat → Int32} (C : q_C mL p s m args meth c dC dI cy φ0 base) (S : l_S b L xs s φ0 base) (hR : 101 ≤ R.frames ∧ 4040 ≤ R.locals ∧ q_N ≤ R.cells ∧ q_sz q_N ≤ R.slots) {i : Int} (h0 : 0 ≤ i) (h1 : i + 6 ≤ (L : Int)) {M : q_Mem} (hM : z_IV M) (kk : ∀ M' : q_Mem, z_IV M' → l_U p l e R s m args below meth c dC dI cy φ0 base Q q_N M' 1475 [some (qR (-300)), some (qR 1), some (qR 178), some (qI i)] []) : l_U p l e R s m args below meth c dC dI cy φ0 base Q q_N M 517 [some (qR (-300)), some (qR 1), some (qR 178), some (qI i)] [] := by
  refine lr_aload_n C 517 518 rfl (x := 1) rfl dL_law_517 ?_
  refine lr_arg C S 518 (k := 1) (by omega) h0 h1 dL_law_518 dL_law_519 dL_law_520 dL_law_521 dL_law_522 ?_
  refine lr_arg C S 523 (k := 2) (by omega) h0 h1 dL_law_523 dL_law_524 dL_law_525 dL_law_526 dL_law_527 ?_
  refine lr_vI C hR 528 531 rfl (av := [qI (l_x xs (i + 1)), qI (l_x xs (i + 2))]) ca_X11_turn wm_946 wm_947 wm_945 ck11 (by decide +kernel) rfl rfl (Nat.le_of_ble_eq_true rfl) dL_law_528 (tt_turn (d := 101) (K := fun v v2 M2 => v = v2 ∧ z_IV M2) (by omega) hM (fun v M1 h => ⟨rfl, h⟩)) (fun v M1 h => ?_)
  refine lr_aload_n C 531 532 rfl (x := 178) rfl dL_law_531 ?_
  refine lr_arg C S 532 (k := 1) (by omega) h0 h1 dL_law_532 dL_law_533 dL_law_534 dL_law_535 dL_law_536 ?_
  refine lr_arg C S 537 (k := 2) (by omega) h0 h1 dL_law_537 dL_law_538 dL_law_539 dL_law_540 dL_law_541 ?_
  refine lr_vI C hR 542 545 rfl (av := [qI (l_x xs (i + 1)), qI (l_x xs (i + 2))]) ca_X12_turn wm_1697 wm_1698 wm_1696 ck12 (by decide +kernel) rfl rfl (Nat.le_of_ble_eq_true rfl) dL_law_542 h (fun v2 M2 h2 => ?_)
  obtain ⟨e9, hM2⟩ := h2
  subst e9
  exact lr_icmp_eq C 545 548 1475 rfl (by decide) dL_law_545 (fun _ => kk _ hM2) (fun g => absurd rfl g)
theorem lc_10 {p : Program} {l : Launch} {e : Env} {R : Room} {s : State} {m : MethodId} {args : Array Value} {below : List Frame} {meth : Method} {c : Code} {dC : Nat → ClassId} {dI : Nat → Nat → Nat} {cy : Nat → ClassId} {φ0 : Int → Nat} {base : Nat} {Q : State → Prop} {b L : Nat} {xs : Nat → Int32} (C : q_C mL p s m args meth c dC dI cy φ0 base) (S : l_S b L xs s φ0 base) (hR : 101 ≤ R.frames ∧ 4040 ≤ R.locals ∧ q_N ≤ R.cells ∧ q_sz q_N ≤ R.slots) {i : Int} (h0 : 0 ≤ i) (h1 : i + 6 ≤ (L : Int)) {M : q_Mem} (hM : z_IV M) (kk : ∀ M' : q_Mem, z_IV M' → l_U p l e R s m args below meth c dC dI cy φ0 base Q q_N M' 1475 [some (qR (-300)), some (qR 1), some (qR 178), some (qI i)] []) : l_U p l e R s m args below meth c dC dI cy φ0 base Q q_N M 550 [some (qR (-300)), some (qR 1), some (qR 178), some (qI i)] [] := by
  refine lr_aload_n C 550 551 rfl (x := 1) rfl dL_law_550 ?_
  refine lr_arg C S 551 (k := 1) (by omega) h0 h1 dL_law_551 dL_law_552 dL_law_553 dL_law_554 dL_law_555 ?_
  refine lr_vI C hR 556 559 rfl (av := [qI (l_x xs (i + 1))]) ca_X11_warm wm_962 wm_963 wm_961 ck11 (by decide +kernel) rfl rfl (Nat.le_of_ble_eq_true rfl) dL_law_556 (tt_warm (d := 101) (K := fun v v2 M2 => v = v2 ∧ z_IV M2) (by omega) hM (fun v M1 h => ⟨rfl, h⟩)) (fun v M1 h => ?_)
  refine lr_aload_n C 559 560 rfl (x := 178) rfl dL_law_559 ?_
  refine lr_arg C S 560 (k := 1) (by omega) h0 h1 dL_law_560 dL_law_561 dL_law_562 dL_law_563 dL_law_564 ?_
  refine lr_vI C hR 565 568 rfl (av := [qI (l_x xs (i + 1))]) ca_X12_warm wm_1717 wm_1718 wm_1716 ck12 (by decide +kernel) rfl rfl (Nat.le_of_ble_eq_true rfl) dL_law_565 h (fun v2 M2 h2 => ?_)
  obtain ⟨e9, hM2⟩ := h2
  subst e9
  exact lr_icmp_eq C 568 571 1475 rfl (by decide) dL_law_568 (fun _ => kk _ hM2) (fun g => absurd rfl g)
theorem lc_11 {p : Program} {l : Launch} {e : Env} {R : Room} {s : State} {m : MethodId} {args : Array Value} {below : List Frame} {meth : Method} {c : Code} {dC : Nat → ClassId} {dI : Nat → Nat → Nat} {cy : Nat → ClassId} {φ0 : Int → Nat} {base : Nat} {Q : State → Prop} {b L : Nat} {xs : Nat → Int32} (C : q_C mL p s m args meth c dC dI cy φ0 base) (S : l_S b L xs s φ0 base) (hR : 101 ≤ R.frames ∧ 4040 ≤ R.locals ∧ q_N ≤ R.cells ∧ q_sz q_N ≤ R.slots) {i : Int} (h0 : 0 ≤ i) (h1 : i + 6 ≤ (L : Int)) {M : q_Mem} (hM : z_IV M) (kk : ∀ M' : q_Mem, z_IV M' → l_U p l e R s m args below meth c dC dI cy φ0 base Q q_N M' 1475 [some (qR (-300)), some (qR 1), some (qR 178), some (qI i)] []) : l_U p l e R s m args below meth c dC dI cy φ0 base Q q_N M 573 [some (qR (-300)), some (qR 1), some (qR 178), some (qI i)] [] := by
  refine lr_aload_n C 573 574 rfl (x := 1) rfl dL_law_573 ?_
  refine lr_vI C hR 574 577 rfl (av := []) ca_X11_fall wm_973 wm_974 wm_972 ck11 (by decide +kernel) rfl rfl (Nat.le_of_ble_eq_true rfl) dL_law_574 (tt_fall (d := 101) (K := fun v v2 M2 => v = v2 ∧ z_IV M2) (by omega) hM (fun v M1 h => ⟨rfl, h⟩)) (fun v M1 h => ?_)
  refine lr_aload_n C 577 578 rfl (x := 178) rfl dL_law_577 ?_
  refine lr_vI C hR 578 581 rfl (av := []) ca_X12_fall wm_1722 wm_1723 wm_1721 ck12 (by decide +kernel) rfl rfl (Nat.le_of_ble_eq_true rfl) dL_law_578 h (fun v2 M2 h2 => ?_)
  obtain ⟨e9, hM2⟩ := h2
  subst e9
  exact lr_icmp_eq C 581 584 1475 rfl (by decide) dL_law_581 (fun _ => kk _ hM2) (fun g => absurd rfl g)
theorem lc_12 {p : Program} {l : Launch} {e : Env} {R : Room} {s : State} {m : MethodId} {args : Array Value} {below : List Frame} {meth : Method} {c : Code} {dC : Nat → ClassId} {dI : Nat → Nat → Nat} {cy : Nat → ClassId} {φ0 : Int → Nat} {base : Nat} {Q : State → Prop} {b L : Nat} {xs : Nat → Int32} (C : q_C mL p s m args meth c dC dI cy φ0 base) (S : l_S b L xs s φ0 base) (hR : 101 ≤ R.frames ∧ 4040 ≤ R.locals ∧ q_N ≤ R.cells ∧ q_sz q_N ≤ R.slots) {i : Int} (h0 : 0 ≤ i) (h1 : i + 6 ≤ (L : Int)) {M : q_Mem} (hM : z_IV M) (kk : ∀ M' : q_Mem, z_IV M' → l_U p l e R s m args below meth c dC dI cy φ0 base Q q_N M' 1475 [some (qR (-300)), some (qR 1), some (qR 178), some (qI i)] []) : l_U p l e R s m args below meth c dC dI cy φ0 base Q q_N M 586 [some (qR (-300)), some (qR 1), some (qR 178), some (qI i)] [] := by
  refine lr_aload_n C 586 587 rfl (x := 1) rfl dL_law_586 ?_
  refine lr_vI C hR 587 590 rfl (av := []) ca_X11_sides wm_986 wm_987 wm_985 ck11 (by decide +kernel) rfl rfl (Nat.le_of_ble_eq_true rfl) dL_law_587 (tt_sides (d := 101) (K := fun v v2 M2 => v = v2 ∧ z_IV M2) (by omega) hM (fun v M1 h => ⟨rfl, h⟩)) (fun v M1 h => ?_)
  refine lr_aload_n C 590 591 rfl (x := 178) rfl dL_law_590 ?_
  refine lr_vI C hR 591 594 rfl (av := []) ca_X12_sides wm_1730 wm_1731 wm_1729 ck12 (by decide +kernel) rfl rfl (Nat.le_of_ble_eq_true rfl) dL_law_591 h (fun v2 M2 h2 => ?_)
  obtain ⟨e9, hM2⟩ := h2
  subst e9
  exact lr_icmp_eq C 594 597 1475 rfl (by decide) dL_law_594 (fun _ => kk _ hM2) (fun g => absurd rfl g)
theorem lc_13 {p : Program} {l : Launch} {e : Env} {R : Room} {s : State} {m : MethodId} {args : Array Value} {below : List Frame} {meth : Method} {c : Code} {dC : Nat → ClassId} {dI : Nat → Nat → Nat} {cy : Nat → ClassId} {φ0 : Int → Nat} {base : Nat} {Q : State → Prop} {b L : Nat} {xs : Nat → Int32} (C : q_C mL p s m args meth c dC dI cy φ0 base) (S : l_S b L xs s φ0 base) (hR : 101 ≤ R.frames ∧ 4040 ≤ R.locals ∧ q_N ≤ R.cells ∧ q_sz q_N ≤ R.slots) {i : Int} (h0 : 0 ≤ i) (h1 : i + 6 ≤ (L : Int)) {M : q_Mem} (hM : z_IV M) (kk : ∀ M' : q_Mem, z_IV M' → l_U p l e R s m args below meth c dC dI cy φ0 base Q q_N M' 1475 [some (qR (-300)), some (qR 1), some (qR 178), some (qI i)] []) : l_U p l e R s m args below meth c dC dI cy φ0 base Q q_N M 599 [some (qR (-300)), some (qR 1), some (qR 178), some (qI i)] [] := by
  refine lr_aload_n C 599 600 rfl (x := 1) rfl dL_law_599 ?_
  refine lr_arg C S 600 (k := 1) (by omega) h0 h1 dL_law_600 dL_law_601 dL_law_602 dL_law_603 dL_law_604 ?_
  refine lr_vI C hR 605 608 rfl (av := [qI (l_x xs (i + 1))]) ca_X11_undo wm_1008 wm_1009 wm_1007 ck11 (by decide +kernel) rfl rfl (Nat.le_of_ble_eq_true rfl) dL_law_605 (tt_undo (d := 101) (K := fun v v2 M2 => v = v2 ∧ z_IV M2) (by omega) hM (fun v M1 h => ⟨rfl, h⟩)) (fun v M1 h => ?_)
  refine lr_aload_n C 608 609 rfl (x := 178) rfl dL_law_608 ?_
  refine lr_arg C S 609 (k := 1) (by omega) h0 h1 dL_law_609 dL_law_610 dL_law_611 dL_law_612 dL_law_613 ?_
  refine lr_vI C hR 614 617 rfl (av := [qI (l_x xs (i + 1))]) ca_X12_undo wm_1793 wm_1794 wm_1792 ck12 (by decide +kernel) rfl rfl (Nat.le_of_ble_eq_true rfl) dL_law_614 h (fun v2 M2 h2 => ?_)
  obtain ⟨e9, hM2⟩ := h2
  subst e9
  exact lr_icmp_eq C 617 620 1475 rfl (by decide) dL_law_617 (fun _ => kk _ hM2) (fun g => absurd rfl g)
theorem lc_14 {p : Program} {l : Launch} {e : Env} {R : Room} {s : State} {m : MethodId} {args : Array Value} {below : List Frame} {meth : Method} {c : Code} {dC : Nat → ClassId} {dI : Nat → Nat → Nat} {cy : Nat → ClassId} {φ0 : Int → Nat} {base : Nat} {Q : State → Prop} {b L : Nat} {xs : Nat → Int32} (C : q_C mL p s m args meth c dC dI cy φ0 base) (S : l_S b L xs s φ0 base) (hR : 101 ≤ R.frames ∧ 4040 ≤ R.locals ∧ q_N ≤ R.cells ∧ q_sz q_N ≤ R.slots) {i : Int} (h0 : 0 ≤ i) (h1 : i + 6 ≤ (L : Int)) {M : q_Mem} (hM : z_IV M) (kk : ∀ M' : q_Mem, z_IV M' → l_U p l e R s m args below meth c dC dI cy φ0 base Q q_N M' 1475 [some (qR (-300)), some (qR 1), some (qR 178), some (qI i)] []) : l_U p l e R s m args below meth c dC dI cy φ0 base Q q_N M 622 [some (qR (-300)), some (qR 1), some (qR 178), some (qI i)] [] := by
  refine lr_aload_n C 622 623 rfl (x := 1) rfl dL_law_622 ?_
  refine lr_arg C S 623 (k := 1) (by omega) h0 h1 dL_law_623 dL_law_624 dL_law_625 dL_law_626 dL_law_627 ?_
  refine lr_arg C S 628 (k := 2) (by omega) h0 h1 dL_law_628 dL_law_629 dL_law_630 dL_law_631 dL_law_632 ?_
  refine lr_vI C hR 633 636 rfl (av := [qI (l_x xs (i + 1)), qI (l_x xs (i + 2))]) ca_X11_judge wm_1020 wm_1021 wm_1019 ck11 (by decide +kernel) rfl rfl (Nat.le_of_ble_eq_true rfl) dL_law_633 (tt_judge (d := 101) (K := fun v v2 M2 => v = v2 ∧ z_IV M2) (by omega) hM (fun v M1 h => ⟨rfl, h⟩)) (fun v M1 h => ?_)
  refine lr_aload_n C 636 637 rfl (x := 178) rfl dL_law_636 ?_
  refine lr_arg C S 637 (k := 1) (by omega) h0 h1 dL_law_637 dL_law_638 dL_law_639 dL_law_640 dL_law_641 ?_
  refine lr_arg C S 642 (k := 2) (by omega) h0 h1 dL_law_642 dL_law_643 dL_law_644 dL_law_645 dL_law_646 ?_
  refine lr_vI C hR 647 650 rfl (av := [qI (l_x xs (i + 1)), qI (l_x xs (i + 2))]) ca_X12_judge wm_1798 wm_1799 wm_1797 ck12 (by decide +kernel) rfl rfl (Nat.le_of_ble_eq_true rfl) dL_law_647 h (fun v2 M2 h2 => ?_)
  obtain ⟨e9, hM2⟩ := h2
  subst e9
  exact lr_icmp_eq C 650 653 1475 rfl (by decide) dL_law_650 (fun _ => kk _ hM2) (fun g => absurd rfl g)
theorem lc_15 {p : Program} {l : Launch} {e : Env} {R : Room} {s : State} {m : MethodId} {args : Array Value} {below : List Frame} {meth : Method} {c : Code} {dC : Nat → ClassId} {dI : Nat → Nat → Nat} {cy : Nat → ClassId} {φ0 : Int → Nat} {base : Nat} {Q : State → Prop} {b L : Nat} {xs : Nat → Int32} (C : q_C mL p s m args meth c dC dI cy φ0 base) (S : l_S b L xs s φ0 base) (hR : 101 ≤ R.frames ∧ 4040 ≤ R.locals ∧ q_N ≤ R.cells ∧ q_sz q_N ≤ R.slots) {i : Int} (h0 : 0 ≤ i) (h1 : i + 6 ≤ (L : Int)) {M : q_Mem} (hM : z_IV M) (kk : ∀ M' : q_Mem, z_IV M' → l_U p l e R s m args below meth c dC dI cy φ0 base Q q_N M' 1475 [some (qR (-300)), some (qR 1), some (qR 178), some (qI i)] []) : l_U p l e R s m args below meth c dC dI cy φ0 base Q q_N M 655 [some (qR (-300)), some (qR 1), some (qR 178), some (qI i)] [] := by
  refine lr_aload_n C 655 656 rfl (x := 1) rfl dL_law_655 ?_
  refine lr_arg C S 656 (k := 1) (by omega) h0 h1 dL_law_656 dL_law_657 dL_law_658 dL_law_659 dL_law_660 ?_
  refine lr_vI C hR 661 664 rfl (av := [qI (l_x xs (i + 1))]) ca_X11_perform wm_1053 wm_1054 wm_1052 ck11 (by decide +kernel) rfl rfl (Nat.le_of_ble_eq_true rfl) dL_law_661 (tt_perform (d := 101) (K := fun v v2 M2 => v = v2 ∧ z_IV M2) (by omega) hM (fun v M1 h => ⟨rfl, h⟩)) (fun v M1 h => ?_)
  refine lr_aload_n C 664 665 rfl (x := 178) rfl dL_law_664 ?_
  refine lr_arg C S 665 (k := 1) (by omega) h0 h1 dL_law_665 dL_law_666 dL_law_667 dL_law_668 dL_law_669 ?_
  refine lr_vI C hR 670 673 rfl (av := [qI (l_x xs (i + 1))]) ca_X12_perform wm_1828 wm_1829 wm_1827 ck12 (by decide +kernel) rfl rfl (Nat.le_of_ble_eq_true rfl) dL_law_670 h (fun v2 M2 h2 => ?_)
  obtain ⟨e9, hM2⟩ := h2
  subst e9
  exact lr_icmp_eq C 673 676 1475 rfl (by decide) dL_law_673 (fun _ => kk _ hM2) (fun g => absurd rfl g)
theorem lc_16 {p : Program} {l : Launch} {e : Env} {R : Room} {s : State} {m : MethodId} {args : Array Value} {below : List Frame} {meth : Method} {c : Code} {dC : Nat → ClassId} {dI : Nat → Nat → Nat} {cy : Nat → ClassId} {φ0 : Int → Nat} {base : Nat} {Q : State → Prop} {b L : Nat} {xs : Nat → Int32} (C : q_C mL p s m args meth c dC dI cy φ0 base) (S : l_S b L xs s φ0 base) (hR : 101 ≤ R.frames ∧ 4040 ≤ R.locals ∧ q_N ≤ R.cells ∧ q_sz q_N ≤ R.slots) {i : Int} (h0 : 0 ≤ i) (h1 : i + 6 ≤ (L : Int)) {M : q_Mem} (hM : z_IV M) (kk : ∀ M' : q_Mem, z_IV M' → l_U p l e R s m args below meth c dC dI cy φ0 base Q q_N M' 1475 [some (qR (-300)), some (qR 1), some (qR 178), some (qI i)] []) : l_U p l e R s m args below meth c dC dI cy φ0 base Q q_N M 678 [some (qR (-300)), some (qR 1), some (qR 178), some (qI i)] [] := by
  refine lr_aload_n C 678 679 rfl (x := 1) rfl dL_law_678 ?_
  refine lr_arg C S 679 (k := 1) (by omega) h0 h1 dL_law_679 dL_law_680 dL_law_681 dL_law_682 dL_law_683 ?_
  refine lr_arg C S 684 (k := 2) (by omega) h0 h1 dL_law_684 dL_law_685 dL_law_686 dL_law_687 dL_law_688 ?_
  refine lr_vI C hR 689 692 rfl (av := [qI (l_x xs (i + 1)), qI (l_x xs (i + 2))]) ca_X11_day wm_1057 wm_1058 wm_1056 ck11 (by decide +kernel) rfl rfl (Nat.le_of_ble_eq_true rfl) dL_law_689 (tt_day (d := 101) (K := fun v v2 M2 => v = v2 ∧ z_IV M2) (by omega) hM (fun v M1 h => ⟨rfl, h⟩)) (fun v M1 h => ?_)
  refine lr_aload_n C 692 693 rfl (x := 178) rfl dL_law_692 ?_
  refine lr_arg C S 693 (k := 1) (by omega) h0 h1 dL_law_693 dL_law_694 dL_law_695 dL_law_696 dL_law_697 ?_
  refine lr_arg C S 698 (k := 2) (by omega) h0 h1 dL_law_698 dL_law_699 dL_law_700 dL_law_701 dL_law_702 ?_
  refine lr_vI C hR 703 706 rfl (av := [qI (l_x xs (i + 1)), qI (l_x xs (i + 2))]) ca_X12_day wm_1832 wm_1833 wm_1831 ck12 (by decide +kernel) rfl rfl (Nat.le_of_ble_eq_true rfl) dL_law_703 h (fun v2 M2 h2 => ?_)
  obtain ⟨e9, hM2⟩ := h2
  subst e9
  exact lr_icmp_eq C 706 709 1475 rfl (by decide) dL_law_706 (fun _ => kk _ hM2) (fun g => absurd rfl g)
theorem lc_17 {p : Program} {l : Launch} {e : Env} {R : Room} {s : State} {m : MethodId} {args : Array Value} {below : List Frame} {meth : Method} {c : Code} {dC : Nat → ClassId} {dI : Nat → Nat → Nat} {cy : Nat → ClassId} {φ0 : Int → Nat} {base : Nat} {Q : State → Prop} {b L : Nat} {xs : Nat → Int32} (C : q_C mL p s m args meth c dC dI cy φ0 base) (S : l_S b L xs s φ0 base) (hR : 101 ≤ R.frames ∧ 4040 ≤ R.locals ∧ q_N ≤ R.cells ∧ q_sz q_N ≤ R.slots) {i : Int} (h0 : 0 ≤ i) (h1 : i + 6 ≤ (L : Int)) {M : q_Mem} (hM : z_IV M) (kk : ∀ M' : q_Mem, z_IV M' → l_U p l e R s m args below meth c dC dI cy φ0 base Q q_N M' 1475 [some (qR (-300)), some (qR 1), some (qR 178), some (qI i)] []) : l_U p l e R s m args below meth c dC dI cy φ0 base Q q_N M 711 [some (qR (-300)), some (qR 1), some (qR 178), some (qI i)] [] := by
  refine lr_aload_n C 711 712 rfl (x := 1) rfl dL_law_711 ?_
  refine lr_vI C hR 712 715 rfl (av := []) ca_X11_faces wm_1068 wm_1069 wm_1067 ck11 (by decide +kernel) rfl rfl (Nat.le_of_ble_eq_true rfl) dL_law_712 (tt_faces (d := 101) (K := fun v v2 M2 => v = v2 ∧ z_IV M2) (by omega) hM (fun v M1 h => ⟨rfl, h⟩)) (fun v M1 h => ?_)
  refine lr_aload_n C 715 716 rfl (x := 178) rfl dL_law_715 ?_
  refine lr_vI C hR 716 719 rfl (av := []) ca_X12_faces wm_1846 wm_1847 wm_1845 ck12 (by decide +kernel) rfl rfl (Nat.le_of_ble_eq_true rfl) dL_law_716 h (fun v2 M2 h2 => ?_)
  obtain ⟨e9, hM2⟩ := h2
  subst e9
  exact lr_icmp_eq C 719 722 1475 rfl (by decide) dL_law_719 (fun _ => kk _ hM2) (fun g => absurd rfl g)
theorem lc_18 {p : Program} {l : Launch} {e : Env} {R : Room} {s : State} {m : MethodId} {args : Array Value} {below : List Frame} {meth : Method} {c : Code} {dC : Nat → ClassId} {dI : Nat → Nat → Nat} {cy : Nat → ClassId} {φ0 : Int → Nat} {base : Nat} {Q : State → Prop} {b L : Nat} {xs : Nat → Int32} (C : q_C mL p s m args meth c dC dI cy φ0 base) (S : l_S b L xs s φ0 base) (hR : 101 ≤ R.frames ∧ 4040 ≤ R.locals ∧ q_N ≤ R.cells ∧ q_sz q_N ≤ R.slots) {i : Int} (h0 : 0 ≤ i) (h1 : i + 6 ≤ (L : Int)) {M : q_Mem} (hM : z_IV M) (kk : ∀ M' : q_Mem, z_IV M' → l_U p l e R s m args below meth c dC dI cy φ0 base Q q_N M' 1475 [some (qR (-300)), some (qR 1), some (qR 178), some (qI i)] []) : l_U p l e R s m args below meth c dC dI cy φ0 base Q q_N M 724 [some (qR (-300)), some (qR 1), some (qR 178), some (qI i)] [] := by
  refine lr_aload_n C 724 725 rfl (x := 1) rfl dL_law_724 ?_
  refine lr_arg C S 725 (k := 1) (by omega) h0 h1 dL_law_725 dL_law_726 dL_law_727 dL_law_728 dL_law_729 ?_
  refine lr_arg C S 730 (k := 2) (by omega) h0 h1 dL_law_730 dL_law_731 dL_law_732 dL_law_733 dL_law_734 ?_
  refine lr_vI C hR 735 738 rfl (av := [qI (l_x xs (i + 1)), qI (l_x xs (i + 2))]) ca_X11_face wm_1072 wm_1073 wm_1071 ck11 (by decide +kernel) rfl rfl (Nat.le_of_ble_eq_true rfl) dL_law_735 (tt_face (d := 101) (K := fun v v2 M2 => v = v2 ∧ z_IV M2) (by omega) hM (fun v M1 h => ⟨rfl, h⟩)) (fun v M1 h => ?_)
  refine lr_aload_n C 738 739 rfl (x := 178) rfl dL_law_738 ?_
  refine lr_arg C S 739 (k := 1) (by omega) h0 h1 dL_law_739 dL_law_740 dL_law_741 dL_law_742 dL_law_743 ?_
  refine lr_arg C S 744 (k := 2) (by omega) h0 h1 dL_law_744 dL_law_745 dL_law_746 dL_law_747 dL_law_748 ?_
  refine lr_vI C hR 749 752 rfl (av := [qI (l_x xs (i + 1)), qI (l_x xs (i + 2))]) ca_X12_face wm_1850 wm_1851 wm_1849 ck12 (by decide +kernel) rfl rfl (Nat.le_of_ble_eq_true rfl) dL_law_749 h (fun v2 M2 h2 => ?_)
  obtain ⟨e9, hM2⟩ := h2
  subst e9
  exact lr_icmp_eq C 752 755 1475 rfl (by decide) dL_law_752 (fun _ => kk _ hM2) (fun g => absurd rfl g)
theorem lc_19 {p : Program} {l : Launch} {e : Env} {R : Room} {s : State} {m : MethodId} {args : Array Value} {below : List Frame} {meth : Method} {c : Code} {dC : Nat → ClassId} {dI : Nat → Nat → Nat} {cy : Nat → ClassId} {φ0 : Int → Nat} {base : Nat} {Q : State → Prop} {b L : Nat} {xs : Nat → Int32} (C : q_C mL p s m args meth c dC dI cy φ0 base) (S : l_S b L xs s φ0 base) (hR : 101 ≤ R.frames ∧ 4040 ≤ R.locals ∧ q_N ≤ R.cells ∧ q_sz q_N ≤ R.slots) {i : Int} (h0 : 0 ≤ i) (h1 : i + 6 ≤ (L : Int)) {M : q_Mem} (hM : z_IV M) (kk : ∀ M' : q_Mem, z_IV M' → l_U p l e R s m args below meth c dC dI cy φ0 base Q q_N M' 1475 [some (qR (-300)), some (qR 1), some (qR 178), some (qI i)] []) : l_U p l e R s m args below meth c dC dI cy φ0 base Q q_N M 757 [some (qR (-300)), some (qR 1), some (qR 178), some (qI i)] [] := by
  refine lr_aload_n C 757 758 rfl (x := 1) rfl dL_law_757 ?_
  refine lr_arg C S 758 (k := 1) (by omega) h0 h1 dL_law_758 dL_law_759 dL_law_760 dL_law_761 dL_law_762 ?_
  refine lr_arg C S 763 (k := 2) (by omega) h0 h1 dL_law_763 dL_law_764 dL_law_765 dL_law_766 dL_law_767 ?_
  refine lr_vI C hR 768 771 rfl (av := [qI (l_x xs (i + 1)), qI (l_x xs (i + 2))]) ca_X11_dart wm_1080 wm_1081 wm_1079 ck11 (by decide +kernel) rfl rfl (Nat.le_of_ble_eq_true rfl) dL_law_768 (tt_dart (d := 101) (K := fun v v2 M2 => v = v2 ∧ z_IV M2) (by omega) hM (fun v M1 h => ⟨rfl, h⟩)) (fun v M1 h => ?_)
  refine lr_aload_n C 771 772 rfl (x := 178) rfl dL_law_771 ?_
  refine lr_arg C S 772 (k := 1) (by omega) h0 h1 dL_law_772 dL_law_773 dL_law_774 dL_law_775 dL_law_776 ?_
  refine lr_arg C S 777 (k := 2) (by omega) h0 h1 dL_law_777 dL_law_778 dL_law_779 dL_law_780 dL_law_781 ?_
  refine lr_vI C hR 782 785 rfl (av := [qI (l_x xs (i + 1)), qI (l_x xs (i + 2))]) ca_X12_dart wm_1862 wm_1863 wm_1861 ck12 (by decide +kernel) rfl rfl (Nat.le_of_ble_eq_true rfl) dL_law_782 h (fun v2 M2 h2 => ?_)
  obtain ⟨e9, hM2⟩ := h2
  subst e9
  exact lr_icmp_eq C 785 788 1475 rfl (by decide) dL_law_785 (fun _ => kk _ hM2) (fun g => absurd rfl g)
theorem lc_20 {p : Program} {l : Launch} {e : Env} {R : Room} {s : State} {m : MethodId} {args : Array Value} {below : List Frame} {meth : Method} {c : Code} {dC : Nat → ClassId} {dI : Nat → Nat → Nat} {cy : Nat → ClassId} {φ0 : Int → Nat} {base : Nat} {Q : State → Prop} {b L : Nat} {xs : Nat → Int32} (C : q_C mL p s m args meth c dC dI cy φ0 base) (S : l_S b L xs s φ0 base) (hR : 101 ≤ R.frames ∧ 4040 ≤ R.locals ∧ q_N ≤ R.cells ∧ q_sz q_N ≤ R.slots) {i : Int} (h0 : 0 ≤ i) (h1 : i + 6 ≤ (L : Int)) {M : q_Mem} (hM : z_IV M) (kk : ∀ M' : q_Mem, z_IV M' → l_U p l e R s m args below meth c dC dI cy φ0 base Q q_N M' 1475 [some (qR (-300)), some (qR 1), some (qR 178), some (qI i)] []) : l_U p l e R s m args below meth c dC dI cy φ0 base Q q_N M 790 [some (qR (-300)), some (qR 1), some (qR 178), some (qI i)] [] := by
  refine lr_aload_n C 790 791 rfl (x := 1) rfl dL_law_790 ?_
  refine lr_vI C hR 791 794 rfl (av := []) ca_X11_parts wm_1088 wm_1089 wm_1087 ck11 (by decide +kernel) rfl rfl (Nat.le_of_ble_eq_true rfl) dL_law_791 (tt_parts (d := 101) (K := fun v v2 M2 => v = v2 ∧ z_IV M2) (by omega) hM (fun v M1 h => ⟨rfl, h⟩)) (fun v M1 h => ?_)
  refine lr_aload_n C 794 795 rfl (x := 178) rfl dL_law_794 ?_
  refine lr_vI C hR 795 798 rfl (av := []) ca_X12_parts wm_1870 wm_1871 wm_1869 ck12 (by decide +kernel) rfl rfl (Nat.le_of_ble_eq_true rfl) dL_law_795 h (fun v2 M2 h2 => ?_)
  obtain ⟨e9, hM2⟩ := h2
  subst e9
  exact lr_icmp_eq C 798 801 1475 rfl (by decide) dL_law_798 (fun _ => kk _ hM2) (fun g => absurd rfl g)
theorem lc_21 {p : Program} {l : Launch} {e : Env} {R : Room} {s : State} {m : MethodId} {args : Array Value} {below : List Frame} {meth : Method} {c : Code} {dC : Nat → ClassId} {dI : Nat → Nat → Nat} {cy : Nat → ClassId} {φ0 : Int → Nat} {base : Nat} {Q : State → Prop} {b L : Nat} {xs : Nat → Int32} (C : q_C mL p s m args meth c dC dI cy φ0 base) (S : l_S b L xs s φ0 base) (hR : 101 ≤ R.frames ∧ 4040 ≤ R.locals ∧ q_N ≤ R.cells ∧ q_sz q_N ≤ R.slots) {i : Int} (h0 : 0 ≤ i) (h1 : i + 6 ≤ (L : Int)) {M : q_Mem} (hM : z_IV M) (kk : ∀ M' : q_Mem, z_IV M' → l_U p l e R s m args below meth c dC dI cy φ0 base Q q_N M' 1475 [some (qR (-300)), some (qR 1), some (qR 178), some (qI i)] []) : l_U p l e R s m args below meth c dC dI cy φ0 base Q q_N M 803 [some (qR (-300)), some (qR 1), some (qR 178), some (qI i)] [] := by
  refine lr_aload_n C 803 804 rfl (x := 1) rfl dL_law_803 ?_
  refine lr_vI C hR 804 807 rfl (av := []) ca_X11_twists wm_958 wm_959 wm_1091 ck11 (by decide +kernel) rfl rfl (Nat.le_of_ble_eq_true rfl) dL_law_804 (tt_twists (d := 101) (K := fun v v2 M2 => v = v2 ∧ z_IV M2) (by omega) hM (fun v M1 h => ⟨rfl, h⟩)) (fun v M1 h => ?_)
  refine lr_aload_n C 807 808 rfl (x := 178) rfl dL_law_807 ?_
  refine lr_vI C hR 808 811 rfl (av := []) ca_X12_twists wm_1874 wm_1875 wm_1873 ck12 (by decide +kernel) rfl rfl (Nat.le_of_ble_eq_true rfl) dL_law_808 h (fun v2 M2 h2 => ?_)
  obtain ⟨e9, hM2⟩ := h2
  subst e9
  exact lr_icmp_eq C 811 814 1475 rfl (by decide) dL_law_811 (fun _ => kk _ hM2) (fun g => absurd rfl g)
theorem lc_22 {p : Program} {l : Launch} {e : Env} {R : Room} {s : State} {m : MethodId} {args : Array Value} {below : List Frame} {meth : Method} {c : Code} {dC : Nat → ClassId} {dI : Nat → Nat → Nat} {cy : Nat → ClassId} {φ0 : Int → Nat} {base : Nat} {Q : State → Prop} {b L : Nat} {xs : Nat → Int32} (C : q_C mL p s m args meth c dC dI cy φ0 base) (S : l_S b L xs s φ0 base) (hR : 101 ≤ R.frames ∧ 4040 ≤ R.locals ∧ q_N ≤ R.cells ∧ q_sz q_N ≤ R.slots) {i : Int} (h0 : 0 ≤ i) (h1 : i + 6 ≤ (L : Int)) {M : q_Mem} (hM : z_IV M) (kk : ∀ M' : q_Mem, z_IV M' → l_U p l e R s m args below meth c dC dI cy φ0 base Q q_N M' 1475 [some (qR (-300)), some (qR 1), some (qR 178), some (qI i)] []) : l_U p l e R s m args below meth c dC dI cy φ0 base Q q_N M 816 [some (qR (-300)), some (qR 1), some (qR 178), some (qI i)] [] := by
  refine lr_aload_n C 816 817 rfl (x := 1) rfl dL_law_816 ?_
  refine lr_vI C hR 817 820 rfl (av := []) ca_X11_odd wm_1093 wm_1094 wm_1092 ck11 (by decide +kernel) rfl rfl (Nat.le_of_ble_eq_true rfl) dL_law_817 (tt_odd (d := 101) (K := fun v v2 M2 => v = v2 ∧ z_IV M2) (by omega) hM (fun v M1 h => ⟨rfl, h⟩)) (fun v M1 h => ?_)
  refine lr_aload_n C 820 821 rfl (x := 178) rfl dL_law_820 ?_
  refine lr_vI C hR 821 824 rfl (av := []) ca_X12_odd wm_1878 wm_1879 wm_1877 ck12 (by decide +kernel) rfl rfl (Nat.le_of_ble_eq_true rfl) dL_law_821 h (fun v2 M2 h2 => ?_)
  obtain ⟨e9, hM2⟩ := h2
  subst e9
  exact lr_icmp_eq C 824 827 1475 rfl (by decide) dL_law_824 (fun _ => kk _ hM2) (fun g => absurd rfl g)
theorem lc_23 {p : Program} {l : Launch} {e : Env} {R : Room} {s : State} {m : MethodId} {args : Array Value} {below : List Frame} {meth : Method} {c : Code} {dC : Nat → ClassId} {dI : Nat → Nat → Nat} {cy : Nat → ClassId} {φ0 : Int → Nat} {base : Nat} {Q : State → Prop} {b L : Nat} {xs : Nat → Int32} (C : q_C mL p s m args meth c dC dI cy φ0 base) (S : l_S b L xs s φ0 base) (hR : 101 ≤ R.frames ∧ 4040 ≤ R.locals ∧ q_N ≤ R.cells ∧ q_sz q_N ≤ R.slots) {i : Int} (h0 : 0 ≤ i) (h1 : i + 6 ≤ (L : Int)) {M : q_Mem} (hM : z_IV M) (kk : ∀ M' : q_Mem, z_IV M' → l_U p l e R s m args below meth c dC dI cy φ0 base Q q_N M' 1475 [some (qR (-300)), some (qR 1), some (qR 178), some (qI i)] []) : l_U p l e R s m args below meth c dC dI cy φ0 base Q q_N M 829 [some (qR (-300)), some (qR 1), some (qR 178), some (qI i)] [] := by
  refine lr_aload_n C 829 830 rfl (x := 1) rfl dL_law_829 ?_
  refine lr_arg C S 830 (k := 1) (by omega) h0 h1 dL_law_830 dL_law_831 dL_law_832 dL_law_833 dL_law_834 ?_
  refine lr_arg C S 835 (k := 2) (by omega) h0 h1 dL_law_835 dL_law_836 dL_law_837 dL_law_838 dL_law_839 ?_
  refine lr_vI C hR 840 843 rfl (av := [qI (l_x xs (i + 1)), qI (l_x xs (i + 2))]) ca_X11_far wm_1097 wm_1098 wm_1096 ck11 (by decide +kernel) rfl rfl (Nat.le_of_ble_eq_true rfl) dL_law_840 (tt_far (d := 101) (K := fun v v2 M2 => v = v2 ∧ z_IV M2) (by omega) hM (fun v M1 h => ⟨rfl, h⟩)) (fun v M1 h => ?_)
  refine lr_aload_n C 843 844 rfl (x := 178) rfl dL_law_843 ?_
  refine lr_arg C S 844 (k := 1) (by omega) h0 h1 dL_law_844 dL_law_845 dL_law_846 dL_law_847 dL_law_848 ?_
  refine lr_arg C S 849 (k := 2) (by omega) h0 h1 dL_law_849 dL_law_850 dL_law_851 dL_law_852 dL_law_853 ?_
  refine lr_vI C hR 854 857 rfl (av := [qI (l_x xs (i + 1)), qI (l_x xs (i + 2))]) ca_X12_far wm_1882 wm_1883 wm_1881 ck12 (by decide +kernel) rfl rfl (Nat.le_of_ble_eq_true rfl) dL_law_854 h (fun v2 M2 h2 => ?_)
  obtain ⟨e9, hM2⟩ := h2
  subst e9
  exact lr_icmp_eq C 857 860 1475 rfl (by decide) dL_law_857 (fun _ => kk _ hM2) (fun g => absurd rfl g)
theorem lc_24 {p : Program} {l : Launch} {e : Env} {R : Room} {s : State} {m : MethodId} {args : Array Value} {below : List Frame} {meth : Method} {c : Code} {dC : Nat → ClassId} {dI : Nat → Nat → Nat} {cy : Nat → ClassId} {φ0 : Int → Nat} {base : Nat} {Q : State → Prop} {b L : Nat} {xs : Nat → Int32} (C : q_C mL p s m args meth c dC dI cy φ0 base) (S : l_S b L xs s φ0 base) (hR : 101 ≤ R.frames ∧ 4040 ≤ R.locals ∧ q_N ≤ R.cells ∧ q_sz q_N ≤ R.slots) {i : Int} (h0 : 0 ≤ i) (h1 : i + 6 ≤ (L : Int)) {M : q_Mem} (hM : z_IV M) (kk : ∀ M' : q_Mem, z_IV M' → l_U p l e R s m args below meth c dC dI cy φ0 base Q q_N M' 1475 [some (qR (-300)), some (qR 1), some (qR 178), some (qI i)] []) : l_U p l e R s m args below meth c dC dI cy φ0 base Q q_N M 862 [some (qR (-300)), some (qR 1), some (qR 178), some (qI i)] [] := by
  refine lr_aload_n C 862 863 rfl (x := 1) rfl dL_law_862 ?_
  refine lr_arg C S 863 (k := 1) (by omega) h0 h1 dL_law_863 dL_law_864 dL_law_865 dL_law_866 dL_law_867 ?_
  refine lr_arg C S 868 (k := 2) (by omega) h0 h1 dL_law_868 dL_law_869 dL_law_870 dL_law_871 dL_law_872 ?_
  refine lr_arg C S 873 (k := 3) (by omega) h0 h1 dL_law_873 dL_law_874 dL_law_875 dL_law_876 dL_law_877 ?_
  refine lr_vI C hR 878 881 rfl (av := [qI (l_x xs (i + 1)), qI (l_x xs (i + 2)), qI (l_x xs (i + 3))]) ca_X11_across wm_1105 wm_1106 wm_1104 ck11 (by decide +kernel) rfl rfl (Nat.le_of_ble_eq_true rfl) dL_law_878 (tt_across (d := 101) (K := fun v v2 M2 => v = v2 ∧ z_IV M2) (by omega) hM (fun v M1 h => ⟨rfl, h⟩)) (fun v M1 h => ?_)
  refine lr_aload_n C 881 882 rfl (x := 178) rfl dL_law_881 ?_
  refine lr_arg C S 882 (k := 1) (by omega) h0 h1 dL_law_882 dL_law_883 dL_law_884 dL_law_885 dL_law_886 ?_
  refine lr_arg C S 887 (k := 2) (by omega) h0 h1 dL_law_887 dL_law_888 dL_law_889 dL_law_890 dL_law_891 ?_
  refine lr_arg C S 892 (k := 3) (by omega) h0 h1 dL_law_892 dL_law_893 dL_law_894 dL_law_895 dL_law_896 ?_
  refine lr_vI C hR 897 900 rfl (av := [qI (l_x xs (i + 1)), qI (l_x xs (i + 2)), qI (l_x xs (i + 3))]) ca_X12_across wm_1890 wm_1891 wm_1889 ck12 (by decide +kernel) rfl rfl (Nat.le_of_ble_eq_true rfl) dL_law_897 h (fun v2 M2 h2 => ?_)
  obtain ⟨e9, hM2⟩ := h2
  subst e9
  exact lr_icmp_eq C 900 903 1475 rfl (by decide) dL_law_900 (fun _ => kk _ hM2) (fun g => absurd rfl g)
theorem lc_25 {p : Program} {l : Launch} {e : Env} {R : Room} {s : State} {m : MethodId} {args : Array Value} {below : List Frame} {meth : Method} {c : Code} {dC : Nat → ClassId} {dI : Nat → Nat → Nat} {cy : Nat → ClassId} {φ0 : Int → Nat} {base : Nat} {Q : State → Prop} {b L : Nat} {xs : Nat → Int32} (C : q_C mL p s m args meth c dC dI cy φ0 base) (S : l_S b L xs s φ0 base) (hR : 101 ≤ R.frames ∧ 4040 ≤ R.locals ∧ q_N ≤ R.cells ∧ q_sz q_N ≤ R.slots) {i : Int} (h0 : 0 ≤ i) (h1 : i + 6 ≤ (L : Int)) {M : q_Mem} (hM : z_IV M) (kk : ∀ M' : q_Mem, z_IV M' → l_U p l e R s m args below meth c dC dI cy φ0 base Q q_N M' 1475 [some (qR (-300)), some (qR 1), some (qR 178), some (qI i)] []) : l_U p l e R s m args below meth c dC dI cy φ0 base Q q_N M 905 [some (qR (-300)), some (qR 1), some (qR 178), some (qI i)] [] := by
  refine lr_aload_n C 905 906 rfl (x := 1) rfl dL_law_905 ?_
  refine lr_arg C S 906 (k := 1) (by omega) h0 h1 dL_law_906 dL_law_907 dL_law_908 dL_law_909 dL_law_910 ?_
  refine lr_vI C hR 911 914 rfl (av := [qI (l_x xs (i + 1))]) ca_X11_partner wm_1113 wm_1114 wm_1112 ck11 (by decide +kernel) rfl rfl (Nat.le_of_ble_eq_true rfl) dL_law_911 (tt_partner (d := 101) (K := fun v v2 M2 => v = v2 ∧ z_IV M2) (by omega) hM (fun v M1 h => ⟨rfl, h⟩)) (fun v M1 h => ?_)
  refine lr_aload_n C 914 915 rfl (x := 178) rfl dL_law_914 ?_
  refine lr_arg C S 915 (k := 1) (by omega) h0 h1 dL_law_915 dL_law_916 dL_law_917 dL_law_918 dL_law_919 ?_
  refine lr_vI C hR 920 923 rfl (av := [qI (l_x xs (i + 1))]) ca_X12_partner wm_1894 wm_1895 wm_1893 ck12 (by decide +kernel) rfl rfl (Nat.le_of_ble_eq_true rfl) dL_law_920 h (fun v2 M2 h2 => ?_)
  obtain ⟨e9, hM2⟩ := h2
  subst e9
  exact lr_icmp_eq C 923 926 1475 rfl (by decide) dL_law_923 (fun _ => kk _ hM2) (fun g => absurd rfl g)
theorem lc_26 {p : Program} {l : Launch} {e : Env} {R : Room} {s : State} {m : MethodId} {args : Array Value} {below : List Frame} {meth : Method} {c : Code} {dC : Nat → ClassId} {dI : Nat → Nat → Nat} {cy : Nat → ClassId} {φ0 : Int → Nat} {base : Nat} {Q : State → Prop} {b L : Nat} {xs : Nat → Int32} (C : q_C mL p s m args meth c dC dI cy φ0 base) (S : l_S b L xs s φ0 base) (hR : 101 ≤ R.frames ∧ 4040 ≤ R.locals ∧ q_N ≤ R.cells ∧ q_sz q_N ≤ R.slots) {i : Int} (h0 : 0 ≤ i) (h1 : i + 6 ≤ (L : Int)) {M : q_Mem} (hM : z_IV M) (kk : ∀ M' : q_Mem, z_IV M' → l_U p l e R s m args below meth c dC dI cy φ0 base Q q_N M' 1475 [some (qR (-300)), some (qR 1), some (qR 178), some (qI i)] []) : l_U p l e R s m args below meth c dC dI cy φ0 base Q q_N M 928 [some (qR (-300)), some (qR 1), some (qR 178), some (qI i)] [] := by
  refine lr_aload_n C 928 929 rfl (x := 1) rfl dL_law_928 ?_
  refine lr_vI C hR 929 932 rfl (av := []) ca_X11_join wm_1117 wm_1118 wm_1116 ck11 (by decide +kernel) rfl rfl (Nat.le_of_ble_eq_true rfl) dL_law_929 (tt_join (d := 101) (K := fun v v2 M2 => v = v2 ∧ z_IV M2) (by omega) hM (fun v M1 h => ⟨rfl, h⟩)) (fun v M1 h => ?_)
  refine lr_aload_n C 932 933 rfl (x := 178) rfl dL_law_932 ?_
  refine lr_vI C hR 933 936 rfl (av := []) ca_X12_join wm_1898 wm_1899 wm_1897 ck12 (by decide +kernel) rfl rfl (Nat.le_of_ble_eq_true rfl) dL_law_933 h (fun v2 M2 h2 => ?_)
  obtain ⟨e9, hM2⟩ := h2
  subst e9
  exact lr_icmp_eq C 936 939 1475 rfl (by decide) dL_law_936 (fun _ => kk _ hM2) (fun g => absurd rfl g)
theorem lc_27 {p : Program} {l : Launch} {e : Env} {R : Room} {s : State} {m : MethodId} {args : Array Value} {below : List Frame} {meth : Method} {c : Code} {dC : Nat → ClassId} {dI : Nat → Nat → Nat} {cy : Nat → ClassId} {φ0 : Int → Nat} {base : Nat} {Q : State → Prop} {b L : Nat} {xs : Nat → Int32} (C : q_C mL p s m args meth c dC dI cy φ0 base) (S : l_S b L xs s φ0 base) (hR : 101 ≤ R.frames ∧ 4040 ≤ R.locals ∧ q_N ≤ R.cells ∧ q_sz q_N ≤ R.slots) {i : Int} (h0 : 0 ≤ i) (h1 : i + 6 ≤ (L : Int)) {M : q_Mem} (hM : z_IV M) (kk : ∀ M' : q_Mem, z_IV M' → l_U p l e R s m args below meth c dC dI cy φ0 base Q q_N M' 1475 [some (qR (-300)), some (qR 1), some (qR 178), some (qI i)] []) : l_U p l e R s m args below meth c dC dI cy φ0 base Q q_N M 941 [some (qR (-300)), some (qR 1), some (qR 178), some (qI i)] [] := by
  refine lr_aload_n C 941 942 rfl (x := 1) rfl dL_law_941 ?_
  refine lr_arg C S 942 (k := 1) (by omega) h0 h1 dL_law_942 dL_law_943 dL_law_944 dL_law_945 dL_law_946 ?_
  refine lr_vI C hR 947 950 rfl (av := [qI (l_x xs (i + 1))]) ca_X11_proof wm_1121 wm_1122 wm_1120 ck11 (by decide +kernel) rfl rfl (Nat.le_of_ble_eq_true rfl) dL_law_947 (tt_proof (d := 101) (K := fun v v2 M2 => v = v2 ∧ z_IV M2) (by omega) hM (fun v M1 h => ⟨rfl, h⟩)) (fun v M1 h => ?_)
  refine lr_aload_n C 950 951 rfl (x := 178) rfl dL_law_950 ?_
  refine lr_arg C S 951 (k := 1) (by omega) h0 h1 dL_law_951 dL_law_952 dL_law_953 dL_law_954 dL_law_955 ?_
  refine lr_vI C hR 956 959 rfl (av := [qI (l_x xs (i + 1))]) ca_X12_proof wm_1902 wm_1903 wm_1901 ck12 (by decide +kernel) rfl rfl (Nat.le_of_ble_eq_true rfl) dL_law_956 h (fun v2 M2 h2 => ?_)
  obtain ⟨e9, hM2⟩ := h2
  subst e9
  exact lr_icmp_eq C 959 962 1475 rfl (by decide) dL_law_959 (fun _ => kk _ hM2) (fun g => absurd rfl g)
theorem lc_28 {p : Program} {l : Launch} {e : Env} {R : Room} {s : State} {m : MethodId} {args : Array Value} {below : List Frame} {meth : Method} {c : Code} {dC : Nat → ClassId} {dI : Nat → Nat → Nat} {cy : Nat → ClassId} {φ0 : Int → Nat} {base : Nat} {Q : State → Prop} {b L : Nat} {xs : Nat → Int32} (C : q_C mL p s m args meth c dC dI cy φ0 base) (S : l_S b L xs s φ0 base) (hR : 101 ≤ R.frames ∧ 4040 ≤ R.locals ∧ q_N ≤ R.cells ∧ q_sz q_N ≤ R.slots) {i : Int} (h0 : 0 ≤ i) (h1 : i + 6 ≤ (L : Int)) {M : q_Mem} (hM : z_IV M) (kk : ∀ M' : q_Mem, z_IV M' → l_U p l e R s m args below meth c dC dI cy φ0 base Q q_N M' 1475 [some (qR (-300)), some (qR 1), some (qR 178), some (qI i)] []) : l_U p l e R s m args below meth c dC dI cy φ0 base Q q_N M 964 [some (qR (-300)), some (qR 1), some (qR 178), some (qI i)] [] := by
  refine lr_aload_n C 964 965 rfl (x := 1) rfl dL_law_964 ?_
  refine lr_arg C S 965 (k := 1) (by omega) h0 h1 dL_law_965 dL_law_966 dL_law_967 dL_law_968 dL_law_969 ?_
  refine lr_vI C hR 970 973 rfl (av := [qI (l_x xs (i + 1))]) ca_X11_greatest wm_1126 wm_1127 wm_1125 ck11 (by decide +kernel) rfl rfl (Nat.le_of_ble_eq_true rfl) dL_law_970 (tt_greatest (d := 101) (K := fun v v2 M2 => v = v2 ∧ z_IV M2) (by omega) hM (fun v M1 h => ⟨rfl, h⟩)) (fun v M1 h => ?_)
  refine lr_aload_n C 973 974 rfl (x := 178) rfl dL_law_973 ?_
  refine lr_arg C S 974 (k := 1) (by omega) h0 h1 dL_law_974 dL_law_975 dL_law_976 dL_law_977 dL_law_978 ?_
  refine lr_vI C hR 979 982 rfl (av := [qI (l_x xs (i + 1))]) ca_X12_greatest wm_1910 wm_1911 wm_1909 ck12 (by decide +kernel) rfl rfl (Nat.le_of_ble_eq_true rfl) dL_law_979 h (fun v2 M2 h2 => ?_)
  obtain ⟨e9, hM2⟩ := h2
  subst e9
  exact lr_icmp_eq C 982 985 1475 rfl (by decide) dL_law_982 (fun _ => kk _ hM2) (fun g => absurd rfl g)
theorem lc_29 {p : Program} {l : Launch} {e : Env} {R : Room} {s : State} {m : MethodId} {args : Array Value} {below : List Frame} {meth : Method} {c : Code} {dC : Nat → ClassId} {dI : Nat → Nat → Nat} {cy : Nat → ClassId} {φ0 : Int → Nat} {base : Nat} {Q : State → Prop} {b L : Nat} {xs : Nat → Int32} (C : q_C mL p s m args meth c dC dI cy φ0 base) (S : l_S b L xs s φ0 base) (hR : 101 ≤ R.frames ∧ 4040 ≤ R.locals ∧ q_N ≤ R.cells ∧ q_sz q_N ≤ R.slots) {i : Int} (h0 : 0 ≤ i) (h1 : i + 6 ≤ (L : Int)) {M : q_Mem} (hM : z_IV M) (kk : ∀ M' : q_Mem, z_IV M' → l_U p l e R s m args below meth c dC dI cy φ0 base Q q_N M' 1475 [some (qR (-300)), some (qR 1), some (qR 178), some (qI i)] []) : l_U p l e R s m args below meth c dC dI cy φ0 base Q q_N M 987 [some (qR (-300)), some (qR 1), some (qR 178), some (qI i)] [] := by
  refine lr_aload_n C 987 988 rfl (x := 1) rfl dL_law_987 ?_
  refine lr_arg C S 988 (k := 1) (by omega) h0 h1 dL_law_988 dL_law_989 dL_law_990 dL_law_991 dL_law_992 ?_
  refine lr_vI C hR 993 996 rfl (av := [qI (l_x xs (i + 1))]) ca_X11_least wm_1139 wm_1140 wm_1138 ck11 (by decide +kernel) rfl rfl (Nat.le_of_ble_eq_true rfl) dL_law_993 (tt_least (d := 101) (K := fun v v2 M2 => v = v2 ∧ z_IV M2) (by omega) hM (fun v M1 h => ⟨rfl, h⟩)) (fun v M1 h => ?_)
  refine lr_aload_n C 996 997 rfl (x := 178) rfl dL_law_996 ?_
  refine lr_arg C S 997 (k := 1) (by omega) h0 h1 dL_law_997 dL_law_998 dL_law_999 dL_law_1000 dL_law_1001 ?_
  refine lr_vI C hR 1002 1005 rfl (av := [qI (l_x xs (i + 1))]) ca_X12_least wm_1920 wm_1921 wm_1919 ck12 (by decide +kernel) rfl rfl (Nat.le_of_ble_eq_true rfl) dL_law_1002 h (fun v2 M2 h2 => ?_)
  obtain ⟨e9, hM2⟩ := h2
  subst e9
  exact lr_icmp_eq C 1005 1008 1475 rfl (by decide) dL_law_1005 (fun _ => kk _ hM2) (fun g => absurd rfl g)
theorem lc_30 {p : Program} {l : Launch} {e : Env} {R : Room} {s : State} {m : MethodId} {args : Array Value} {below : List Frame} {meth : Method} {c : Code} {dC : Nat → ClassId} {dI : Nat → Nat → Nat} {cy : Nat → ClassId} {φ0 : Int → Nat} {base : Nat} {Q : State → Prop} {b L : Nat} {xs : Nat → Int32} (C : q_C mL p s m args meth c dC dI cy φ0 base) (S : l_S b L xs s φ0 base) (hR : 101 ≤ R.frames ∧ 4040 ≤ R.locals ∧ q_N ≤ R.cells ∧ q_sz q_N ≤ R.slots) {i : Int} (h0 : 0 ≤ i) (h1 : i + 6 ≤ (L : Int)) {M : q_Mem} (hM : z_IV M) (kk : ∀ M' : q_Mem, z_IV M' → l_U p l e R s m args below meth c dC dI cy φ0 base Q q_N M' 1475 [some (qR (-300)), some (qR 1), some (qR 178), some (qI i)] []) : l_U p l e R s m args below meth c dC dI cy φ0 base Q q_N M 1010 [some (qR (-300)), some (qR 1), some (qR 178), some (qI i)] [] := by
  refine lr_aload_n C 1010 1011 rfl (x := 1) rfl dL_law_1010 ?_
  refine lr_vI C hR 1011 1014 rfl (av := []) ca_X11_worth wm_930 wm_931 wm_1142 ck11 (by decide +kernel) rfl rfl (Nat.le_of_ble_eq_true rfl) dL_law_1011 (tt_worth (d := 101) (K := fun v v2 M2 => v = v2 ∧ z_IV M2) (by omega) hM (fun v M1 h => ⟨rfl, h⟩)) (fun v M1 h => ?_)
  refine lr_aload_n C 1014 1015 rfl (x := 178) rfl dL_law_1014 ?_
  refine lr_vI C hR 1015 1018 rfl (av := []) ca_X12_worth wm_1924 wm_1925 wm_1923 ck12 (by decide +kernel) rfl rfl (Nat.le_of_ble_eq_true rfl) dL_law_1015 h (fun v2 M2 h2 => ?_)
  obtain ⟨e9, hM2⟩ := h2
  subst e9
  exact lr_icmp_eq C 1018 1021 1475 rfl (by decide) dL_law_1018 (fun _ => kk _ hM2) (fun g => absurd rfl g)
theorem lc_31 {p : Program} {l : Launch} {e : Env} {R : Room} {s : State} {m : MethodId} {args : Array Value} {below : List Frame} {meth : Method} {c : Code} {dC : Nat → ClassId} {dI : Nat → Nat → Nat} {cy : Nat → ClassId} {φ0 : Int → Nat} {base : Nat} {Q : State → Prop} {b L : Nat} {xs : Nat → Int32} (C : q_C mL p s m args meth c dC dI cy φ0 base) (S : l_S b L xs s φ0 base) (hR : 101 ≤ R.frames ∧ 4040 ≤ R.locals ∧ q_N ≤ R.cells ∧ q_sz q_N ≤ R.slots) {i : Int} (h0 : 0 ≤ i) (h1 : i + 6 ≤ (L : Int)) {M : q_Mem} (hM : z_IV M) (kk : ∀ M' : q_Mem, z_IV M' → l_U p l e R s m args below meth c dC dI cy φ0 base Q q_N M' 1475 [some (qR (-300)), some (qR 1), some (qR 178), some (qI i)] []) : l_U p l e R s m args below meth c dC dI cy φ0 base Q q_N M 1023 [some (qR (-300)), some (qR 1), some (qR 178), some (qI i)] [] := by
  refine lr_aload_n C 1023 1024 rfl (x := 1) rfl dL_law_1023 ?_
  refine lr_arg C S 1024 (k := 1) (by omega) h0 h1 dL_law_1024 dL_law_1025 dL_law_1026 dL_law_1027 dL_law_1028 ?_
  refine lr_vI C hR 1029 1032 rfl (av := [qI (l_x xs (i + 1))]) ca_X11_gain wm_1144 wm_1145 wm_1143 ck11 (by decide +kernel) rfl rfl (Nat.le_of_ble_eq_true rfl) dL_law_1029 (tt_gain (d := 101) (K := fun v v2 M2 => v = v2 ∧ z_IV M2) (by omega) hM (fun v M1 h => ⟨rfl, h⟩)) (fun v M1 h => ?_)
  refine lr_aload_n C 1032 1033 rfl (x := 178) rfl dL_law_1032 ?_
  refine lr_arg C S 1033 (k := 1) (by omega) h0 h1 dL_law_1033 dL_law_1034 dL_law_1035 dL_law_1036 dL_law_1037 ?_
  refine lr_vI C hR 1038 1041 rfl (av := [qI (l_x xs (i + 1))]) ca_X12_gain wm_1928 wm_1929 wm_1927 ck12 (by decide +kernel) rfl rfl (Nat.le_of_ble_eq_true rfl) dL_law_1038 h (fun v2 M2 h2 => ?_)
  obtain ⟨e9, hM2⟩ := h2
  subst e9
  exact lr_icmp_eq C 1041 1044 1475 rfl (by decide) dL_law_1041 (fun _ => kk _ hM2) (fun g => absurd rfl g)
theorem lc_32 {p : Program} {l : Launch} {e : Env} {R : Room} {s : State} {m : MethodId} {args : Array Value} {below : List Frame} {meth : Method} {c : Code} {dC : Nat → ClassId} {dI : Nat → Nat → Nat} {cy : Nat → ClassId} {φ0 : Int → Nat} {base : Nat} {Q : State → Prop} {b L : Nat} {xs : Nat → Int32} (C : q_C mL p s m args meth c dC dI cy φ0 base) (S : l_S b L xs s φ0 base) (hR : 101 ≤ R.frames ∧ 4040 ≤ R.locals ∧ q_N ≤ R.cells ∧ q_sz q_N ≤ R.slots) {i : Int} (h0 : 0 ≤ i) (h1 : i + 6 ≤ (L : Int)) {M : q_Mem} (hM : z_IV M) (kk : ∀ M' : q_Mem, z_IV M' → l_U p l e R s m args below meth c dC dI cy φ0 base Q q_N M' 1475 [some (qR (-300)), some (qR 1), some (qR 178), some (qI i)] []) : l_U p l e R s m args below meth c dC dI cy φ0 base Q q_N M 1046 [some (qR (-300)), some (qR 1), some (qR 178), some (qI i)] [] := by
  refine lr_aload_n C 1046 1047 rfl (x := 1) rfl dL_law_1046 ?_
  refine lr_arg C S 1047 (k := 1) (by omega) h0 h1 dL_law_1047 dL_law_1048 dL_law_1049 dL_law_1050 dL_law_1051 ?_
  refine lr_vI C hR 1052 1055 rfl (av := [qI (l_x xs (i + 1))]) ca_X11_all wm_1148 wm_1149 wm_1147 ck11 (by decide +kernel) rfl rfl (Nat.le_of_ble_eq_true rfl) dL_law_1052 (tt_all (d := 101) (K := fun v v2 M2 => v = v2 ∧ z_IV M2) (by omega) hM (fun v M1 h => ⟨rfl, h⟩)) (fun v M1 h => ?_)
  refine lr_aload_n C 1055 1056 rfl (x := 178) rfl dL_law_1055 ?_
  refine lr_arg C S 1056 (k := 1) (by omega) h0 h1 dL_law_1056 dL_law_1057 dL_law_1058 dL_law_1059 dL_law_1060 ?_
  refine lr_vI C hR 1061 1064 rfl (av := [qI (l_x xs (i + 1))]) ca_X12_all wm_1932 wm_1933 wm_1931 ck12 (by decide +kernel) rfl rfl (Nat.le_of_ble_eq_true rfl) dL_law_1061 h (fun v2 M2 h2 => ?_)
  obtain ⟨e9, hM2⟩ := h2
  subst e9
  exact lr_icmp_eq C 1064 1067 1475 rfl (by decide) dL_law_1064 (fun _ => kk _ hM2) (fun g => absurd rfl g)
theorem lc_33 {p : Program} {l : Launch} {e : Env} {R : Room} {s : State} {m : MethodId} {args : Array Value} {below : List Frame} {meth : Method} {c : Code} {dC : Nat → ClassId} {dI : Nat → Nat → Nat} {cy : Nat → ClassId} {φ0 : Int → Nat} {base : Nat} {Q : State → Prop} {b L : Nat} {xs : Nat → Int32} (C : q_C mL p s m args meth c dC dI cy φ0 base) (S : l_S b L xs s φ0 base) (hR : 101 ≤ R.frames ∧ 4040 ≤ R.locals ∧ q_N ≤ R.cells ∧ q_sz q_N ≤ R.slots) {i : Int} (h0 : 0 ≤ i) (h1 : i + 6 ≤ (L : Int)) {M : q_Mem} (hM : z_IV M) (kk : ∀ M' : q_Mem, z_IV M' → l_U p l e R s m args below meth c dC dI cy φ0 base Q q_N M' 1475 [some (qR (-300)), some (qR 1), some (qR 178), some (qI i)] []) : l_U p l e R s m args below meth c dC dI cy φ0 base Q q_N M 1069 [some (qR (-300)), some (qR 1), some (qR 178), some (qI i)] [] := by
  refine lr_aload_n C 1069 1070 rfl (x := 1) rfl dL_law_1069 ?_
  refine lr_vI C hR 1070 1073 rfl (av := []) ca_X11_best wm_1152 wm_1153 wm_1151 ck11 (by decide +kernel) rfl rfl (Nat.le_of_ble_eq_true rfl) dL_law_1070 (tt_best (d := 101) (K := fun v v2 M2 => v = v2 ∧ z_IV M2) (by omega) hM (fun v M1 h => ⟨rfl, h⟩)) (fun v M1 h => ?_)
  refine lr_aload_n C 1073 1074 rfl (x := 178) rfl dL_law_1073 ?_
  refine lr_vI C hR 1074 1077 rfl (av := []) ca_X12_best wm_1940 wm_1941 wm_1939 ck12 (by decide +kernel) rfl rfl (Nat.le_of_ble_eq_true rfl) dL_law_1074 h (fun v2 M2 h2 => ?_)
  obtain ⟨e9, hM2⟩ := h2
  subst e9
  exact lr_icmp_eq C 1077 1080 1475 rfl (by decide) dL_law_1077 (fun _ => kk _ hM2) (fun g => absurd rfl g)
theorem lc_34 {p : Program} {l : Launch} {e : Env} {R : Room} {s : State} {m : MethodId} {args : Array Value} {below : List Frame} {meth : Method} {c : Code} {dC : Nat → ClassId} {dI : Nat → Nat → Nat} {cy : Nat → ClassId} {φ0 : Int → Nat} {base : Nat} {Q : State → Prop} {b L : Nat} {xs : Nat → Int32} (C : q_C mL p s m args meth c dC dI cy φ0 base) (S : l_S b L xs s φ0 base) (hR : 101 ≤ R.frames ∧ 4040 ≤ R.locals ∧ q_N ≤ R.cells ∧ q_sz q_N ≤ R.slots) {i : Int} (h0 : 0 ≤ i) (h1 : i + 6 ≤ (L : Int)) {M : q_Mem} (hM : z_IV M) (kk : ∀ M' : q_Mem, z_IV M' → l_U p l e R s m args below meth c dC dI cy φ0 base Q q_N M' 1475 [some (qR (-300)), some (qR 1), some (qR 178), some (qI i)] []) : l_U p l e R s m args below meth c dC dI cy φ0 base Q q_N M 1082 [some (qR (-300)), some (qR 1), some (qR 178), some (qI i)] [] := by
  refine lr_aload_n C 1082 1083 rfl (x := 1) rfl dL_law_1082 ?_
  refine lr_vI C hR 1083 1086 rfl (av := []) ca_X11_stuck wm_1160 wm_1161 wm_1159 ck11 (by decide +kernel) rfl rfl (Nat.le_of_ble_eq_true rfl) dL_law_1083 (tt_stuck (d := 101) (K := fun v v2 M2 => v = v2 ∧ z_IV M2) (by omega) hM (fun v M1 h => ⟨rfl, h⟩)) (fun v M1 h => ?_)
  refine lr_aload_n C 1086 1087 rfl (x := 178) rfl dL_law_1086 ?_
  refine lr_vI C hR 1087 1090 rfl (av := []) ca_X12_stuck wm_1944 wm_1945 wm_1943 ck12 (by decide +kernel) rfl rfl (Nat.le_of_ble_eq_true rfl) dL_law_1087 h (fun v2 M2 h2 => ?_)
  obtain ⟨e9, hM2⟩ := h2
  subst e9
  exact lr_icmp_eq C 1090 1093 1475 rfl (by decide) dL_law_1090 (fun _ => kk _ hM2) (fun g => absurd rfl g)
theorem lc_35 {p : Program} {l : Launch} {e : Env} {R : Room} {s : State} {m : MethodId} {args : Array Value} {below : List Frame} {meth : Method} {c : Code} {dC : Nat → ClassId} {dI : Nat → Nat → Nat} {cy : Nat → ClassId} {φ0 : Int → Nat} {base : Nat} {Q : State → Prop} {b L : Nat} {xs : Nat → Int32} (C : q_C mL p s m args meth c dC dI cy φ0 base) (S : l_S b L xs s φ0 base) (hR : 101 ≤ R.frames ∧ 4040 ≤ R.locals ∧ q_N ≤ R.cells ∧ q_sz q_N ≤ R.slots) {i : Int} (h0 : 0 ≤ i) (h1 : i + 6 ≤ (L : Int)) {M : q_Mem} (hM : z_IV M) (kk : ∀ M' : q_Mem, z_IV M' → l_U p l e R s m args below meth c dC dI cy φ0 base Q q_N M' 1475 [some (qR (-300)), some (qR 1), some (qR 178), some (qI i)] []) : l_U p l e R s m args below meth c dC dI cy φ0 base Q q_N M 1095 [some (qR (-300)), some (qR 1), some (qR 178), some (qI i)] [] := by
  refine lr_aload_n C 1095 1096 rfl (x := 1) rfl dL_law_1095 ?_
  refine lr_vI C hR 1096 1099 rfl (av := []) ca_X11_steps wm_1172 wm_1173 wm_1171 ck11 (by decide +kernel) rfl rfl (Nat.le_of_ble_eq_true rfl) dL_law_1096 (tt_steps (d := 101) (K := fun v v2 M2 => v = v2 ∧ z_IV M2) (by omega) hM (fun v M1 h => ⟨rfl, h⟩)) (fun v M1 h => ?_)
  refine lr_aload_n C 1099 1100 rfl (x := 178) rfl dL_law_1099 ?_
  refine lr_vI C hR 1100 1103 rfl (av := []) ca_X12_steps wm_1952 wm_1953 wm_1951 ck12 (by decide +kernel) rfl rfl (Nat.le_of_ble_eq_true rfl) dL_law_1100 h (fun v2 M2 h2 => ?_)
  obtain ⟨e9, hM2⟩ := h2
  subst e9
  exact lr_icmp_eq C 1103 1106 1475 rfl (by decide) dL_law_1103 (fun _ => kk _ hM2) (fun g => absurd rfl g)
theorem lc_36 {p : Program} {l : Launch} {e : Env} {R : Room} {s : State} {m : MethodId} {args : Array Value} {below : List Frame} {meth : Method} {c : Code} {dC : Nat → ClassId} {dI : Nat → Nat → Nat} {cy : Nat → ClassId} {φ0 : Int → Nat} {base : Nat} {Q : State → Prop} {b L : Nat} {xs : Nat → Int32} (C : q_C mL p s m args meth c dC dI cy φ0 base) (S : l_S b L xs s φ0 base) (hR : 101 ≤ R.frames ∧ 4040 ≤ R.locals ∧ q_N ≤ R.cells ∧ q_sz q_N ≤ R.slots) {i : Int} (h0 : 0 ≤ i) (h1 : i + 6 ≤ (L : Int)) {M : q_Mem} (hM : z_IV M) (kk : ∀ M' : q_Mem, z_IV M' → l_U p l e R s m args below meth c dC dI cy φ0 base Q q_N M' 1475 [some (qR (-300)), some (qR 1), some (qR 178), some (qI i)] []) : l_U p l e R s m args below meth c dC dI cy φ0 base Q q_N M 1108 [some (qR (-300)), some (qR 1), some (qR 178), some (qI i)] [] := by
  refine lr_aload_n C 1108 1109 rfl (x := 1) rfl dL_law_1108 ?_
  refine lr_vI C hR 1109 1112 rfl (av := []) ca_X11_climb wm_1181 wm_1182 wm_1180 ck11 (by decide +kernel) rfl rfl (Nat.le_of_ble_eq_true rfl) dL_law_1109 (tt_climb (d := 101) (K := fun v v2 M2 => v = v2 ∧ z_IV M2) (by omega) hM (fun v M1 h => ⟨rfl, h⟩)) (fun v M1 h => ?_)
  refine lr_aload_n C 1112 1113 rfl (x := 178) rfl dL_law_1112 ?_
  refine lr_vI C hR 1113 1116 rfl (av := []) ca_X12_climb wm_1956 wm_1957 wm_1955 ck12 (by decide +kernel) rfl rfl (Nat.le_of_ble_eq_true rfl) dL_law_1113 h (fun v2 M2 h2 => ?_)
  obtain ⟨e9, hM2⟩ := h2
  subst e9
  exact lr_icmp_eq C 1116 1119 1475 rfl (by decide) dL_law_1116 (fun _ => kk _ hM2) (fun g => absurd rfl g)
theorem lc_37 {p : Program} {l : Launch} {e : Env} {R : Room} {s : State} {m : MethodId} {args : Array Value} {below : List Frame} {meth : Method} {c : Code} {dC : Nat → ClassId} {dI : Nat → Nat → Nat} {cy : Nat → ClassId} {φ0 : Int → Nat} {base : Nat} {Q : State → Prop} {b L : Nat} {xs : Nat → Int32} (C : q_C mL p s m args meth c dC dI cy φ0 base) (S : l_S b L xs s φ0 base) (hR : 101 ≤ R.frames ∧ 4040 ≤ R.locals ∧ q_N ≤ R.cells ∧ q_sz q_N ≤ R.slots) {i : Int} (h0 : 0 ≤ i) (h1 : i + 6 ≤ (L : Int)) {M : q_Mem} (hM : z_IV M) (kk : ∀ M' : q_Mem, z_IV M' → l_U p l e R s m args below meth c dC dI cy φ0 base Q q_N M' 1475 [some (qR (-300)), some (qR 1), some (qR 178), some (qI i)] []) : l_U p l e R s m args below meth c dC dI cy φ0 base Q q_N M 1121 [some (qR (-300)), some (qR 1), some (qR 178), some (qI i)] [] := by
  refine lr_aload_n C 1121 1122 rfl (x := 1) rfl dL_law_1121 ?_
  refine lr_vI C hR 1122 1125 rfl (av := []) ca_X11_longest wm_1190 wm_1191 wm_1189 ck11 (by decide +kernel) rfl rfl (Nat.le_of_ble_eq_true rfl) dL_law_1122 (tt_longest (d := 101) (K := fun v v2 M2 => v = v2 ∧ z_IV M2) (by omega) hM (fun v M1 h => ⟨rfl, h⟩)) (fun v M1 h => ?_)
  refine lr_aload_n C 1125 1126 rfl (x := 178) rfl dL_law_1125 ?_
  refine lr_vI C hR 1126 1129 rfl (av := []) ca_X12_longest wm_1960 wm_1961 wm_1959 ck12 (by decide +kernel) rfl rfl (Nat.le_of_ble_eq_true rfl) dL_law_1126 h (fun v2 M2 h2 => ?_)
  obtain ⟨e9, hM2⟩ := h2
  subst e9
  exact lr_icmp_eq C 1129 1132 1475 rfl (by decide) dL_law_1129 (fun _ => kk _ hM2) (fun g => absurd rfl g)
theorem lc_38 {p : Program} {l : Launch} {e : Env} {R : Room} {s : State} {m : MethodId} {args : Array Value} {below : List Frame} {meth : Method} {c : Code} {dC : Nat → ClassId} {dI : Nat → Nat → Nat} {cy : Nat → ClassId} {φ0 : Int → Nat} {base : Nat} {Q : State → Prop} {b L : Nat} {xs : Nat → Int32} (C : q_C mL p s m args meth c dC dI cy φ0 base) (S : l_S b L xs s φ0 base) (hR : 101 ≤ R.frames ∧ 4040 ≤ R.locals ∧ q_N ≤ R.cells ∧ q_sz q_N ≤ R.slots) {i : Int} (h0 : 0 ≤ i) (h1 : i + 6 ≤ (L : Int)) {M : q_Mem} (hM : z_IV M) (kk : ∀ M' : q_Mem, z_IV M' → l_U p l e R s m args below meth c dC dI cy φ0 base Q q_N M' 1475 [some (qR (-300)), some (qR 1), some (qR 178), some (qI i)] []) : l_U p l e R s m args below meth c dC dI cy φ0 base Q q_N M 1134 [some (qR (-300)), some (qR 1), some (qR 178), some (qI i)] [] := by
  refine lr_aload_n C 1134 1135 rfl (x := 1) rfl dL_law_1134 ?_
  refine lr_arg C S 1135 (k := 1) (by omega) h0 h1 dL_law_1135 dL_law_1136 dL_law_1137 dL_law_1138 dL_law_1139 ?_
  refine lr_vI C hR 1140 1143 rfl (av := [qI (l_x xs (i + 1))]) ca_X11_warms wm_1202 wm_1203 wm_1201 ck11 (by decide +kernel) rfl rfl (Nat.le_of_ble_eq_true rfl) dL_law_1140 (tt_warms (d := 101) (K := fun v v2 M2 => v = v2 ∧ z_IV M2) (by omega) hM (fun v M1 h => ⟨rfl, h⟩)) (fun v M1 h => ?_)
  refine lr_aload_n C 1143 1144 rfl (x := 178) rfl dL_law_1143 ?_
  refine lr_arg C S 1144 (k := 1) (by omega) h0 h1 dL_law_1144 dL_law_1145 dL_law_1146 dL_law_1147 dL_law_1148 ?_
  refine lr_vI C hR 1149 1152 rfl (av := [qI (l_x xs (i + 1))]) ca_X12_warms wm_1968 wm_1969 wm_1967 ck12 (by decide +kernel) rfl rfl (Nat.le_of_ble_eq_true rfl) dL_law_1149 h (fun v2 M2 h2 => ?_)
  obtain ⟨e9, hM2⟩ := h2
  subst e9
  exact lr_icmp_eq C 1152 1155 1475 rfl (by decide) dL_law_1152 (fun _ => kk _ hM2) (fun g => absurd rfl g)
theorem lc_39 {p : Program} {l : Launch} {e : Env} {R : Room} {s : State} {m : MethodId} {args : Array Value} {below : List Frame} {meth : Method} {c : Code} {dC : Nat → ClassId} {dI : Nat → Nat → Nat} {cy : Nat → ClassId} {φ0 : Int → Nat} {base : Nat} {Q : State → Prop} {b L : Nat} {xs : Nat → Int32} (C : q_C mL p s m args meth c dC dI cy φ0 base) (S : l_S b L xs s φ0 base) (hR : 101 ≤ R.frames ∧ 4040 ≤ R.locals ∧ q_N ≤ R.cells ∧ q_sz q_N ≤ R.slots) {i : Int} (h0 : 0 ≤ i) (h1 : i + 6 ≤ (L : Int)) {M : q_Mem} (hM : z_IV M) (kk : ∀ M' : q_Mem, z_IV M' → l_U p l e R s m args below meth c dC dI cy φ0 base Q q_N M' 1475 [some (qR (-300)), some (qR 1), some (qR 178), some (qI i)] []) : l_U p l e R s m args below meth c dC dI cy φ0 base Q q_N M 1157 [some (qR (-300)), some (qR 1), some (qR 178), some (qI i)] [] := by
  refine lr_aload_n C 1157 1158 rfl (x := 1) rfl dL_law_1157 ?_
  refine lr_arg C S 1158 (k := 1) (by omega) h0 h1 dL_law_1158 dL_law_1159 dL_law_1160 dL_law_1161 dL_law_1162 ?_
  refine lr_vI C hR 1163 1166 rfl (av := [qI (l_x xs (i + 1))]) ca_X11_ask wm_1220 wm_1221 wm_1219 ck11 (by decide +kernel) rfl rfl (Nat.le_of_ble_eq_true rfl) dL_law_1163 (tt_ask (d := 101) (K := fun v v2 M2 => v = v2 ∧ z_IV M2) (by omega) hM (fun v M1 h => ⟨rfl, h⟩)) (fun v M1 h => ?_)
  refine lr_aload_n C 1166 1167 rfl (x := 178) rfl dL_law_1166 ?_
  refine lr_arg C S 1167 (k := 1) (by omega) h0 h1 dL_law_1167 dL_law_1168 dL_law_1169 dL_law_1170 dL_law_1171 ?_
  refine lr_vI C hR 1172 1175 rfl (av := [qI (l_x xs (i + 1))]) ca_X12_ask wm_1981 wm_1982 wm_1980 ck12 (by decide +kernel) rfl rfl (Nat.le_of_ble_eq_true rfl) dL_law_1172 h (fun v2 M2 h2 => ?_)
  obtain ⟨e9, hM2⟩ := h2
  subst e9
  exact lr_icmp_eq C 1175 1178 1475 rfl (by decide) dL_law_1175 (fun _ => kk _ hM2) (fun g => absurd rfl g)
theorem lc_40 {p : Program} {l : Launch} {e : Env} {R : Room} {s : State} {m : MethodId} {args : Array Value} {below : List Frame} {meth : Method} {c : Code} {dC : Nat → ClassId} {dI : Nat → Nat → Nat} {cy : Nat → ClassId} {φ0 : Int → Nat} {base : Nat} {Q : State → Prop} {b L : Nat} {xs : Nat → Int32} (C : q_C mL p s m args meth c dC dI cy φ0 base) (S : l_S b L xs s φ0 base) (hR : 101 ≤ R.frames ∧ 4040 ≤ R.locals ∧ q_N ≤ R.cells ∧ q_sz q_N ≤ R.slots) {i : Int} (h0 : 0 ≤ i) (h1 : i + 6 ≤ (L : Int)) {M : q_Mem} (hM : z_IV M) (kk : ∀ M' : q_Mem, z_IV M' → l_U p l e R s m args below meth c dC dI cy φ0 base Q q_N M' 1475 [some (qR (-300)), some (qR 1), some (qR 178), some (qI i)] []) : l_U p l e R s m args below meth c dC dI cy φ0 base Q q_N M 1180 [some (qR (-300)), some (qR 1), some (qR 178), some (qI i)] [] := by
  refine lr_aload_n C 1180 1181 rfl (x := 1) rfl dL_law_1180 ?_
  refine lr_arg C S 1181 (k := 1) (by omega) h0 h1 dL_law_1181 dL_law_1182 dL_law_1183 dL_law_1184 dL_law_1185 ?_
  refine lr_arg C S 1186 (k := 2) (by omega) h0 h1 dL_law_1186 dL_law_1187 dL_law_1188 dL_law_1189 dL_law_1190 ?_
  refine lr_arg C S 1191 (k := 3) (by omega) h0 h1 dL_law_1191 dL_law_1192 dL_law_1193 dL_law_1194 dL_law_1195 ?_
  refine lr_vI C hR 1196 1199 rfl (av := [qI (l_x xs (i + 1)), qI (l_x xs (i + 2)), qI (l_x xs (i + 3))]) ca_X11_chance wm_1237 wm_1238 wm_1236 ck11 (by decide +kernel) rfl rfl (Nat.le_of_ble_eq_true rfl) dL_law_1196 (tt_chance (d := 101) (K := fun v v2 M2 => v = v2 ∧ z_IV M2) (by omega) hM (fun v M1 h => ⟨rfl, h⟩)) (fun v M1 h => ?_)
  refine lr_aload_n C 1199 1200 rfl (x := 178) rfl dL_law_1199 ?_
  refine lr_arg C S 1200 (k := 1) (by omega) h0 h1 dL_law_1200 dL_law_1201 dL_law_1202 dL_law_1203 dL_law_1204 ?_
  refine lr_arg C S 1205 (k := 2) (by omega) h0 h1 dL_law_1205 dL_law_1206 dL_law_1207 dL_law_1208 dL_law_1209 ?_
  refine lr_arg C S 1210 (k := 3) (by omega) h0 h1 dL_law_1210 dL_law_1211 dL_law_1212 dL_law_1213 dL_law_1214 ?_
  refine lr_vI C hR 1215 1218 rfl (av := [qI (l_x xs (i + 1)), qI (l_x xs (i + 2)), qI (l_x xs (i + 3))]) ca_X12_chance wm_1989 wm_1990 wm_1988 ck12 (by decide +kernel) rfl rfl (Nat.le_of_ble_eq_true rfl) dL_law_1215 h (fun v2 M2 h2 => ?_)
  obtain ⟨e9, hM2⟩ := h2
  subst e9
  exact lr_icmp_eq C 1218 1221 1475 rfl (by decide) dL_law_1218 (fun _ => kk _ hM2) (fun g => absurd rfl g)
theorem lc_41 {p : Program} {l : Launch} {e : Env} {R : Room} {s : State} {m : MethodId} {args : Array Value} {below : List Frame} {meth : Method} {c : Code} {dC : Nat → ClassId} {dI : Nat → Nat → Nat} {cy : Nat → ClassId} {φ0 : Int → Nat} {base : Nat} {Q : State → Prop} {b L : Nat} {xs : Nat → Int32} (C : q_C mL p s m args meth c dC dI cy φ0 base) (S : l_S b L xs s φ0 base) (hR : 101 ≤ R.frames ∧ 4040 ≤ R.locals ∧ q_N ≤ R.cells ∧ q_sz q_N ≤ R.slots) {i : Int} (h0 : 0 ≤ i) (h1 : i + 6 ≤ (L : Int)) {M : q_Mem} (hM : z_IV M) (kk : ∀ M' : q_Mem, z_IV M' → l_U p l e R s m args below meth c dC dI cy φ0 base Q q_N M' 1475 [some (qR (-300)), some (qR 1), some (qR 178), some (qI i)] []) : l_U p l e R s m args below meth c dC dI cy φ0 base Q q_N M 1223 [some (qR (-300)), some (qR 1), some (qR 178), some (qI i)] [] := by
  refine lr_aload_n C 1223 1224 rfl (x := 1) rfl dL_law_1223 ?_
  refine lr_arg C S 1224 (k := 1) (by omega) h0 h1 dL_law_1224 dL_law_1225 dL_law_1226 dL_law_1227 dL_law_1228 ?_
  refine lr_arg C S 1229 (k := 2) (by omega) h0 h1 dL_law_1229 dL_law_1230 dL_law_1231 dL_law_1232 dL_law_1233 ?_
  refine lr_vI C hR 1234 1237 rfl (av := [qI (l_x xs (i + 1)), qI (l_x xs (i + 2))]) ca_X11_mean wm_1260 wm_1261 wm_1259 ck11 (by decide +kernel) rfl rfl (Nat.le_of_ble_eq_true rfl) dL_law_1234 (tt_mean (d := 101) (K := fun v v2 M2 => v = v2 ∧ z_IV M2) (by omega) hM (fun v M1 h => ⟨rfl, h⟩)) (fun v M1 h => ?_)
  refine lr_aload_n C 1237 1238 rfl (x := 178) rfl dL_law_1237 ?_
  refine lr_arg C S 1238 (k := 1) (by omega) h0 h1 dL_law_1238 dL_law_1239 dL_law_1240 dL_law_1241 dL_law_1242 ?_
  refine lr_arg C S 1243 (k := 2) (by omega) h0 h1 dL_law_1243 dL_law_1244 dL_law_1245 dL_law_1246 dL_law_1247 ?_
  refine lr_vI C hR 1248 1251 rfl (av := [qI (l_x xs (i + 1)), qI (l_x xs (i + 2))]) ca_X12_mean wm_2009 wm_2010 wm_2008 ck12 (by decide +kernel) rfl rfl (Nat.le_of_ble_eq_true rfl) dL_law_1248 h (fun v2 M2 h2 => ?_)
  obtain ⟨e9, hM2⟩ := h2
  subst e9
  exact lr_icmp_eq C 1251 1254 1475 rfl (by decide) dL_law_1251 (fun _ => kk _ hM2) (fun g => absurd rfl g)
theorem lc_42 {p : Program} {l : Launch} {e : Env} {R : Room} {s : State} {m : MethodId} {args : Array Value} {below : List Frame} {meth : Method} {c : Code} {dC : Nat → ClassId} {dI : Nat → Nat → Nat} {cy : Nat → ClassId} {φ0 : Int → Nat} {base : Nat} {Q : State → Prop} {b L : Nat} {xs : Nat → Int32} (C : q_C mL p s m args meth c dC dI cy φ0 base) (S : l_S b L xs s φ0 base) (hR : 101 ≤ R.frames ∧ 4040 ≤ R.locals ∧ q_N ≤ R.cells ∧ q_sz q_N ≤ R.slots) {i : Int} (h0 : 0 ≤ i) (h1 : i + 6 ≤ (L : Int)) {M : q_Mem} (hM : z_IV M) (kk : ∀ M' : q_Mem, z_IV M' → l_U p l e R s m args below meth c dC dI cy φ0 base Q q_N M' 1475 [some (qR (-300)), some (qR 1), some (qR 178), some (qI i)] []) : l_U p l e R s m args below meth c dC dI cy φ0 base Q q_N M 1256 [some (qR (-300)), some (qR 1), some (qR 178), some (qI i)] [] := by
  refine lr_aload_n C 1256 1257 rfl (x := 1) rfl dL_law_1256 ?_
  refine lr_arg C S 1257 (k := 1) (by omega) h0 h1 dL_law_1257 dL_law_1258 dL_law_1259 dL_law_1260 dL_law_1261 ?_
  refine lr_arg C S 1262 (k := 2) (by omega) h0 h1 dL_law_1262 dL_law_1263 dL_law_1264 dL_law_1265 dL_law_1266 ?_
  refine lr_arg C S 1267 (k := 3) (by omega) h0 h1 dL_law_1267 dL_law_1268 dL_law_1269 dL_law_1270 dL_law_1271 ?_
  refine lr_vI C hR 1272 1275 rfl (av := [qI (l_x xs (i + 1)), qI (l_x xs (i + 2)), qI (l_x xs (i + 3))]) ca_X11_numbers wm_1269 wm_1270 wm_1268 ck11 (by decide +kernel) rfl rfl (Nat.le_of_ble_eq_true rfl) dL_law_1272 (tt_numbers (d := 101) (K := fun v v2 M2 => v = v2 ∧ z_IV M2) (by omega) hM (fun v M1 h => ⟨rfl, h⟩)) (fun v M1 h => ?_)
  refine lr_aload_n C 1275 1276 rfl (x := 178) rfl dL_law_1275 ?_
  refine lr_arg C S 1276 (k := 1) (by omega) h0 h1 dL_law_1276 dL_law_1277 dL_law_1278 dL_law_1279 dL_law_1280 ?_
  refine lr_arg C S 1281 (k := 2) (by omega) h0 h1 dL_law_1281 dL_law_1282 dL_law_1283 dL_law_1284 dL_law_1285 ?_
  refine lr_arg C S 1286 (k := 3) (by omega) h0 h1 dL_law_1286 dL_law_1287 dL_law_1288 dL_law_1289 dL_law_1290 ?_
  refine lr_vI C hR 1291 1294 rfl (av := [qI (l_x xs (i + 1)), qI (l_x xs (i + 2)), qI (l_x xs (i + 3))]) ca_X12_numbers wm_2014 wm_2015 wm_2013 ck12 (by decide +kernel) rfl rfl (Nat.le_of_ble_eq_true rfl) dL_law_1291 h (fun v2 M2 h2 => ?_)
  obtain ⟨e9, hM2⟩ := h2
  subst e9
  exact lr_icmp_eq C 1294 1297 1475 rfl (by decide) dL_law_1294 (fun _ => kk _ hM2) (fun g => absurd rfl g)
theorem lc_43 {p : Program} {l : Launch} {e : Env} {R : Room} {s : State} {m : MethodId} {args : Array Value} {below : List Frame} {meth : Method} {c : Code} {dC : Nat → ClassId} {dI : Nat → Nat → Nat} {cy : Nat → ClassId} {φ0 : Int → Nat} {base : Nat} {Q : State → Prop} {b L : Nat} {xs : Nat → Int32} (C : q_C mL p s m args meth c dC dI cy φ0 base) (S : l_S b L xs s φ0 base) (hR : 101 ≤ R.frames ∧ 4040 ≤ R.locals ∧ q_N ≤ R.cells ∧ q_sz q_N ≤ R.slots) {i : Int} (h0 : 0 ≤ i) (h1 : i + 6 ≤ (L : Int)) {M : q_Mem} (hM : z_IV M) (kk : ∀ M' : q_Mem, z_IV M' → l_U p l e R s m args below meth c dC dI cy φ0 base Q q_N M' 1475 [some (qR (-300)), some (qR 1), some (qR 178), some (qI i)] []) : l_U p l e R s m args below meth c dC dI cy φ0 base Q q_N M 1299 [some (qR (-300)), some (qR 1), some (qR 178), some (qI i)] [] := by
  refine lr_aload_n C 1299 1300 rfl (x := 1) rfl dL_law_1299 ?_
  refine lr_arg C S 1300 (k := 1) (by omega) h0 h1 dL_law_1300 dL_law_1301 dL_law_1302 dL_law_1303 dL_law_1304 ?_
  refine lr_arg C S 1305 (k := 2) (by omega) h0 h1 dL_law_1305 dL_law_1306 dL_law_1307 dL_law_1308 dL_law_1309 ?_
  refine lr_arg C S 1310 (k := 3) (by omega) h0 h1 dL_law_1310 dL_law_1311 dL_law_1312 dL_law_1313 dL_law_1314 ?_
  refine lr_i2l C 1315 1316 rfl dL_law_1315 ?_
  refine lr_bipush C 1316 1318 rfl (q_l32 _ rfl) (by decide) dL_law_1316 ?_
  refine lr_lshl C 1318 1319 rfl dL_law_1318 ?_
  refine lr_arg C S 1319 (k := 4) (by omega) h0 h1 dL_law_1319 dL_law_1320 dL_law_1321 dL_law_1322 dL_law_1323 ?_
  refine lr_i2l C 1324 1325 rfl dL_law_1324 ?_
  refine lr_ldc2 C 1325 1328 rfl (v := 4294967295) (q_l64 _ rfl) wm_2045 dL_law_1325 ?_
  refine lr_land C 1328 1329 rfl dL_law_1328 ?_
  refine lr_lor C 1329 1330 rfl dL_law_1329 ?_
  refine lr_vL C hR 1330 1333 rfl (av := [qI (l_x xs (i + 1)), qI (l_x xs (i + 2)), qL (q_lor (q_lshl (l_x xs (i + 3)) 32) (q_land (l_x xs (i + 4)) 4294967295))]) ca_X11_write wm_1280 wm_1281 wm_1279 ck11 (by decide +kernel) rfl rfl (Nat.le_of_ble_eq_true rfl) dL_law_1330 (tt_write (d := 101) (K := fun v v2 M2 => v = v2 ∧ z_IV M2) (by omega) hM (fun v M1 h => ⟨rfl, h⟩)) (fun v M1 h => ?_)
  refine lr_aload_n C 1333 1334 rfl (x := 178) rfl dL_law_1333 ?_
  refine lr_arg C S 1334 (k := 1) (by omega) h0 h1 dL_law_1334 dL_law_1335 dL_law_1336 dL_law_1337 dL_law_1338 ?_
  refine lr_arg C S 1339 (k := 2) (by omega) h0 h1 dL_law_1339 dL_law_1340 dL_law_1341 dL_law_1342 dL_law_1343 ?_
  refine lr_arg C S 1344 (k := 3) (by omega) h0 h1 dL_law_1344 dL_law_1345 dL_law_1346 dL_law_1347 dL_law_1348 ?_
  refine lr_i2l C 1349 1350 rfl dL_law_1349 ?_
  refine lr_bipush C 1350 1352 rfl (q_l32 _ rfl) (by decide) dL_law_1350 ?_
  refine lr_lshl C 1352 1353 rfl dL_law_1352 ?_
  refine lr_arg C S 1353 (k := 4) (by omega) h0 h1 dL_law_1353 dL_law_1354 dL_law_1355 dL_law_1356 dL_law_1357 ?_
  refine lr_i2l C 1358 1359 rfl dL_law_1358 ?_
  refine lr_ldc2 C 1359 1362 rfl (v := 4294967295) (q_l64 _ rfl) wm_2045 dL_law_1359 ?_
  refine lr_land C 1362 1363 rfl dL_law_1362 ?_
  refine lr_lor C 1363 1364 rfl dL_law_1363 ?_
  refine lr_vL C hR 1364 1367 rfl (av := [qI (l_x xs (i + 1)), qI (l_x xs (i + 2)), qL (q_lor (q_lshl (l_x xs (i + 3)) 32) (q_land (l_x xs (i + 4)) 4294967295))]) ca_X12_write wm_2018 wm_2019 wm_2017 ck12 (by decide +kernel) rfl rfl (Nat.le_of_ble_eq_true rfl) dL_law_1364 h (fun v2 M2 h2 => ?_)
  obtain ⟨e9, hM2⟩ := h2
  subst e9
  refine lr_lcmp C 1367 1368 rfl dL_law_1367 ?_
  exact lr_if_eq C 1368 1371 1475 rfl (by decide) dL_law_1368 (fun _ => kk _ hM2) (fun g => absurd (by unfold q_lcmp; rw [if_neg (Int.lt_irrefl _), if_pos rfl]) g)
theorem lc_44 {p : Program} {l : Launch} {e : Env} {R : Room} {s : State} {m : MethodId} {args : Array Value} {below : List Frame} {meth : Method} {c : Code} {dC : Nat → ClassId} {dI : Nat → Nat → Nat} {cy : Nat → ClassId} {φ0 : Int → Nat} {base : Nat} {Q : State → Prop} {b L : Nat} {xs : Nat → Int32} (C : q_C mL p s m args meth c dC dI cy φ0 base) (S : l_S b L xs s φ0 base) (hR : 101 ≤ R.frames ∧ 4040 ≤ R.locals ∧ q_N ≤ R.cells ∧ q_sz q_N ≤ R.slots) {i : Int} (h0 : 0 ≤ i) (h1 : i + 6 ≤ (L : Int)) {M : q_Mem} (hM : z_IV M) (kk : ∀ M' : q_Mem, z_IV M' → l_U p l e R s m args below meth c dC dI cy φ0 base Q q_N M' 1475 [some (qR (-300)), some (qR 1), some (qR 178), some (qI i)] []) : l_U p l e R s m args below meth c dC dI cy φ0 base Q q_N M 1373 [some (qR (-300)), some (qR 1), some (qR 178), some (qI i)] [] := by
  refine lr_aload_n C 1373 1374 rfl (x := 1) rfl dL_law_1373 ?_
  refine lr_arg C S 1374 (k := 1) (by omega) h0 h1 dL_law_1374 dL_law_1375 dL_law_1376 dL_law_1377 dL_law_1378 ?_
  refine lr_arg C S 1379 (k := 2) (by omega) h0 h1 dL_law_1379 dL_law_1380 dL_law_1381 dL_law_1382 dL_law_1383 ?_
  refine lr_vI C hR 1384 1387 rfl (av := [qI (l_x xs (i + 1)), qI (l_x xs (i + 2))]) ca_X11_lists wm_1291 wm_1292 wm_1290 ck11 (by decide +kernel) rfl rfl (Nat.le_of_ble_eq_true rfl) dL_law_1384 (tt_lists (d := 101) (K := fun v v2 M2 => v = v2 ∧ z_IV M2) (by omega) hM (fun v M1 h => ⟨rfl, h⟩)) (fun v M1 h => ?_)
  refine lr_aload_n C 1387 1388 rfl (x := 178) rfl dL_law_1387 ?_
  refine lr_arg C S 1388 (k := 1) (by omega) h0 h1 dL_law_1388 dL_law_1389 dL_law_1390 dL_law_1391 dL_law_1392 ?_
  refine lr_arg C S 1393 (k := 2) (by omega) h0 h1 dL_law_1393 dL_law_1394 dL_law_1395 dL_law_1396 dL_law_1397 ?_
  refine lr_vI C hR 1398 1401 rfl (av := [qI (l_x xs (i + 1)), qI (l_x xs (i + 2))]) ca_X12_lists wm_2026 wm_2027 wm_2025 ck12 (by decide +kernel) rfl rfl (Nat.le_of_ble_eq_true rfl) dL_law_1398 h (fun v2 M2 h2 => ?_)
  obtain ⟨e9, hM2⟩ := h2
  subst e9
  exact lr_icmp_eq C 1401 1404 1475 rfl (by decide) dL_law_1401 (fun _ => kk _ hM2) (fun g => absurd rfl g)
theorem lc_45 {p : Program} {l : Launch} {e : Env} {R : Room} {s : State} {m : MethodId} {args : Array Value} {below : List Frame} {meth : Method} {c : Code} {dC : Nat → ClassId} {dI : Nat → Nat → Nat} {cy : Nat → ClassId} {φ0 : Int → Nat} {base : Nat} {Q : State → Prop} {b L : Nat} {xs : Nat → Int32} (C : q_C mL p s m args meth c dC dI cy φ0 base) (S : l_S b L xs s φ0 base) (hR : 101 ≤ R.frames ∧ 4040 ≤ R.locals ∧ q_N ≤ R.cells ∧ q_sz q_N ≤ R.slots) {i : Int} (h0 : 0 ≤ i) (h1 : i + 6 ≤ (L : Int)) {M : q_Mem} (hM : z_IV M) (kk : ∀ M' : q_Mem, z_IV M' → l_U p l e R s m args below meth c dC dI cy φ0 base Q q_N M' 1475 [some (qR (-300)), some (qR 1), some (qR 178), some (qI i)] []) : l_U p l e R s m args below meth c dC dI cy φ0 base Q q_N M 1406 [some (qR (-300)), some (qR 1), some (qR 178), some (qI i)] [] := by
  refine lr_aload_n C 1406 1407 rfl (x := 1) rfl dL_law_1406 ?_
  refine lr_arg C S 1407 (k := 1) (by omega) h0 h1 dL_law_1407 dL_law_1408 dL_law_1409 dL_law_1410 dL_law_1411 ?_
  refine lr_vI C hR 1412 1415 rfl (av := [qI (l_x xs (i + 1))]) ca_X11_image wm_1296 wm_1297 wm_1295 ck11 (by decide +kernel) rfl rfl (Nat.le_of_ble_eq_true rfl) dL_law_1412 (tt_image (d := 101) (K := fun v v2 M2 => v = v2 ∧ z_IV M2) (by omega) hM (fun v M1 h => ⟨rfl, h⟩)) (fun v M1 h => ?_)
  refine lr_aload_n C 1415 1416 rfl (x := 178) rfl dL_law_1415 ?_
  refine lr_arg C S 1416 (k := 1) (by omega) h0 h1 dL_law_1416 dL_law_1417 dL_law_1418 dL_law_1419 dL_law_1420 ?_
  refine lr_vI C hR 1421 1424 rfl (av := [qI (l_x xs (i + 1))]) ca_X12_image wm_2030 wm_2031 wm_2029 ck12 (by decide +kernel) rfl rfl (Nat.le_of_ble_eq_true rfl) dL_law_1421 h (fun v2 M2 h2 => ?_)
  obtain ⟨e9, hM2⟩ := h2
  subst e9
  exact lr_icmp_eq C 1424 1427 1475 rfl (by decide) dL_law_1424 (fun _ => kk _ hM2) (fun g => absurd rfl g)
theorem lc_46 {p : Program} {l : Launch} {e : Env} {R : Room} {s : State} {m : MethodId} {args : Array Value} {below : List Frame} {meth : Method} {c : Code} {dC : Nat → ClassId} {dI : Nat → Nat → Nat} {cy : Nat → ClassId} {φ0 : Int → Nat} {base : Nat} {Q : State → Prop} {b L : Nat} {xs : Nat → Int32} (C : q_C mL p s m args meth c dC dI cy φ0 base) (S : l_S b L xs s φ0 base) (hR : 101 ≤ R.frames ∧ 4040 ≤ R.locals ∧ q_N ≤ R.cells ∧ q_sz q_N ≤ R.slots) {i : Int} (h0 : 0 ≤ i) (h1 : i + 6 ≤ (L : Int)) {M : q_Mem} (hM : z_IV M) (kk : ∀ M' : q_Mem, z_IV M' → l_U p l e R s m args below meth c dC dI cy φ0 base Q q_N M' 1475 [some (qR (-300)), some (qR 1), some (qR 178), some (qI i)] []) : l_U p l e R s m args below meth c dC dI cy φ0 base Q q_N M 1429 [some (qR (-300)), some (qR 1), some (qR 178), some (qI i)] [] := by
  refine lr_aload_n C 1429 1430 rfl (x := 1) rfl dL_law_1429 ?_
  refine lr_arg C S 1430 (k := 1) (by omega) h0 h1 dL_law_1430 dL_law_1431 dL_law_1432 dL_law_1433 dL_law_1434 ?_
  refine lr_vI C hR 1435 1438 rfl (av := [qI (l_x xs (i + 1))]) ca_X11_restore wm_1309 wm_1310 wm_1308 ck11 (by decide +kernel) rfl rfl (Nat.le_of_ble_eq_true rfl) dL_law_1435 (tt_restore (d := 101) (K := fun v v2 M2 => v = v2 ∧ z_IV M2) (by omega) hM (fun v M1 h => ⟨rfl, h⟩)) (fun v M1 h => ?_)
  refine lr_aload_n C 1438 1439 rfl (x := 178) rfl dL_law_1438 ?_
  refine lr_arg C S 1439 (k := 1) (by omega) h0 h1 dL_law_1439 dL_law_1440 dL_law_1441 dL_law_1442 dL_law_1443 ?_
  refine lr_vI C hR 1444 1447 rfl (av := [qI (l_x xs (i + 1))]) ca_X12_restore wm_2034 wm_2035 wm_2033 ck12 (by decide +kernel) rfl rfl (Nat.le_of_ble_eq_true rfl) dL_law_1444 h (fun v2 M2 h2 => ?_)
  obtain ⟨e9, hM2⟩ := h2
  subst e9
  exact lr_icmp_eq C 1447 1450 1475 rfl (by decide) dL_law_1447 (fun _ => kk _ hM2) (fun g => absurd rfl g)
theorem lc_47 {p : Program} {l : Launch} {e : Env} {R : Room} {s : State} {m : MethodId} {args : Array Value} {below : List Frame} {meth : Method} {c : Code} {dC : Nat → ClassId} {dI : Nat → Nat → Nat} {cy : Nat → ClassId} {φ0 : Int → Nat} {base : Nat} {Q : State → Prop} {b L : Nat} {xs : Nat → Int32} (C : q_C mL p s m args meth c dC dI cy φ0 base) (S : l_S b L xs s φ0 base) (hR : 101 ≤ R.frames ∧ 4040 ≤ R.locals ∧ q_N ≤ R.cells ∧ q_sz q_N ≤ R.slots) {i : Int} (h0 : 0 ≤ i) (h1 : i + 6 ≤ (L : Int)) {M : q_Mem} (hM : z_IV M) (kk : ∀ M' : q_Mem, z_IV M' → l_U p l e R s m args below meth c dC dI cy φ0 base Q q_N M' 1475 [some (qR (-300)), some (qR 1), some (qR 178), some (qI i)] []) : l_U p l e R s m args below meth c dC dI cy φ0 base Q q_N M 1452 [some (qR (-300)), some (qR 1), some (qR 178), some (qI i)] [] := by
  refine lr_aload_n C 1452 1453 rfl (x := 1) rfl dL_law_1452 ?_
  refine lr_arg C S 1453 (k := 1) (by omega) h0 h1 dL_law_1453 dL_law_1454 dL_law_1455 dL_law_1456 dL_law_1457 ?_
  refine lr_vI C hR 1458 1461 rfl (av := [qI (l_x xs (i + 1))]) ca_X11_count wm_1313 wm_1314 wm_1312 ck11 (by decide +kernel) rfl rfl (Nat.le_of_ble_eq_true rfl) dL_law_1458 (tt_count (d := 101) (K := fun v v2 M2 => v = v2 ∧ z_IV M2) (by omega) hM (fun v M1 h => ⟨rfl, h⟩)) (fun v M1 h => ?_)
  refine lr_aload_n C 1461 1462 rfl (x := 178) rfl dL_law_1461 ?_
  refine lr_arg C S 1462 (k := 1) (by omega) h0 h1 dL_law_1462 dL_law_1463 dL_law_1464 dL_law_1465 dL_law_1466 ?_
  refine lr_vI C hR 1467 1470 rfl (av := [qI (l_x xs (i + 1))]) ca_X12_count wm_2038 wm_2039 wm_2037 ck12 (by decide +kernel) rfl rfl (Nat.le_of_ble_eq_true rfl) dL_law_1467 h (fun v2 M2 h2 => ?_)
  obtain ⟨e9, hM2⟩ := h2
  subst e9
  exact lr_icmp_eq C 1470 1473 1475 rfl (by decide) dL_law_1470 (fun _ => kk _ hM2) (fun g => absurd rfl g)
theorem l_tx (x : Int) (h : ¬ (x < 0 ∨ 47 < x)) (h0 : ¬ x = 0) (h1 : ¬ x = 1) (h2 : ¬ x = 2) (h3 : ¬ x = 3) (h4 : ¬ x = 4) (h5 : ¬ x = 5) (h6 : ¬ x = 6) (h7 : ¬ x = 7) (h8 : ¬ x = 8) (h9 : ¬ x = 9) (h10 : ¬ x = 10) (h11 : ¬ x = 11) (h12 : ¬ x = 12) (h13 : ¬ x = 13) (h14 : ¬ x = 14) (h15 : ¬ x = 15) (h16 : ¬ x = 16) (h17 : ¬ x = 17) (h18 : ¬ x = 18) (h19 : ¬ x = 19) (h20 : ¬ x = 20) (h21 : ¬ x = 21) (h22 : ¬ x = 22) (h23 : ¬ x = 23) (h24 : ¬ x = 24) (h25 : ¬ x = 25) (h26 : ¬ x = 26) (h27 : ¬ x = 27) (h28 : ¬ x = 28) (h29 : ¬ x = 29) (h30 : ¬ x = 30) (h31 : ¬ x = 31) (h32 : ¬ x = 32) (h33 : ¬ x = 33) (h34 : ¬ x = 34) (h35 : ¬ x = 35) (h36 : ¬ x = 36) (h37 : ¬ x = 37) (h38 : ¬ x = 38) (h39 : ¬ x = 39) (h40 : ¬ x = 40) (h41 : ¬ x = 41) (h42 : ¬ x = 42) (h43 : ¬ x = 43) (h44 : ¬ x = 44) (h45 : ¬ x = 45) (h46 : ¬ x = 46) (h47 : ¬ x = 47) : False := by omega
theorem l_turn {p : Program} {l : Launch} {e : Env} {R : Room} {s : State} {m : MethodId} {args : Array Value} {below : List Frame} {meth : Method} {c : Code} {dC : Nat → ClassId} {dI : Nat → Nat → Nat} {cy : Nat → ClassId} {φ0 : Int → Nat} {base : Nat} {Q : State → Prop} {b L : Nat} {xs : Nat → Int32} (C : q_C mL p s m args meth c dC dI cy φ0 base) (S : l_S b L xs s φ0 base) (hR : 101 ≤ R.frames ∧ 4040 ≤ R.locals ∧ q_N ≤ R.cells ∧ q_sz q_N ≤ R.slots) {i : Int} (h0 : 0 ≤ i) (h1 : i + 6 ≤ (L : Int)) {M : q_Mem} (hM : z_IV M) (kk : ∀ M' : q_Mem, z_IV M' → l_U p l e R s m args below meth c dC dI cy φ0 base Q q_N M' 1475 [some (qR (-300)), some (qR 1), some (qR 178), some (qI i)] []) (a : Int) : l_U p l e R s m args below meth c dC dI cy φ0 base Q q_N M 33 [some (qR (-300)), some (qR 1), some (qR 178), some (qI i)] [qI a] := by
  by_cases c0 : a < 0 ∨ 47 < a
  · exact lr_tabOut C 33 1475 c0 (by decide) dL_law_33 (kk M hM)
  by_cases e0 : a = 0
  · exact lr_tabIn C 33 240 0 (e0.trans (by decide)) (by decide) rfl (by decide) dL_law_33 (lc_0 C S hR h0 h1 hM kk)
  by_cases e1 : a = 1
  · exact lr_tabIn C 33 303 1 (e1.trans (by decide)) (by decide) rfl (by decide) dL_law_33 (lc_1 C S hR h0 h1 hM kk)
  by_cases e2 : a = 2
  · exact lr_tabIn C 33 326 2 (e2.trans (by decide)) (by decide) rfl (by decide) dL_law_33 (lc_2 C S hR h0 h1 hM kk)
  by_cases e3 : a = 3
  · exact lr_tabIn C 33 349 3 (e3.trans (by decide)) (by decide) rfl (by decide) dL_law_33 (lc_3 C S hR h0 h1 hM kk)
  by_cases e4 : a = 4
  · exact lr_tabIn C 33 382 4 (e4.trans (by decide)) (by decide) rfl (by decide) dL_law_33 (lc_4 C S hR h0 h1 hM kk)
  by_cases e5 : a = 5
  · exact lr_tabIn C 33 405 5 (e5.trans (by decide)) (by decide) rfl (by decide) dL_law_33 (lc_5 C S hR h0 h1 hM kk)
  by_cases e6 : a = 6
  · exact lr_tabIn C 33 438 6 (e6.trans (by decide)) (by decide) rfl (by decide) dL_law_33 (lc_6 C S hR h0 h1 hM kk)
  by_cases e7 : a = 7
  · exact lr_tabIn C 33 461 7 (e7.trans (by decide)) (by decide) rfl (by decide) dL_law_33 (lc_7 C S hR h0 h1 hM kk)
  by_cases e8 : a = 8
  · exact lr_tabIn C 33 494 8 (e8.trans (by decide)) (by decide) rfl (by decide) dL_law_33 (lc_8 C S hR h0 h1 hM kk)
  by_cases e9 : a = 9
  · exact lr_tabIn C 33 517 9 (e9.trans (by decide)) (by decide) rfl (by decide) dL_law_33 (lc_9 C S hR h0 h1 hM kk)
  by_cases e10 : a = 10
  · exact lr_tabIn C 33 550 10 (e10.trans (by decide)) (by decide) rfl (by decide) dL_law_33 (lc_10 C S hR h0 h1 hM kk)
  by_cases e11 : a = 11
  · exact lr_tabIn C 33 573 11 (e11.trans (by decide)) (by decide) rfl (by decide) dL_law_33 (lc_11 C S hR h0 h1 hM kk)
  by_cases e12 : a = 12
  · exact lr_tabIn C 33 586 12 (e12.trans (by decide)) (by decide) rfl (by decide) dL_law_33 (lc_12 C S hR h0 h1 hM kk)
  by_cases e13 : a = 13
  · exact lr_tabIn C 33 599 13 (e13.trans (by decide)) (by decide) rfl (by decide) dL_law_33 (lc_13 C S hR h0 h1 hM kk)
  by_cases e14 : a = 14
  · exact lr_tabIn C 33 622 14 (e14.trans (by decide)) (by decide) rfl (by decide) dL_law_33 (lc_14 C S hR h0 h1 hM kk)
  by_cases e15 : a = 15
  · exact lr_tabIn C 33 655 15 (e15.trans (by decide)) (by decide) rfl (by decide) dL_law_33 (lc_15 C S hR h0 h1 hM kk)
  by_cases e16 : a = 16
  · exact lr_tabIn C 33 678 16 (e16.trans (by decide)) (by decide) rfl (by decide) dL_law_33 (lc_16 C S hR h0 h1 hM kk)
  by_cases e17 : a = 17
  · exact lr_tabIn C 33 711 17 (e17.trans (by decide)) (by decide) rfl (by decide) dL_law_33 (lc_17 C S hR h0 h1 hM kk)
  by_cases e18 : a = 18
  · exact lr_tabIn C 33 724 18 (e18.trans (by decide)) (by decide) rfl (by decide) dL_law_33 (lc_18 C S hR h0 h1 hM kk)
  by_cases e19 : a = 19
  · exact lr_tabIn C 33 757 19 (e19.trans (by decide)) (by decide) rfl (by decide) dL_law_33 (lc_19 C S hR h0 h1 hM kk)
  by_cases e20 : a = 20
  · exact lr_tabIn C 33 790 20 (e20.trans (by decide)) (by decide) rfl (by decide) dL_law_33 (lc_20 C S hR h0 h1 hM kk)
  by_cases e21 : a = 21
  · exact lr_tabIn C 33 803 21 (e21.trans (by decide)) (by decide) rfl (by decide) dL_law_33 (lc_21 C S hR h0 h1 hM kk)
  by_cases e22 : a = 22
  · exact lr_tabIn C 33 816 22 (e22.trans (by decide)) (by decide) rfl (by decide) dL_law_33 (lc_22 C S hR h0 h1 hM kk)
  by_cases e23 : a = 23
  · exact lr_tabIn C 33 829 23 (e23.trans (by decide)) (by decide) rfl (by decide) dL_law_33 (lc_23 C S hR h0 h1 hM kk)
  by_cases e24 : a = 24
  · exact lr_tabIn C 33 862 24 (e24.trans (by decide)) (by decide) rfl (by decide) dL_law_33 (lc_24 C S hR h0 h1 hM kk)
  by_cases e25 : a = 25
  · exact lr_tabIn C 33 905 25 (e25.trans (by decide)) (by decide) rfl (by decide) dL_law_33 (lc_25 C S hR h0 h1 hM kk)
  by_cases e26 : a = 26
  · exact lr_tabIn C 33 928 26 (e26.trans (by decide)) (by decide) rfl (by decide) dL_law_33 (lc_26 C S hR h0 h1 hM kk)
  by_cases e27 : a = 27
  · exact lr_tabIn C 33 941 27 (e27.trans (by decide)) (by decide) rfl (by decide) dL_law_33 (lc_27 C S hR h0 h1 hM kk)
  by_cases e28 : a = 28
  · exact lr_tabIn C 33 964 28 (e28.trans (by decide)) (by decide) rfl (by decide) dL_law_33 (lc_28 C S hR h0 h1 hM kk)
  by_cases e29 : a = 29
  · exact lr_tabIn C 33 987 29 (e29.trans (by decide)) (by decide) rfl (by decide) dL_law_33 (lc_29 C S hR h0 h1 hM kk)
  by_cases e30 : a = 30
  · exact lr_tabIn C 33 1010 30 (e30.trans (by decide)) (by decide) rfl (by decide) dL_law_33 (lc_30 C S hR h0 h1 hM kk)
  by_cases e31 : a = 31
  · exact lr_tabIn C 33 1023 31 (e31.trans (by decide)) (by decide) rfl (by decide) dL_law_33 (lc_31 C S hR h0 h1 hM kk)
  by_cases e32 : a = 32
  · exact lr_tabIn C 33 1046 32 (e32.trans (by decide)) (by decide) rfl (by decide) dL_law_33 (lc_32 C S hR h0 h1 hM kk)
  by_cases e33 : a = 33
  · exact lr_tabIn C 33 1069 33 (e33.trans (by decide)) (by decide) rfl (by decide) dL_law_33 (lc_33 C S hR h0 h1 hM kk)
  by_cases e34 : a = 34
  · exact lr_tabIn C 33 1082 34 (e34.trans (by decide)) (by decide) rfl (by decide) dL_law_33 (lc_34 C S hR h0 h1 hM kk)
  by_cases e35 : a = 35
  · exact lr_tabIn C 33 1095 35 (e35.trans (by decide)) (by decide) rfl (by decide) dL_law_33 (lc_35 C S hR h0 h1 hM kk)
  by_cases e36 : a = 36
  · exact lr_tabIn C 33 1108 36 (e36.trans (by decide)) (by decide) rfl (by decide) dL_law_33 (lc_36 C S hR h0 h1 hM kk)
  by_cases e37 : a = 37
  · exact lr_tabIn C 33 1121 37 (e37.trans (by decide)) (by decide) rfl (by decide) dL_law_33 (lc_37 C S hR h0 h1 hM kk)
  by_cases e38 : a = 38
  · exact lr_tabIn C 33 1134 38 (e38.trans (by decide)) (by decide) rfl (by decide) dL_law_33 (lc_38 C S hR h0 h1 hM kk)
  by_cases e39 : a = 39
  · exact lr_tabIn C 33 1157 39 (e39.trans (by decide)) (by decide) rfl (by decide) dL_law_33 (lc_39 C S hR h0 h1 hM kk)
  by_cases e40 : a = 40
  · exact lr_tabIn C 33 1180 40 (e40.trans (by decide)) (by decide) rfl (by decide) dL_law_33 (lc_40 C S hR h0 h1 hM kk)
  by_cases e41 : a = 41
  · exact lr_tabIn C 33 1223 41 (e41.trans (by decide)) (by decide) rfl (by decide) dL_law_33 (lc_41 C S hR h0 h1 hM kk)
  by_cases e42 : a = 42
  · exact lr_tabIn C 33 1256 42 (e42.trans (by decide)) (by decide) rfl (by decide) dL_law_33 (lc_42 C S hR h0 h1 hM kk)
  by_cases e43 : a = 43
  · exact lr_tabIn C 33 1299 43 (e43.trans (by decide)) (by decide) rfl (by decide) dL_law_33 (lc_43 C S hR h0 h1 hM kk)
  by_cases e44 : a = 44
  · exact lr_tabIn C 33 1373 44 (e44.trans (by decide)) (by decide) rfl (by decide) dL_law_33 (lc_44 C S hR h0 h1 hM kk)
  by_cases e45 : a = 45
  · exact lr_tabIn C 33 1406 45 (e45.trans (by decide)) (by decide) rfl (by decide) dL_law_33 (lc_45 C S hR h0 h1 hM kk)
  by_cases e46 : a = 46
  · exact lr_tabIn C 33 1429 46 (e46.trans (by decide)) (by decide) rfl (by decide) dL_law_33 (lc_46 C S hR h0 h1 hM kk)
  by_cases e47 : a = 47
  · exact lr_tabIn C 33 1452 47 (e47.trans (by decide)) (by decide) rfl (by decide) dL_law_33 (lc_47 C S hR h0 h1 hM kk)
  exact (l_tx a c0 e0 e1 e2 e3 e4 e5 e6 e7 e8 e9 e10 e11 e12 e13 e14 e15 e16 e17 e18 e19 e20 e21 e22 e23 e24 e25 e26 e27 e28 e29 e30 e31 e32 e33 e34 e35 e36 e37 e38 e39 e40 e41 e42 e43 e44 e45 e46 e47).elim
theorem l_loop {p : Program} {l : Launch} {e : Env} {R : Room} {s : State} {m : MethodId} {args : Array Value} {below : List Frame} {meth : Method} {c : Code} {dC : Nat → ClassId} {dI : Nat → Nat → Nat} {cy : Nat → ClassId} {φ0 : Int → Nat} {base : Nat} {Q : State → Prop} {b L : Nat} {xs : Nat → Int32} (C : q_C mL p s m args meth c dC dI cy φ0 base) (S : l_S b L xs s φ0 base) (hR : 101 ≤ R.frames ∧ 4040 ≤ R.locals ∧ q_N ≤ R.cells ∧ q_sz q_N ≤ R.slots) (hE : ∀ (M : q_Mem) (i : Int), l_U p l e R s m args below meth c dC dI cy φ0 base Q q_N M 1481 [some (qR (-300)), some (qR 1), some (qR 178), some (qI i)] []) : ∀ (r : Nat) (i : Int) (M : q_Mem), 0 ≤ i → i ≤ 4000 → (L : Int) - i < (r : Int) → z_IV M → l_U p l e R s m args below meth c dC dI cy φ0 base Q q_N M 18 [some (qR (-300)), some (qR 1), some (qR 178), some (qI i)] [] := by
  have h5 := S.2.2.2.2
  intro r
  induction r with
  | zero =>
    intro i M h0 h9 hr hM
    refine lr_iload_n C 18 19 rfl (x := i) rfl dL_law_18 ?_
    refine lr_aload_n C 19 20 rfl (x := -300) rfl dL_law_19 ?_
    refine lr_slen C S 20 21 rfl dL_law_20 ?_
    refine lr_bipush C 21 23 rfl (q_l32 _ rfl) (by decide) dL_law_21 ?_
    refine lr_isub C 23 24 rfl dL_law_23 ?_
    rw [q_sub_eq (by omega)]
    exact lr_icmp_gt C 24 27 1481 rfl (by decide) dL_law_24 (fun _ => hE M i) (fun g => absurd (by omega) g)
  | succ r ih =>
    intro i M h0 h9 hr hM
    refine lr_iload_n C 18 19 rfl (x := i) rfl dL_law_18 ?_
    refine lr_aload_n C 19 20 rfl (x := -300) rfl dL_law_19 ?_
    refine lr_slen C S 20 21 rfl dL_law_20 ?_
    refine lr_bipush C 21 23 rfl (q_l32 _ rfl) (by decide) dL_law_21 ?_
    refine lr_isub C 23 24 rfl dL_law_23 ?_
    rw [q_sub_eq (by omega)]
    refine lr_icmp_gt C 24 27 1481 rfl (by decide) dL_law_24 (fun _ => hE M i) (fun g => ?_)
    refine lr_aload_n C 27 28 rfl (x := -300) rfl dL_law_27 ?_
    refine lr_iload_n C 28 29 rfl (x := i) rfl dL_law_28 ?_
    refine lr_sld C S 29 30 rfl h0 (by omega) dL_law_29 ?_
    refine lr_bipush C 30 32 rfl (q_l32 _ rfl) (by decide) dL_law_30 ?_
    refine lr_iand C 32 33 rfl dL_law_32 ?_
    refine l_turn C S hR h0 (by omega) hM (fun M' hM' => ?_) _
    refine lr_iinc C 1475 1478 rfl (by decide) (x := i) (ls' := [some (qR (-300)), some (qR 1), some (qR 178), some (qI (q_add i 6))]) rfl rfl rfl dL_law_1475 ?_
    rw [q_add_eq (by omega)]
    exact lr_goto C 1478 18 (by decide) dL_law_1478 (ih (i + 6) M' (by omega) (by omega) (by omega) hM')
