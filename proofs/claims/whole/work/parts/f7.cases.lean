/-! THE LAW'S CASES -/
theorem case_bed {p : Program} {l : Launch} {e : Env} {s : State} {m : MethodId} {below : List Frame} {meth : Method} {c : Code} {b L : Nat} {xs : Nat → Int32} {cy dC : Nat → ClassId} {dI : Nat → Nat → Nat} {gN gU : Nat} {σ : St} {i6 : Nat} (K : LKx p s m meth c b L xs) (hj : i6 + 5 < L) (hg : gN ≤ 512 ∧ gU ≤ 3072) (I : INV σ) (k : ∀ τ, INV τ → Lw p l e s m below meth c b cy dC dI gN gU 1537 (lvS i6) [] τ) : Lw p l e s m below meth c b cy dC dI gN gU 192 (lvS i6) [] σ := by
  obtain ⟨r, σ1, τ, e1, e2, I2⟩ := bed_i I (xs (i6 + 1)) (xs (i6 + 2))
  have c1 := s11_bed _ _ _ _ _ _ e1
  have c2 := s12_bed _ _ _ _ _ _ e2
  have rm := I2.room
  have m1 := c2.1.1
  have m2 := c2.1.2.1
  refine lw_aload_n K (j := 1) (i := 1) (q := 3) (x := 1) rfl rfl dl_192 ?_
  refine lw_arg K (q0 := 4) (q4 := 0) (i6 := i6) (n := 1) rfl rfl (by decide) (by omega) dl_193 dl_194 dl_196 dl_197 dl_198 ?_
  refine lw_arg K (q0 := 4) (q4 := 0) (i6 := i6) (n := 2) rfl rfl (by decide) (by omega) dl_199 dl_200 dl_202 dl_203 dl_204 ?_
  refine lw_callV K (vs := [.int (xs (i6 + 1)), .int (xs (i6 + 2))]) (sk := []) cls11 (oL1 I.lay) c1 (by decide) (Nat.le_of_ble_eq_true rfl) w535 w536 w537 w1 w538 k11_bed rfl (Nat.le_of_ble_eq_true rfl) (by omega) (by omega) dl_205 ?_
  refine lw_aload_n K (j := 2) (i := 2) (q := 2) (x := 101) rfl rfl dl_208 ?_
  refine lw_arg K (q0 := 4) (q4 := 0) (i6 := i6) (n := 1) rfl rfl (by decide) (by omega) dl_209 dl_210 dl_212 dl_213 dl_214 ?_
  refine lw_arg K (q0 := 4) (q4 := 0) (i6 := i6) (n := 2) rfl rfl (by decide) (by omega) dl_215 dl_216 dl_218 dl_219 dl_220 ?_
  refine lw_callV K (vs := [.int (xs (i6 + 1)), .int (xs (i6 + 2))]) (sk := [.int r]) cls12 (mono_ob c1.1 (oL101 I.lay)) c2 (by decide) (Nat.le_of_ble_eq_true rfl) w1490 w1491 w1492 w19 w1493 k12_bed rfl (Nat.le_of_ble_eq_true rfl) (by omega) (by omega) dl_221 ?_
  exact lw_same K (tgt := 1537) (by decide) dl_224 (k τ I2)
theorem case_point {p : Program} {l : Launch} {e : Env} {s : State} {m : MethodId} {below : List Frame} {meth : Method} {c : Code} {b L : Nat} {xs : Nat → Int32} {cy dC : Nat → ClassId} {dI : Nat → Nat → Nat} {gN gU : Nat} {σ : St} {i6 : Nat} (K : LKx p s m meth c b L xs) (hj : i6 + 5 < L) (hg : gN ≤ 512 ∧ gU ≤ 3072) (I : INV σ) (k : ∀ τ, INV τ → Lw p l e s m below meth c b cy dC dI gN gU 1537 (lvS i6) [] τ) : Lw p l e s m below meth c b cy dC dI gN gU 229 (lvS i6) [] σ := by
  obtain ⟨r, σ1, τ, e1, e2, I2⟩ := point_i I (xs (i6 + 1)) (xs (i6 + 2)) (xs (i6 + 3))
  have c1 := s11_point _ _ _ _ _ _ _ e1
  have c2 := s12_point _ _ _ _ _ _ _ e2
  have rm := I2.room
  have m1 := c2.1.1
  have m2 := c2.1.2.1
  refine lw_aload_n K (j := 1) (i := 1) (q := 3) (x := 1) rfl rfl dl_229 ?_
  refine lw_arg K (q0 := 4) (q4 := 0) (i6 := i6) (n := 1) rfl rfl (by decide) (by omega) dl_230 dl_231 dl_233 dl_234 dl_235 ?_
  refine lw_arg K (q0 := 4) (q4 := 0) (i6 := i6) (n := 2) rfl rfl (by decide) (by omega) dl_236 dl_237 dl_239 dl_240 dl_241 ?_
  refine lw_arg K (q0 := 4) (q4 := 0) (i6 := i6) (n := 3) rfl rfl (by decide) (by omega) dl_242 dl_243 dl_245 dl_246 dl_247 ?_
  refine lw_callV K (vs := [.int (xs (i6 + 1)), .int (xs (i6 + 2)), .int (xs (i6 + 3))]) (sk := []) cls11 (oL1 I.lay) c1 (by decide) (Nat.le_of_ble_eq_true rfl) w545 w546 w547 w1 w548 k11_point rfl (Nat.le_of_ble_eq_true rfl) (by omega) (by omega) dl_248 ?_
  refine lw_aload_n K (j := 2) (i := 2) (q := 2) (x := 101) rfl rfl dl_251 ?_
  refine lw_arg K (q0 := 4) (q4 := 0) (i6 := i6) (n := 1) rfl rfl (by decide) (by omega) dl_252 dl_253 dl_255 dl_256 dl_257 ?_
  refine lw_arg K (q0 := 4) (q4 := 0) (i6 := i6) (n := 2) rfl rfl (by decide) (by omega) dl_258 dl_259 dl_261 dl_262 dl_263 ?_
  refine lw_arg K (q0 := 4) (q4 := 0) (i6 := i6) (n := 3) rfl rfl (by decide) (by omega) dl_264 dl_265 dl_267 dl_268 dl_269 ?_
  refine lw_callV K (vs := [.int (xs (i6 + 1)), .int (xs (i6 + 2)), .int (xs (i6 + 3))]) (sk := [.int r]) cls12 (mono_ob c1.1 (oL101 I.lay)) c2 (by decide) (Nat.le_of_ble_eq_true rfl) w1500 w1501 w1502 w19 w1503 k12_point rfl (Nat.le_of_ble_eq_true rfl) (by omega) (by omega) dl_270 ?_
  exact lw_same K (tgt := 1537) (by decide) dl_273 (k τ I2)
theorem case_value {p : Program} {l : Launch} {e : Env} {s : State} {m : MethodId} {below : List Frame} {meth : Method} {c : Code} {b L : Nat} {xs : Nat → Int32} {cy dC : Nat → ClassId} {dI : Nat → Nat → Nat} {gN gU : Nat} {σ : St} {i6 : Nat} (K : LKx p s m meth c b L xs) (hj : i6 + 5 < L) (hg : gN ≤ 512 ∧ gU ≤ 3072) (I : INV σ) (k : ∀ τ, INV τ → Lw p l e s m below meth c b cy dC dI gN gU 1537 (lvS i6) [] τ) : Lw p l e s m below meth c b cy dC dI gN gU 278 (lvS i6) [] σ := by
  obtain ⟨r, σ1, τ, e1, e2, I2⟩ := value_i I (xs (i6 + 1)) (xs (i6 + 2))
  have c1 := s11_value _ _ _ _ _ _ e1
  have c2 := s12_value _ _ _ _ _ _ e2
  have rm := I2.room
  have m1 := c2.1.1
  have m2 := c2.1.2.1
  refine lw_aload_n K (j := 1) (i := 1) (q := 3) (x := 1) rfl rfl dl_278 ?_
  refine lw_arg K (q0 := 4) (q4 := 0) (i6 := i6) (n := 1) rfl rfl (by decide) (by omega) dl_279 dl_280 dl_282 dl_283 dl_284 ?_
  refine lw_arg K (q0 := 4) (q4 := 0) (i6 := i6) (n := 2) rfl rfl (by decide) (by omega) dl_285 dl_286 dl_288 dl_289 dl_290 ?_
  refine lw_callV K (vs := [.int (xs (i6 + 1)), .int (xs (i6 + 2))]) (sk := []) cls11 (oL1 I.lay) c1 (by decide) (Nat.le_of_ble_eq_true rfl) w553 w554 w555 w1 w556 k11_value rfl (Nat.le_of_ble_eq_true rfl) (by omega) (by omega) dl_291 ?_
  refine lw_aload_n K (j := 2) (i := 2) (q := 2) (x := 101) rfl rfl dl_294 ?_
  refine lw_arg K (q0 := 4) (q4 := 0) (i6 := i6) (n := 1) rfl rfl (by decide) (by omega) dl_295 dl_296 dl_298 dl_299 dl_300 ?_
  refine lw_arg K (q0 := 4) (q4 := 0) (i6 := i6) (n := 2) rfl rfl (by decide) (by omega) dl_301 dl_302 dl_304 dl_305 dl_306 ?_
  refine lw_callV K (vs := [.int (xs (i6 + 1)), .int (xs (i6 + 2))]) (sk := [.int r]) cls12 (mono_ob c1.1 (oL101 I.lay)) c2 (by decide) (Nat.le_of_ble_eq_true rfl) w1504 w1505 w1506 w19 w1507 k12_value rfl (Nat.le_of_ble_eq_true rfl) (by omega) (by omega) dl_307 ?_
  exact lw_same K (tgt := 1537) (by decide) dl_310 (k τ I2)
theorem case_mill {p : Program} {l : Launch} {e : Env} {s : State} {m : MethodId} {below : List Frame} {meth : Method} {c : Code} {b L : Nat} {xs : Nat → Int32} {cy dC : Nat → ClassId} {dI : Nat → Nat → Nat} {gN gU : Nat} {σ : St} {i6 : Nat} (K : LKx p s m meth c b L xs) (hj : i6 + 5 < L) (hg : gN ≤ 512 ∧ gU ≤ 3072) (I : INV σ) (k : ∀ τ, INV τ → Lw p l e s m below meth c b cy dC dI gN gU 1537 (lvS i6) [] τ) : Lw p l e s m below meth c b cy dC dI gN gU 315 (lvS i6) [] σ := by
  obtain ⟨r, σ1, τ, e1, e2, I2⟩ := mill_i I (xs (i6 + 1)) (xs (i6 + 2)) (xs (i6 + 3))
  have c1 := s11_mill _ _ _ _ _ _ _ e1
  have c2 := s12_mill _ _ _ _ _ _ _ e2
  have rm := I2.room
  have m1 := c2.1.1
  have m2 := c2.1.2.1
  refine lw_aload_n K (j := 1) (i := 1) (q := 3) (x := 1) rfl rfl dl_315 ?_
  refine lw_arg K (q0 := 4) (q4 := 0) (i6 := i6) (n := 1) rfl rfl (by decide) (by omega) dl_316 dl_317 dl_319 dl_320 dl_321 ?_
  refine lw_arg K (q0 := 4) (q4 := 0) (i6 := i6) (n := 2) rfl rfl (by decide) (by omega) dl_322 dl_323 dl_325 dl_326 dl_327 ?_
  refine lw_arg K (q0 := 4) (q4 := 0) (i6 := i6) (n := 3) rfl rfl (by decide) (by omega) dl_328 dl_329 dl_331 dl_332 dl_333 ?_
  refine lw_callV K (vs := [.int (xs (i6 + 1)), .int (xs (i6 + 2)), .int (xs (i6 + 3))]) (sk := []) cls11 (oL1 I.lay) c1 (by decide) (Nat.le_of_ble_eq_true rfl) w564 w565 w566 w1 w567 k11_mill rfl (Nat.le_of_ble_eq_true rfl) (by omega) (by omega) dl_334 ?_
  refine lw_aload_n K (j := 2) (i := 2) (q := 2) (x := 101) rfl rfl dl_337 ?_
  refine lw_arg K (q0 := 4) (q4 := 0) (i6 := i6) (n := 1) rfl rfl (by decide) (by omega) dl_338 dl_339 dl_341 dl_342 dl_343 ?_
  refine lw_arg K (q0 := 4) (q4 := 0) (i6 := i6) (n := 2) rfl rfl (by decide) (by omega) dl_344 dl_345 dl_347 dl_348 dl_349 ?_
  refine lw_arg K (q0 := 4) (q4 := 0) (i6 := i6) (n := 3) rfl rfl (by decide) (by omega) dl_350 dl_351 dl_353 dl_354 dl_355 ?_
  refine lw_callV K (vs := [.int (xs (i6 + 1)), .int (xs (i6 + 2)), .int (xs (i6 + 3))]) (sk := [.int r]) cls12 (mono_ob c1.1 (oL101 I.lay)) c2 (by decide) (Nat.le_of_ble_eq_true rfl) w1512 w1513 w1514 w19 w1515 k12_mill rfl (Nat.le_of_ble_eq_true rfl) (by omega) (by omega) dl_356 ?_
  exact lw_same K (tgt := 1537) (by decide) dl_359 (k τ I2)
theorem case_moor {p : Program} {l : Launch} {e : Env} {s : State} {m : MethodId} {below : List Frame} {meth : Method} {c : Code} {b L : Nat} {xs : Nat → Int32} {cy dC : Nat → ClassId} {dI : Nat → Nat → Nat} {gN gU : Nat} {σ : St} {i6 : Nat} (K : LKx p s m meth c b L xs) (hj : i6 + 5 < L) (hg : gN ≤ 512 ∧ gU ≤ 3072) (I : INV σ) (k : ∀ τ, INV τ → Lw p l e s m below meth c b cy dC dI gN gU 1537 (lvS i6) [] τ) : Lw p l e s m below meth c b cy dC dI gN gU 364 (lvS i6) [] σ := by
  obtain ⟨r, σ1, τ, e1, e2, I2⟩ := moor_i I (xs (i6 + 1)) (xs (i6 + 2))
  have c1 := s11_moor _ _ _ _ _ _ e1
  have c2 := s12_moor _ _ _ _ _ _ e2
  have rm := I2.room
  have m1 := c2.1.1
  have m2 := c2.1.2.1
  refine lw_aload_n K (j := 1) (i := 1) (q := 3) (x := 1) rfl rfl dl_364 ?_
  refine lw_arg K (q0 := 4) (q4 := 0) (i6 := i6) (n := 1) rfl rfl (by decide) (by omega) dl_365 dl_366 dl_368 dl_369 dl_370 ?_
  refine lw_arg K (q0 := 4) (q4 := 0) (i6 := i6) (n := 2) rfl rfl (by decide) (by omega) dl_371 dl_372 dl_374 dl_375 dl_376 ?_
  refine lw_callV K (vs := [.int (xs (i6 + 1)), .int (xs (i6 + 2))]) (sk := []) cls11 (oL1 I.lay) c1 (by decide) (Nat.le_of_ble_eq_true rfl) w572 w573 w574 w1 w575 k11_moor rfl (Nat.le_of_ble_eq_true rfl) (by omega) (by omega) dl_377 ?_
  refine lw_aload_n K (j := 2) (i := 2) (q := 2) (x := 101) rfl rfl dl_380 ?_
  refine lw_arg K (q0 := 4) (q4 := 0) (i6 := i6) (n := 1) rfl rfl (by decide) (by omega) dl_381 dl_382 dl_384 dl_385 dl_386 ?_
  refine lw_arg K (q0 := 4) (q4 := 0) (i6 := i6) (n := 2) rfl rfl (by decide) (by omega) dl_387 dl_388 dl_390 dl_391 dl_392 ?_
  refine lw_callV K (vs := [.int (xs (i6 + 1)), .int (xs (i6 + 2))]) (sk := [.int r]) cls12 (mono_ob c1.1 (oL101 I.lay)) c2 (by decide) (Nat.le_of_ble_eq_true rfl) w1516 w1517 w1518 w19 w1519 k12_moor rfl (Nat.le_of_ble_eq_true rfl) (by omega) (by omega) dl_393 ?_
  exact lw_same K (tgt := 1537) (by decide) dl_396 (k τ I2)
theorem case_dress {p : Program} {l : Launch} {e : Env} {s : State} {m : MethodId} {below : List Frame} {meth : Method} {c : Code} {b L : Nat} {xs : Nat → Int32} {cy dC : Nat → ClassId} {dI : Nat → Nat → Nat} {gN gU : Nat} {σ : St} {i6 : Nat} (K : LKx p s m meth c b L xs) (hj : i6 + 5 < L) (hg : gN ≤ 512 ∧ gU ≤ 3072) (I : INV σ) (k : ∀ τ, INV τ → Lw p l e s m below meth c b cy dC dI gN gU 1537 (lvS i6) [] τ) : Lw p l e s m below meth c b cy dC dI gN gU 401 (lvS i6) [] σ := by
  obtain ⟨r, σ1, τ, e1, e2, I2⟩ := dress_i I (xs (i6 + 1))
  have c1 := s11_dress _ _ _ _ _ e1
  have c2 := s12_dress _ _ _ _ _ e2
  have rm := I2.room
  have m1 := c2.1.1
  have m2 := c2.1.2.1
  refine lw_aload_n K (j := 1) (i := 1) (q := 3) (x := 1) rfl rfl dl_401 ?_
  refine lw_arg K (q0 := 4) (q4 := 0) (i6 := i6) (n := 1) rfl rfl (by decide) (by omega) dl_402 dl_403 dl_405 dl_406 dl_407 ?_
  refine lw_callV K (vs := [.int (xs (i6 + 1))]) (sk := []) cls11 (oL1 I.lay) c1 (by decide) (Nat.le_of_ble_eq_true rfl) w584 w585 w586 w1 w587 k11_dress rfl (Nat.le_of_ble_eq_true rfl) (by omega) (by omega) dl_408 ?_
  refine lw_aload_n K (j := 2) (i := 2) (q := 2) (x := 101) rfl rfl dl_411 ?_
  refine lw_arg K (q0 := 4) (q4 := 0) (i6 := i6) (n := 1) rfl rfl (by decide) (by omega) dl_412 dl_413 dl_415 dl_416 dl_417 ?_
  refine lw_callV K (vs := [.int (xs (i6 + 1))]) (sk := [.int r]) cls12 (mono_ob c1.1 (oL101 I.lay)) c2 (by decide) (Nat.le_of_ble_eq_true rfl) w1528 w1529 w1530 w19 w1531 k12_dress rfl (Nat.le_of_ble_eq_true rfl) (by omega) (by omega) dl_418 ?_
  exact lw_same K (tgt := 1537) (by decide) dl_421 (k τ I2)
theorem case_flow {p : Program} {l : Launch} {e : Env} {s : State} {m : MethodId} {below : List Frame} {meth : Method} {c : Code} {b L : Nat} {xs : Nat → Int32} {cy dC : Nat → ClassId} {dI : Nat → Nat → Nat} {gN gU : Nat} {σ : St} {i6 : Nat} (K : LKx p s m meth c b L xs) (hj : i6 + 5 < L) (hg : gN ≤ 512 ∧ gU ≤ 3072) (I : INV σ) (k : ∀ τ, INV τ → Lw p l e s m below meth c b cy dC dI gN gU 1537 (lvS i6) [] τ) : Lw p l e s m below meth c b cy dC dI gN gU 426 (lvS i6) [] σ := by
  obtain ⟨r, σ1, τ, e1, e2, I2⟩ := flow_i I (xs (i6 + 1)) (xs (i6 + 2))
  have c1 := s11_flow _ _ _ _ _ _ e1
  have c2 := s12_flow _ _ _ _ _ _ e2
  have rm := I2.room
  have m1 := c2.1.1
  have m2 := c2.1.2.1
  refine lw_aload_n K (j := 1) (i := 1) (q := 3) (x := 1) rfl rfl dl_426 ?_
  refine lw_arg K (q0 := 4) (q4 := 0) (i6 := i6) (n := 1) rfl rfl (by decide) (by omega) dl_427 dl_428 dl_430 dl_431 dl_432 ?_
  refine lw_arg K (q0 := 4) (q4 := 0) (i6 := i6) (n := 2) rfl rfl (by decide) (by omega) dl_433 dl_434 dl_436 dl_437 dl_438 ?_
  refine lw_callV K (vs := [.int (xs (i6 + 1)), .int (xs (i6 + 2))]) (sk := []) cls11 (oL1 I.lay) c1 (by decide) (Nat.le_of_ble_eq_true rfl) w592 w593 w594 w1 w595 k11_flow rfl (Nat.le_of_ble_eq_true rfl) (by omega) (by omega) dl_439 ?_
  refine lw_aload_n K (j := 2) (i := 2) (q := 2) (x := 101) rfl rfl dl_442 ?_
  refine lw_arg K (q0 := 4) (q4 := 0) (i6 := i6) (n := 1) rfl rfl (by decide) (by omega) dl_443 dl_444 dl_446 dl_447 dl_448 ?_
  refine lw_arg K (q0 := 4) (q4 := 0) (i6 := i6) (n := 2) rfl rfl (by decide) (by omega) dl_449 dl_450 dl_452 dl_453 dl_454 ?_
  refine lw_callV K (vs := [.int (xs (i6 + 1)), .int (xs (i6 + 2))]) (sk := [.int r]) cls12 (mono_ob c1.1 (oL101 I.lay)) c2 (by decide) (Nat.le_of_ble_eq_true rfl) w1532 w1533 w1534 w19 w1535 k12_flow rfl (Nat.le_of_ble_eq_true rfl) (by omega) (by omega) dl_455 ?_
  exact lw_same K (tgt := 1537) (by decide) dl_458 (k τ I2)
theorem case_power {p : Program} {l : Launch} {e : Env} {s : State} {m : MethodId} {below : List Frame} {meth : Method} {c : Code} {b L : Nat} {xs : Nat → Int32} {cy dC : Nat → ClassId} {dI : Nat → Nat → Nat} {gN gU : Nat} {σ : St} {i6 : Nat} (K : LKx p s m meth c b L xs) (hj : i6 + 5 < L) (hg : gN ≤ 512 ∧ gU ≤ 3072) (I : INV σ) (k : ∀ τ, INV τ → Lw p l e s m below meth c b cy dC dI gN gU 1537 (lvS i6) [] τ) : Lw p l e s m below meth c b cy dC dI gN gU 463 (lvS i6) [] σ := by
  obtain ⟨r, σ1, τ, e1, e2, I2⟩ := power_i I (xs (i6 + 1)) (xs (i6 + 2))
  have c1 := s11_power _ _ _ _ _ _ e1
  have c2 := s12_power _ _ _ _ _ _ e2
  have rm := I2.room
  have m1 := c2.1.1
  have m2 := c2.1.2.1
  refine lw_aload_n K (j := 1) (i := 1) (q := 3) (x := 1) rfl rfl dl_463 ?_
  refine lw_arg K (q0 := 4) (q4 := 0) (i6 := i6) (n := 1) rfl rfl (by decide) (by omega) dl_464 dl_465 dl_467 dl_468 dl_469 ?_
  refine lw_arg K (q0 := 4) (q4 := 0) (i6 := i6) (n := 2) rfl rfl (by decide) (by omega) dl_470 dl_471 dl_473 dl_474 dl_475 ?_
  refine lw_callV K (vs := [.int (xs (i6 + 1)), .int (xs (i6 + 2))]) (sk := []) cls11 (oL1 I.lay) c1 (by decide) (Nat.le_of_ble_eq_true rfl) w614 w615 w616 w1 w617 k11_power rfl (Nat.le_of_ble_eq_true rfl) (by omega) (by omega) dl_476 ?_
  refine lw_aload_n K (j := 2) (i := 2) (q := 2) (x := 101) rfl rfl dl_479 ?_
  refine lw_arg K (q0 := 4) (q4 := 0) (i6 := i6) (n := 1) rfl rfl (by decide) (by omega) dl_480 dl_481 dl_483 dl_484 dl_485 ?_
  refine lw_arg K (q0 := 4) (q4 := 0) (i6 := i6) (n := 2) rfl rfl (by decide) (by omega) dl_486 dl_487 dl_489 dl_490 dl_491 ?_
  refine lw_callV K (vs := [.int (xs (i6 + 1)), .int (xs (i6 + 2))]) (sk := [.int r]) cls12 (mono_ob c1.1 (oL101 I.lay)) c2 (by decide) (Nat.le_of_ble_eq_true rfl) w1544 w1545 w1546 w19 w1547 k12_power rfl (Nat.le_of_ble_eq_true rfl) (by omega) (by omega) dl_492 ?_
  exact lw_same K (tgt := 1537) (by decide) dl_495 (k τ I2)
theorem case_pull {p : Program} {l : Launch} {e : Env} {s : State} {m : MethodId} {below : List Frame} {meth : Method} {c : Code} {b L : Nat} {xs : Nat → Int32} {cy dC : Nat → ClassId} {dI : Nat → Nat → Nat} {gN gU : Nat} {σ : St} {i6 : Nat} (K : LKx p s m meth c b L xs) (hj : i6 + 5 < L) (hg : gN ≤ 512 ∧ gU ≤ 3072) (I : INV σ) (k : ∀ τ, INV τ → Lw p l e s m below meth c b cy dC dI gN gU 1537 (lvS i6) [] τ) : Lw p l e s m below meth c b cy dC dI gN gU 500 (lvS i6) [] σ := by
  obtain ⟨r, σ1, τ, e1, e2, I2⟩ := pull_i I (xs (i6 + 1)) (xs (i6 + 2)) (bz (xs (i6 + 3)))
  have c1 := s11_pull _ _ _ _ _ _ _ e1
  have c2 := s12_pull _ _ _ _ _ _ _ e2
  have rm := I2.room
  have m1 := c2.1.1
  have m2 := c2.1.2.1
  refine lw_aload_n K (j := 1) (i := 1) (q := 3) (x := 1) rfl rfl dl_500 ?_
  refine lw_arg K (q0 := 4) (q4 := 0) (i6 := i6) (n := 1) rfl rfl (by decide) (by omega) dl_501 dl_502 dl_504 dl_505 dl_506 ?_
  refine lw_arg K (q0 := 4) (q4 := 0) (i6 := i6) (n := 2) rfl rfl (by decide) (by omega) dl_507 dl_508 dl_510 dl_511 dl_512 ?_
  refine lw_arg K (q0 := 4) (q4 := 0) (i6 := i6) (n := 3) rfl rfl (by decide) (by omega) dl_513 dl_514 dl_516 dl_517 dl_518 ?_
  refine lw_bz K dl_519 dl_522 dl_523 dl_526 ?_
  refine lw_callV K (vs := [.int (xs (i6 + 1)), .int (xs (i6 + 2)), .int (bz (xs (i6 + 3)))]) (sk := []) cls11 (oL1 I.lay) c1 (by decide) (Nat.le_of_ble_eq_true rfl) w638 w639 w640 w1 w641 k11_pull rfl (Nat.le_of_ble_eq_true rfl) (by omega) (by omega) dl_527 ?_
  refine lw_aload_n K (j := 2) (i := 2) (q := 2) (x := 101) rfl rfl dl_530 ?_
  refine lw_arg K (q0 := 4) (q4 := 0) (i6 := i6) (n := 1) rfl rfl (by decide) (by omega) dl_531 dl_532 dl_534 dl_535 dl_536 ?_
  refine lw_arg K (q0 := 4) (q4 := 0) (i6 := i6) (n := 2) rfl rfl (by decide) (by omega) dl_537 dl_538 dl_540 dl_541 dl_542 ?_
  refine lw_arg K (q0 := 4) (q4 := 0) (i6 := i6) (n := 3) rfl rfl (by decide) (by omega) dl_543 dl_544 dl_546 dl_547 dl_548 ?_
  refine lw_bz K dl_549 dl_552 dl_553 dl_556 ?_
  refine lw_callV K (vs := [.int (xs (i6 + 1)), .int (xs (i6 + 2)), .int (bz (xs (i6 + 3)))]) (sk := [.int r]) cls12 (mono_ob c1.1 (oL101 I.lay)) c2 (by decide) (Nat.le_of_ble_eq_true rfl) w1564 w1565 w1566 w19 w1567 k12_pull rfl (Nat.le_of_ble_eq_true rfl) (by omega) (by omega) dl_557 ?_
  exact lw_same K (tgt := 1537) (by decide) dl_560 (k τ I2)
theorem case_loss {p : Program} {l : Launch} {e : Env} {s : State} {m : MethodId} {below : List Frame} {meth : Method} {c : Code} {b L : Nat} {xs : Nat → Int32} {cy dC : Nat → ClassId} {dI : Nat → Nat → Nat} {gN gU : Nat} {σ : St} {i6 : Nat} (K : LKx p s m meth c b L xs) (hj : i6 + 5 < L) (hg : gN ≤ 512 ∧ gU ≤ 3072) (I : INV σ) (k : ∀ τ, INV τ → Lw p l e s m below meth c b cy dC dI gN gU 1537 (lvS i6) [] τ) : Lw p l e s m below meth c b cy dC dI gN gU 565 (lvS i6) [] σ := by
  obtain ⟨r, σ1, τ, e1, e2, I2⟩ := loss_i I (xs (i6 + 1)) (xs (i6 + 2)) (xs (i6 + 3))
  have c1 := s11_loss _ _ _ _ _ _ _ e1
  have c2 := s12_loss _ _ _ _ _ _ _ e2
  have rm := I2.room
  have m1 := c2.1.1
  have m2 := c2.1.2.1
  refine lw_aload_n K (j := 1) (i := 1) (q := 3) (x := 1) rfl rfl dl_565 ?_
  refine lw_arg K (q0 := 4) (q4 := 0) (i6 := i6) (n := 1) rfl rfl (by decide) (by omega) dl_566 dl_567 dl_569 dl_570 dl_571 ?_
  refine lw_arg K (q0 := 4) (q4 := 0) (i6 := i6) (n := 2) rfl rfl (by decide) (by omega) dl_572 dl_573 dl_575 dl_576 dl_577 ?_
  refine lw_arg K (q0 := 4) (q4 := 0) (i6 := i6) (n := 3) rfl rfl (by decide) (by omega) dl_578 dl_579 dl_581 dl_582 dl_583 ?_
  refine lw_callV K (vs := [.int (xs (i6 + 1)), .int (xs (i6 + 2)), .int (xs (i6 + 3))]) (sk := []) cls11 (oL1 I.lay) c1 (by decide) (Nat.le_of_ble_eq_true rfl) w646 w647 w648 w1 w649 k11_loss rfl (Nat.le_of_ble_eq_true rfl) (by omega) (by omega) dl_584 ?_
  refine lw_aload_n K (j := 2) (i := 2) (q := 2) (x := 101) rfl rfl dl_587 ?_
  refine lw_arg K (q0 := 4) (q4 := 0) (i6 := i6) (n := 1) rfl rfl (by decide) (by omega) dl_588 dl_589 dl_591 dl_592 dl_593 ?_
  refine lw_arg K (q0 := 4) (q4 := 0) (i6 := i6) (n := 2) rfl rfl (by decide) (by omega) dl_594 dl_595 dl_597 dl_598 dl_599 ?_
  refine lw_arg K (q0 := 4) (q4 := 0) (i6 := i6) (n := 3) rfl rfl (by decide) (by omega) dl_600 dl_601 dl_603 dl_604 dl_605 ?_
  refine lw_callV K (vs := [.int (xs (i6 + 1)), .int (xs (i6 + 2)), .int (xs (i6 + 3))]) (sk := [.int r]) cls12 (mono_ob c1.1 (oL101 I.lay)) c2 (by decide) (Nat.le_of_ble_eq_true rfl) w1572 w1573 w1574 w19 w1575 k12_loss rfl (Nat.le_of_ble_eq_true rfl) (by omega) (by omega) dl_606 ?_
  exact lw_same K (tgt := 1537) (by decide) dl_609 (k τ I2)
theorem case_height {p : Program} {l : Launch} {e : Env} {s : State} {m : MethodId} {below : List Frame} {meth : Method} {c : Code} {b L : Nat} {xs : Nat → Int32} {cy dC : Nat → ClassId} {dI : Nat → Nat → Nat} {gN gU : Nat} {σ : St} {i6 : Nat} (K : LKx p s m meth c b L xs) (hj : i6 + 5 < L) (hg : gN ≤ 512 ∧ gU ≤ 3072) (I : INV σ) (k : ∀ τ, INV τ → Lw p l e s m below meth c b cy dC dI gN gU 1537 (lvS i6) [] τ) : Lw p l e s m below meth c b cy dC dI gN gU 614 (lvS i6) [] σ := by
  obtain ⟨r, σ1, τ, e1, e2, I2⟩ := height_i I (xs (i6 + 1)) (xs (i6 + 2))
  have c1 := s11_height _ _ _ _ _ _ e1
  have c2 := s12_height _ _ _ _ _ _ e2
  have rm := I2.room
  have m1 := c2.1.1
  have m2 := c2.1.2.1
  refine lw_aload_n K (j := 1) (i := 1) (q := 3) (x := 1) rfl rfl dl_614 ?_
  refine lw_arg K (q0 := 4) (q4 := 0) (i6 := i6) (n := 1) rfl rfl (by decide) (by omega) dl_615 dl_616 dl_618 dl_619 dl_620 ?_
  refine lw_arg K (q0 := 4) (q4 := 0) (i6 := i6) (n := 2) rfl rfl (by decide) (by omega) dl_621 dl_622 dl_624 dl_625 dl_626 ?_
  refine lw_callV K (vs := [.int (xs (i6 + 1)), .int (xs (i6 + 2))]) (sk := []) cls11 (oL1 I.lay) c1 (by decide) (Nat.le_of_ble_eq_true rfl) w658 w659 w660 w1 w661 k11_height rfl (Nat.le_of_ble_eq_true rfl) (by omega) (by omega) dl_627 ?_
  refine lw_aload_n K (j := 2) (i := 2) (q := 2) (x := 101) rfl rfl dl_630 ?_
  refine lw_arg K (q0 := 4) (q4 := 0) (i6 := i6) (n := 1) rfl rfl (by decide) (by omega) dl_631 dl_632 dl_634 dl_635 dl_636 ?_
  refine lw_arg K (q0 := 4) (q4 := 0) (i6 := i6) (n := 2) rfl rfl (by decide) (by omega) dl_637 dl_638 dl_640 dl_641 dl_642 ?_
  refine lw_callV K (vs := [.int (xs (i6 + 1)), .int (xs (i6 + 2))]) (sk := [.int r]) cls12 (mono_ob c1.1 (oL101 I.lay)) c2 (by decide) (Nat.le_of_ble_eq_true rfl) w1576 w1577 w1578 w19 w1579 k12_height rfl (Nat.le_of_ble_eq_true rfl) (by omega) (by omega) dl_643 ?_
  exact lw_same K (tgt := 1537) (by decide) dl_646 (k τ I2)
theorem case_ice {p : Program} {l : Launch} {e : Env} {s : State} {m : MethodId} {below : List Frame} {meth : Method} {c : Code} {b L : Nat} {xs : Nat → Int32} {cy dC : Nat → ClassId} {dI : Nat → Nat → Nat} {gN gU : Nat} {σ : St} {i6 : Nat} (K : LKx p s m meth c b L xs) (hj : i6 + 5 < L) (hg : gN ≤ 512 ∧ gU ≤ 3072) (I : INV σ) (k : ∀ τ, INV τ → Lw p l e s m below meth c b cy dC dI gN gU 1537 (lvS i6) [] τ) : Lw p l e s m below meth c b cy dC dI gN gU 651 (lvS i6) [] σ := by
  obtain ⟨r, σ1, τ, e1, e2, I2⟩ := ice_i I (xs (i6 + 1)) (bz (xs (i6 + 2))) (bz_01 _)
  have c1 := s11_ice _ _ _ _ _ _ e1
  have c2 := s12_ice _ _ _ _ _ _ e2
  have rm := I2.room
  have m1 := c2.1.1
  have m2 := c2.1.2.1
  refine lw_aload_n K (j := 1) (i := 1) (q := 3) (x := 1) rfl rfl dl_651 ?_
  refine lw_arg K (q0 := 4) (q4 := 0) (i6 := i6) (n := 1) rfl rfl (by decide) (by omega) dl_652 dl_653 dl_655 dl_656 dl_657 ?_
  refine lw_arg K (q0 := 4) (q4 := 0) (i6 := i6) (n := 2) rfl rfl (by decide) (by omega) dl_658 dl_659 dl_661 dl_662 dl_663 ?_
  refine lw_bz K dl_664 dl_667 dl_668 dl_671 ?_
  refine lw_callV K (vs := [.int (xs (i6 + 1)), .int (bz (xs (i6 + 2)))]) (sk := []) cls11 (oL1 I.lay) c1 (by decide) (Nat.le_of_ble_eq_true rfl) w669 w670 w671 w1 w672 k11_ice rfl (Nat.le_of_ble_eq_true rfl) (by omega) (by omega) dl_672 ?_
  refine lw_aload_n K (j := 2) (i := 2) (q := 2) (x := 101) rfl rfl dl_675 ?_
  refine lw_arg K (q0 := 4) (q4 := 0) (i6 := i6) (n := 1) rfl rfl (by decide) (by omega) dl_676 dl_677 dl_679 dl_680 dl_681 ?_
  refine lw_arg K (q0 := 4) (q4 := 0) (i6 := i6) (n := 2) rfl rfl (by decide) (by omega) dl_682 dl_683 dl_685 dl_686 dl_687 ?_
  refine lw_bz K dl_688 dl_691 dl_692 dl_695 ?_
  refine lw_callV K (vs := [.int (xs (i6 + 1)), .int (bz (xs (i6 + 2)))]) (sk := [.int r]) cls12 (mono_ob c1.1 (oL101 I.lay)) c2 (by decide) (Nat.le_of_ble_eq_true rfl) w1583 w1584 w1585 w19 w1586 k12_ice rfl (Nat.le_of_ble_eq_true rfl) (by omega) (by omega) dl_696 ?_
  exact lw_same K (tgt := 1537) (by decide) dl_699 (k τ I2)
theorem case_heightOf {p : Program} {l : Launch} {e : Env} {s : State} {m : MethodId} {below : List Frame} {meth : Method} {c : Code} {b L : Nat} {xs : Nat → Int32} {cy dC : Nat → ClassId} {dI : Nat → Nat → Nat} {gN gU : Nat} {σ : St} {i6 : Nat} (K : LKx p s m meth c b L xs) (hj : i6 + 5 < L) (hg : gN ≤ 512 ∧ gU ≤ 3072) (I : INV σ) (k : ∀ τ, INV τ → Lw p l e s m below meth c b cy dC dI gN gU 1537 (lvS i6) [] τ) : Lw p l e s m below meth c b cy dC dI gN gU 704 (lvS i6) [] σ := by
  obtain ⟨r, σ1, τ, e1, e2, I2⟩ := heightOf_i I (xs (i6 + 1)) (xs (i6 + 2))
  have c1 := s11_heightOf _ _ _ _ _ _ e1
  have c2 := s12_heightOf _ _ _ _ _ _ e2
  have rm := I2.room
  have m1 := c2.1.1
  have m2 := c2.1.2.1
  refine lw_aload_n K (j := 1) (i := 1) (q := 3) (x := 1) rfl rfl dl_704 ?_
  refine lw_arg K (q0 := 4) (q4 := 0) (i6 := i6) (n := 1) rfl rfl (by decide) (by omega) dl_705 dl_706 dl_708 dl_709 dl_710 ?_
  refine lw_arg K (q0 := 4) (q4 := 0) (i6 := i6) (n := 2) rfl rfl (by decide) (by omega) dl_711 dl_712 dl_714 dl_715 dl_716 ?_
  refine lw_callV K (vs := [.int (xs (i6 + 1)), .int (xs (i6 + 2))]) (sk := []) cls11 (oL1 I.lay) c1 (by decide) (Nat.le_of_ble_eq_true rfl) w673 w674 w675 w1 w676 k11_heightOf rfl (Nat.le_of_ble_eq_true rfl) (by omega) (by omega) dl_717 ?_
  refine lw_aload_n K (j := 2) (i := 2) (q := 2) (x := 101) rfl rfl dl_720 ?_
  refine lw_arg K (q0 := 4) (q4 := 0) (i6 := i6) (n := 1) rfl rfl (by decide) (by omega) dl_721 dl_722 dl_724 dl_725 dl_726 ?_
  refine lw_arg K (q0 := 4) (q4 := 0) (i6 := i6) (n := 2) rfl rfl (by decide) (by omega) dl_727 dl_728 dl_730 dl_731 dl_732 ?_
  refine lw_callV K (vs := [.int (xs (i6 + 1)), .int (xs (i6 + 2))]) (sk := [.int r]) cls12 (mono_ob c1.1 (oL101 I.lay)) c2 (by decide) (Nat.le_of_ble_eq_true rfl) w1587 w1588 w1589 w19 w1590 k12_heightOf rfl (Nat.le_of_ble_eq_true rfl) (by omega) (by omega) dl_733 ?_
  exact lw_same K (tgt := 1537) (by decide) dl_736 (k τ I2)
theorem case_iceOf {p : Program} {l : Launch} {e : Env} {s : State} {m : MethodId} {below : List Frame} {meth : Method} {c : Code} {b L : Nat} {xs : Nat → Int32} {cy dC : Nat → ClassId} {dI : Nat → Nat → Nat} {gN gU : Nat} {σ : St} {i6 : Nat} (K : LKx p s m meth c b L xs) (hj : i6 + 5 < L) (hg : gN ≤ 512 ∧ gU ≤ 3072) (I : INV σ) (k : ∀ τ, INV τ → Lw p l e s m below meth c b cy dC dI gN gU 1537 (lvS i6) [] τ) : Lw p l e s m below meth c b cy dC dI gN gU 741 (lvS i6) [] σ := by
  obtain ⟨r, σ1, τ, e1, e2, I2⟩ := iceOf_i I (xs (i6 + 1)) (xs (i6 + 2))
  have c1 := s11_iceOf _ _ _ _ _ _ e1
  have c2 := s12_iceOf _ _ _ _ _ _ e2
  have rm := I2.room
  have m1 := c2.1.1
  have m2 := c2.1.2.1
  refine lw_aload_n K (j := 1) (i := 1) (q := 3) (x := 1) rfl rfl dl_741 ?_
  refine lw_arg K (q0 := 4) (q4 := 0) (i6 := i6) (n := 1) rfl rfl (by decide) (by omega) dl_742 dl_743 dl_745 dl_746 dl_747 ?_
  refine lw_arg K (q0 := 4) (q4 := 0) (i6 := i6) (n := 2) rfl rfl (by decide) (by omega) dl_748 dl_749 dl_751 dl_752 dl_753 ?_
  refine lw_callV K (vs := [.int (xs (i6 + 1)), .int (xs (i6 + 2))]) (sk := []) cls11 (oL1 I.lay) c1 (by decide) (Nat.le_of_ble_eq_true rfl) w689 w690 w691 w1 w692 k11_iceOf rfl (Nat.le_of_ble_eq_true rfl) (by omega) (by omega) dl_754 ?_
  refine lw_aload_n K (j := 2) (i := 2) (q := 2) (x := 101) rfl rfl dl_757 ?_
  refine lw_arg K (q0 := 4) (q4 := 0) (i6 := i6) (n := 1) rfl rfl (by decide) (by omega) dl_758 dl_759 dl_761 dl_762 dl_763 ?_
  refine lw_arg K (q0 := 4) (q4 := 0) (i6 := i6) (n := 2) rfl rfl (by decide) (by omega) dl_764 dl_765 dl_767 dl_768 dl_769 ?_
  refine lw_callV K (vs := [.int (xs (i6 + 1)), .int (xs (i6 + 2))]) (sk := [.int r]) cls12 (mono_ob c1.1 (oL101 I.lay)) c2 (by decide) (Nat.le_of_ble_eq_true rfl) w1599 w1600 w1601 w19 w1602 k12_iceOf rfl (Nat.le_of_ble_eq_true rfl) (by omega) (by omega) dl_770 ?_
  exact lw_same K (tgt := 1537) (by decide) dl_773 (k τ I2)
theorem case_feed {p : Program} {l : Launch} {e : Env} {s : State} {m : MethodId} {below : List Frame} {meth : Method} {c : Code} {b L : Nat} {xs : Nat → Int32} {cy dC : Nat → ClassId} {dI : Nat → Nat → Nat} {gN gU : Nat} {σ : St} {i6 : Nat} (K : LKx p s m meth c b L xs) (hj : i6 + 5 < L) (hg : gN ≤ 512 ∧ gU ≤ 3072) (I : INV σ) (k : ∀ τ, INV τ → Lw p l e s m below meth c b cy dC dI gN gU 1537 (lvS i6) [] τ) : Lw p l e s m below meth c b cy dC dI gN gU 778 (lvS i6) [] σ := by
  obtain ⟨r, σ1, τ, e1, e2, I2⟩ := feed_i I (xs (i6 + 1)) (xs (i6 + 2)) (xs (i6 + 3)) (xs (i6 + 4)) (xs (i6 + 5))
  have c1 := s11_feed _ _ _ _ _ _ _ _ _ e1
  have c2 := s12_feed _ _ _ _ _ _ _ _ _ e2
  have rm := I2.room
  have m1 := c2.1.1
  have m2 := c2.1.2.1
  refine lw_aload_n K (j := 1) (i := 1) (q := 3) (x := 1) rfl rfl dl_778 ?_
  refine lw_arg K (q0 := 4) (q4 := 0) (i6 := i6) (n := 1) rfl rfl (by decide) (by omega) dl_779 dl_780 dl_782 dl_783 dl_784 ?_
  refine lw_arg K (q0 := 4) (q4 := 0) (i6 := i6) (n := 2) rfl rfl (by decide) (by omega) dl_785 dl_786 dl_788 dl_789 dl_790 ?_
  refine lw_arg K (q0 := 4) (q4 := 0) (i6 := i6) (n := 3) rfl rfl (by decide) (by omega) dl_791 dl_792 dl_794 dl_795 dl_796 ?_
  refine lw_arg K (q0 := 4) (q4 := 0) (i6 := i6) (n := 4) rfl rfl (by decide) (by omega) dl_797 dl_798 dl_800 dl_801 dl_802 ?_
  refine lw_arg K (q0 := 4) (q4 := 0) (i6 := i6) (n := 5) rfl rfl (by decide) (by omega) dl_803 dl_804 dl_806 dl_807 dl_808 ?_
  refine lw_callV K (vs := [.int (xs (i6 + 1)), .int (xs (i6 + 2)), .int (xs (i6 + 3)), .int (xs (i6 + 4)), .int (xs (i6 + 5))]) (sk := []) cls11 (oL1 I.lay) c1 (by decide) (Nat.le_of_ble_eq_true rfl) w697 w698 w699 w1 w700 k11_feed rfl (Nat.le_of_ble_eq_true rfl) (by omega) (by omega) dl_809 ?_
  refine lw_aload_n K (j := 2) (i := 2) (q := 2) (x := 101) rfl rfl dl_812 ?_
  refine lw_arg K (q0 := 4) (q4 := 0) (i6 := i6) (n := 1) rfl rfl (by decide) (by omega) dl_813 dl_814 dl_816 dl_817 dl_818 ?_
  refine lw_arg K (q0 := 4) (q4 := 0) (i6 := i6) (n := 2) rfl rfl (by decide) (by omega) dl_819 dl_820 dl_822 dl_823 dl_824 ?_
  refine lw_arg K (q0 := 4) (q4 := 0) (i6 := i6) (n := 3) rfl rfl (by decide) (by omega) dl_825 dl_826 dl_828 dl_829 dl_830 ?_
  refine lw_arg K (q0 := 4) (q4 := 0) (i6 := i6) (n := 4) rfl rfl (by decide) (by omega) dl_831 dl_832 dl_834 dl_835 dl_836 ?_
  refine lw_arg K (q0 := 4) (q4 := 0) (i6 := i6) (n := 5) rfl rfl (by decide) (by omega) dl_837 dl_838 dl_840 dl_841 dl_842 ?_
  refine lw_callV K (vs := [.int (xs (i6 + 1)), .int (xs (i6 + 2)), .int (xs (i6 + 3)), .int (xs (i6 + 4)), .int (xs (i6 + 5))]) (sk := [.int r]) cls12 (mono_ob c1.1 (oL101 I.lay)) c2 (by decide) (Nat.le_of_ble_eq_true rfl) w1607 w1608 w1609 w19 w1610 k12_feed rfl (Nat.le_of_ble_eq_true rfl) (by omega) (by omega) dl_843 ?_
  exact lw_same K (tgt := 1537) (by decide) dl_846 (k τ I2)
theorem case_end {p : Program} {l : Launch} {e : Env} {s : State} {m : MethodId} {below : List Frame} {meth : Method} {c : Code} {b L : Nat} {xs : Nat → Int32} {cy dC : Nat → ClassId} {dI : Nat → Nat → Nat} {gN gU : Nat} {σ : St} {i6 : Nat} (K : LKx p s m meth c b L xs) (hj : i6 + 5 < L) (hg : gN ≤ 512 ∧ gU ≤ 3072) (I : INV σ) (k : ∀ τ, INV τ → Lw p l e s m below meth c b cy dC dI gN gU 1537 (lvS i6) [] τ) : Lw p l e s m below meth c b cy dC dI gN gU 851 (lvS i6) [] σ := by
  obtain ⟨r, σ1, τ, e1, e2, I2⟩ := end_i I (xs (i6 + 1))
  have c1 := s11_end _ _ _ _ _ e1
  have c2 := s12_end _ _ _ _ _ e2
  have rm := I2.room
  have m1 := c2.1.1
  have m2 := c2.1.2.1
  refine lw_aload_n K (j := 1) (i := 1) (q := 3) (x := 1) rfl rfl dl_851 ?_
  refine lw_arg K (q0 := 4) (q4 := 0) (i6 := i6) (n := 1) rfl rfl (by decide) (by omega) dl_852 dl_853 dl_855 dl_856 dl_857 ?_
  refine lw_callV K (vs := [.int (xs (i6 + 1))]) (sk := []) cls11 (oL1 I.lay) c1 (by decide) (Nat.le_of_ble_eq_true rfl) w705 w706 w707 w1 w708 k11_end rfl (Nat.le_of_ble_eq_true rfl) (by omega) (by omega) dl_858 ?_
  refine lw_aload_n K (j := 2) (i := 2) (q := 2) (x := 101) rfl rfl dl_861 ?_
  refine lw_arg K (q0 := 4) (q4 := 0) (i6 := i6) (n := 1) rfl rfl (by decide) (by omega) dl_862 dl_863 dl_865 dl_866 dl_867 ?_
  refine lw_callV K (vs := [.int (xs (i6 + 1))]) (sk := [.int r]) cls12 (mono_ob c1.1 (oL101 I.lay)) c2 (by decide) (Nat.le_of_ble_eq_true rfl) w1611 w1612 w1613 w19 w1614 k12_end rfl (Nat.le_of_ble_eq_true rfl) (by omega) (by omega) dl_868 ?_
  exact lw_same K (tgt := 1537) (by decide) dl_871 (k τ I2)
theorem case_rules {p : Program} {l : Launch} {e : Env} {s : State} {m : MethodId} {below : List Frame} {meth : Method} {c : Code} {b L : Nat} {xs : Nat → Int32} {cy dC : Nat → ClassId} {dI : Nat → Nat → Nat} {gN gU : Nat} {σ : St} {i6 : Nat} (K : LKx p s m meth c b L xs) (hj : i6 + 5 < L) (hg : gN ≤ 512 ∧ gU ≤ 3072) (I : INV σ) (k : ∀ τ, INV τ → Lw p l e s m below meth c b cy dC dI gN gU 1537 (lvS i6) [] τ) : Lw p l e s m below meth c b cy dC dI gN gU 876 (lvS i6) [] σ := by
  obtain ⟨r, σ1, τ, e1, e2, I2⟩ := rules_i I (xs (i6 + 1)) (xs (i6 + 2))
  have c1 := s11_rules _ _ _ _ _ _ e1
  have c2 := s12_rules _ _ _ _ _ _ e2
  have rm := I2.room
  have m1 := c2.1.1
  have m2 := c2.1.2.1
  refine lw_aload_n K (j := 1) (i := 1) (q := 3) (x := 1) rfl rfl dl_876 ?_
  refine lw_arg K (q0 := 4) (q4 := 0) (i6 := i6) (n := 1) rfl rfl (by decide) (by omega) dl_877 dl_878 dl_880 dl_881 dl_882 ?_
  refine lw_arg K (q0 := 4) (q4 := 0) (i6 := i6) (n := 2) rfl rfl (by decide) (by omega) dl_883 dl_884 dl_886 dl_887 dl_888 ?_
  refine lw_callV K (vs := [.int (xs (i6 + 1)), .int (xs (i6 + 2))]) (sk := []) cls11 (oL1 I.lay) c1 (by decide) (Nat.le_of_ble_eq_true rfl) w709 w710 w711 w1 w712 k11_rules rfl (Nat.le_of_ble_eq_true rfl) (by omega) (by omega) dl_889 ?_
  refine lw_aload_n K (j := 2) (i := 2) (q := 2) (x := 101) rfl rfl dl_892 ?_
  refine lw_arg K (q0 := 4) (q4 := 0) (i6 := i6) (n := 1) rfl rfl (by decide) (by omega) dl_893 dl_894 dl_896 dl_897 dl_898 ?_
  refine lw_arg K (q0 := 4) (q4 := 0) (i6 := i6) (n := 2) rfl rfl (by decide) (by omega) dl_899 dl_900 dl_902 dl_903 dl_904 ?_
  refine lw_callV K (vs := [.int (xs (i6 + 1)), .int (xs (i6 + 2))]) (sk := [.int r]) cls12 (mono_ob c1.1 (oL101 I.lay)) c2 (by decide) (Nat.le_of_ble_eq_true rfl) w1615 w1616 w1617 w19 w1618 k12_rules rfl (Nat.le_of_ble_eq_true rfl) (by omega) (by omega) dl_905 ?_
  exact lw_same K (tgt := 1537) (by decide) dl_908 (k τ I2)
theorem case_place {p : Program} {l : Launch} {e : Env} {s : State} {m : MethodId} {below : List Frame} {meth : Method} {c : Code} {b L : Nat} {xs : Nat → Int32} {cy dC : Nat → ClassId} {dI : Nat → Nat → Nat} {gN gU : Nat} {σ : St} {i6 : Nat} (K : LKx p s m meth c b L xs) (hj : i6 + 5 < L) (hg : gN ≤ 512 ∧ gU ≤ 3072) (I : INV σ) (k : ∀ τ, INV τ → Lw p l e s m below meth c b cy dC dI gN gU 1537 (lvS i6) [] τ) : Lw p l e s m below meth c b cy dC dI gN gU 913 (lvS i6) [] σ := by
  obtain ⟨r, σ1, τ, e1, e2, I2⟩ := place_i I
  have c1 := s11_place _ _ _ _ e1
  have c2 := s12_place _ _ _ _ e2
  have rm := I2.room
  have m1 := c2.1.1
  have m2 := c2.1.2.1
  refine lw_aload_n K (j := 1) (i := 1) (q := 3) (x := 1) rfl rfl dl_913 ?_
  refine lw_callV K (vs := []) (sk := []) cls11 (oL1 I.lay) c1 (by decide) (Nat.le_of_ble_eq_true rfl) w848 w849 w850 w1 w851 k11_place rfl (Nat.le_of_ble_eq_true rfl) (by omega) (by omega) dl_914 ?_
  refine lw_aload_n K (j := 2) (i := 2) (q := 2) (x := 101) rfl rfl dl_917 ?_
  refine lw_callV K (vs := []) (sk := [.int r]) cls12 (mono_ob c1.1 (oL101 I.lay)) c2 (by decide) (Nat.le_of_ble_eq_true rfl) w1746 w1747 w1748 w19 w1749 k12_place rfl (Nat.le_of_ble_eq_true rfl) (by omega) (by omega) dl_918 ?_
  exact lw_same K (tgt := 1537) (by decide) dl_921 (k τ I2)
theorem case_barred {p : Program} {l : Launch} {e : Env} {s : State} {m : MethodId} {below : List Frame} {meth : Method} {c : Code} {b L : Nat} {xs : Nat → Int32} {cy dC : Nat → ClassId} {dI : Nat → Nat → Nat} {gN gU : Nat} {σ : St} {i6 : Nat} (K : LKx p s m meth c b L xs) (hj : i6 + 5 < L) (hg : gN ≤ 512 ∧ gU ≤ 3072) (I : INV σ) (k : ∀ τ, INV τ → Lw p l e s m below meth c b cy dC dI gN gU 1537 (lvS i6) [] τ) : Lw p l e s m below meth c b cy dC dI gN gU 926 (lvS i6) [] σ := by
  obtain ⟨r, σ1, τ, e1, e2, I2⟩ := barred_i I (xs (i6 + 1)) (xs (i6 + 2)) (xs (i6 + 3)) (xs (i6 + 4))
  have c1 := s11_barred _ _ _ _ _ _ _ _ e1
  have c2 := s12_barred _ _ _ _ _ _ _ _ e2
  have rm := I2.room
  have m1 := c2.1.1
  have m2 := c2.1.2.1
  refine lw_aload_n K (j := 1) (i := 1) (q := 3) (x := 1) rfl rfl dl_926 ?_
  refine lw_arg K (q0 := 4) (q4 := 0) (i6 := i6) (n := 1) rfl rfl (by decide) (by omega) dl_927 dl_928 dl_930 dl_931 dl_932 ?_
  refine lw_arg K (q0 := 4) (q4 := 0) (i6 := i6) (n := 2) rfl rfl (by decide) (by omega) dl_933 dl_934 dl_936 dl_937 dl_938 ?_
  refine lw_arg K (q0 := 4) (q4 := 0) (i6 := i6) (n := 3) rfl rfl (by decide) (by omega) dl_939 dl_940 dl_942 dl_943 dl_944 ?_
  refine lw_arg K (q0 := 4) (q4 := 0) (i6 := i6) (n := 4) rfl rfl (by decide) (by omega) dl_945 dl_946 dl_948 dl_949 dl_950 ?_
  refine lw_callV K (vs := [.int (xs (i6 + 1)), .int (xs (i6 + 2)), .int (xs (i6 + 3)), .int (xs (i6 + 4))]) (sk := []) cls11 (oL1 I.lay) c1 (by decide) (Nat.le_of_ble_eq_true rfl) w852 w853 w854 w1 w855 k11_barred rfl (Nat.le_of_ble_eq_true rfl) (by omega) (by omega) dl_951 ?_
  refine lw_aload_n K (j := 2) (i := 2) (q := 2) (x := 101) rfl rfl dl_954 ?_
  refine lw_arg K (q0 := 4) (q4 := 0) (i6 := i6) (n := 1) rfl rfl (by decide) (by omega) dl_955 dl_956 dl_958 dl_959 dl_960 ?_
  refine lw_arg K (q0 := 4) (q4 := 0) (i6 := i6) (n := 2) rfl rfl (by decide) (by omega) dl_961 dl_962 dl_964 dl_965 dl_966 ?_
  refine lw_arg K (q0 := 4) (q4 := 0) (i6 := i6) (n := 3) rfl rfl (by decide) (by omega) dl_967 dl_968 dl_970 dl_971 dl_972 ?_
  refine lw_arg K (q0 := 4) (q4 := 0) (i6 := i6) (n := 4) rfl rfl (by decide) (by omega) dl_973 dl_974 dl_976 dl_977 dl_978 ?_
  refine lw_callV K (vs := [.int (xs (i6 + 1)), .int (xs (i6 + 2)), .int (xs (i6 + 3)), .int (xs (i6 + 4))]) (sk := [.int r]) cls12 (mono_ob c1.1 (oL101 I.lay)) c2 (by decide) (Nat.le_of_ble_eq_true rfl) w1750 w1751 w1752 w19 w1753 k12_barred rfl (Nat.le_of_ble_eq_true rfl) (by omega) (by omega) dl_979 ?_
  exact lw_same K (tgt := 1537) (by decide) dl_982 (k τ I2)
theorem case_word {p : Program} {l : Launch} {e : Env} {s : State} {m : MethodId} {below : List Frame} {meth : Method} {c : Code} {b L : Nat} {xs : Nat → Int32} {cy dC : Nat → ClassId} {dI : Nat → Nat → Nat} {gN gU : Nat} {σ : St} {i6 : Nat} (K : LKx p s m meth c b L xs) (hj : i6 + 5 < L) (hg : gN ≤ 512 ∧ gU ≤ 3072) (I : INV σ) (k : ∀ τ, INV τ → Lw p l e s m below meth c b cy dC dI gN gU 1537 (lvS i6) [] τ) : Lw p l e s m below meth c b cy dC dI gN gU 987 (lvS i6) [] σ := by
  obtain ⟨r, σ1, τ, e1, e2, I2⟩ := word_i I (xs (i6 + 1)) (xs (i6 + 2)) (xs (i6 + 3)) (xs (i6 + 4)) (xs (i6 + 5))
  have c1 := s11_word _ _ _ _ _ _ _ _ _ e1
  have c2 := s12_word _ _ _ _ _ _ _ _ _ e2
  have rm := I2.room
  have m1 := c2.1.1
  have m2 := c2.1.2.1
  refine lw_aload_n K (j := 1) (i := 1) (q := 3) (x := 1) rfl rfl dl_987 ?_
  refine lw_arg K (q0 := 4) (q4 := 0) (i6 := i6) (n := 1) rfl rfl (by decide) (by omega) dl_988 dl_989 dl_991 dl_992 dl_993 ?_
  refine lw_arg K (q0 := 4) (q4 := 0) (i6 := i6) (n := 2) rfl rfl (by decide) (by omega) dl_994 dl_995 dl_997 dl_998 dl_999 ?_
  refine lw_arg K (q0 := 4) (q4 := 0) (i6 := i6) (n := 3) rfl rfl (by decide) (by omega) dl_1000 dl_1001 dl_1003 dl_1004 dl_1005 ?_
  refine lw_arg K (q0 := 4) (q4 := 0) (i6 := i6) (n := 4) rfl rfl (by decide) (by omega) dl_1006 dl_1007 dl_1009 dl_1010 dl_1011 ?_
  refine lw_arg K (q0 := 4) (q4 := 0) (i6 := i6) (n := 5) rfl rfl (by decide) (by omega) dl_1012 dl_1013 dl_1015 dl_1016 dl_1017 ?_
  refine lw_callV K (vs := [.int (xs (i6 + 1)), .int (xs (i6 + 2)), .int (xs (i6 + 3)), .int (xs (i6 + 4)), .int (xs (i6 + 5))]) (sk := []) cls11 (oL1 I.lay) c1 (by decide) (Nat.le_of_ble_eq_true rfl) w898 w899 w900 w1 w901 k11_word rfl (Nat.le_of_ble_eq_true rfl) (by omega) (by omega) dl_1018 ?_
  refine lw_aload_n K (j := 2) (i := 2) (q := 2) (x := 101) rfl rfl dl_1021 ?_
  refine lw_arg K (q0 := 4) (q4 := 0) (i6 := i6) (n := 1) rfl rfl (by decide) (by omega) dl_1022 dl_1023 dl_1025 dl_1026 dl_1027 ?_
  refine lw_arg K (q0 := 4) (q4 := 0) (i6 := i6) (n := 2) rfl rfl (by decide) (by omega) dl_1028 dl_1029 dl_1031 dl_1032 dl_1033 ?_
  refine lw_arg K (q0 := 4) (q4 := 0) (i6 := i6) (n := 3) rfl rfl (by decide) (by omega) dl_1034 dl_1035 dl_1037 dl_1038 dl_1039 ?_
  refine lw_arg K (q0 := 4) (q4 := 0) (i6 := i6) (n := 4) rfl rfl (by decide) (by omega) dl_1040 dl_1041 dl_1043 dl_1044 dl_1045 ?_
  refine lw_arg K (q0 := 4) (q4 := 0) (i6 := i6) (n := 5) rfl rfl (by decide) (by omega) dl_1046 dl_1047 dl_1049 dl_1050 dl_1051 ?_
  refine lw_callV K (vs := [.int (xs (i6 + 1)), .int (xs (i6 + 2)), .int (xs (i6 + 3)), .int (xs (i6 + 4)), .int (xs (i6 + 5))]) (sk := [.int r]) cls12 (mono_ob c1.1 (oL101 I.lay)) c2 (by decide) (Nat.le_of_ble_eq_true rfl) w1795 w1796 w1797 w19 w1798 k12_word rfl (Nat.le_of_ble_eq_true rfl) (by omega) (by omega) dl_1052 ?_
  exact lw_same K (tgt := 1537) (by decide) dl_1055 (k τ I2)
theorem case_way {p : Program} {l : Launch} {e : Env} {s : State} {m : MethodId} {below : List Frame} {meth : Method} {c : Code} {b L : Nat} {xs : Nat → Int32} {cy dC : Nat → ClassId} {dI : Nat → Nat → Nat} {gN gU : Nat} {σ : St} {i6 : Nat} (K : LKx p s m meth c b L xs) (hj : i6 + 5 < L) (hg : gN ≤ 512 ∧ gU ≤ 3072) (I : INV σ) (k : ∀ τ, INV τ → Lw p l e s m below meth c b cy dC dI gN gU 1537 (lvS i6) [] τ) : Lw p l e s m below meth c b cy dC dI gN gU 1060 (lvS i6) [] σ := by
  obtain ⟨r, σ1, τ, e1, e2, I2⟩ := way_i I (xs (i6 + 1)) (xs (i6 + 2)) (xs (i6 + 3))
  have c1 := s11_way _ _ _ _ _ _ _ e1
  have c2 := s12_way _ _ _ _ _ _ _ e2
  have rm := I2.room
  have m1 := c2.1.1
  have m2 := c2.1.2.1
  refine lw_aload_n K (j := 1) (i := 1) (q := 3) (x := 1) rfl rfl dl_1060 ?_
  refine lw_arg K (q0 := 4) (q4 := 0) (i6 := i6) (n := 1) rfl rfl (by decide) (by omega) dl_1061 dl_1062 dl_1064 dl_1065 dl_1066 ?_
  refine lw_arg K (q0 := 4) (q4 := 0) (i6 := i6) (n := 2) rfl rfl (by decide) (by omega) dl_1067 dl_1068 dl_1070 dl_1071 dl_1072 ?_
  refine lw_arg K (q0 := 4) (q4 := 0) (i6 := i6) (n := 3) rfl rfl (by decide) (by omega) dl_1073 dl_1074 dl_1076 dl_1077 dl_1078 ?_
  refine lw_callV K (vs := [.int (xs (i6 + 1)), .int (xs (i6 + 2)), .int (xs (i6 + 3))]) (sk := []) cls11 (oL1 I.lay) c1 (by decide) (Nat.le_of_ble_eq_true rfl) w906 w907 w908 w1 w909 k11_way rfl (Nat.le_of_ble_eq_true rfl) (by omega) (by omega) dl_1079 ?_
  refine lw_aload_n K (j := 2) (i := 2) (q := 2) (x := 101) rfl rfl dl_1082 ?_
  refine lw_arg K (q0 := 4) (q4 := 0) (i6 := i6) (n := 1) rfl rfl (by decide) (by omega) dl_1083 dl_1084 dl_1086 dl_1087 dl_1088 ?_
  refine lw_arg K (q0 := 4) (q4 := 0) (i6 := i6) (n := 2) rfl rfl (by decide) (by omega) dl_1089 dl_1090 dl_1092 dl_1093 dl_1094 ?_
  refine lw_arg K (q0 := 4) (q4 := 0) (i6 := i6) (n := 3) rfl rfl (by decide) (by omega) dl_1095 dl_1096 dl_1098 dl_1099 dl_1100 ?_
  refine lw_callV K (vs := [.int (xs (i6 + 1)), .int (xs (i6 + 2)), .int (xs (i6 + 3))]) (sk := [.int r]) cls12 (mono_ob c1.1 (oL101 I.lay)) c2 (by decide) (Nat.le_of_ble_eq_true rfl) w1799 w1800 w1801 w19 w1802 k12_way rfl (Nat.le_of_ble_eq_true rfl) (by omega) (by omega) dl_1101 ?_
  exact lw_same K (tgt := 1537) (by decide) dl_1104 (k τ I2)
theorem case_kept {p : Program} {l : Launch} {e : Env} {s : State} {m : MethodId} {below : List Frame} {meth : Method} {c : Code} {b L : Nat} {xs : Nat → Int32} {cy dC : Nat → ClassId} {dI : Nat → Nat → Nat} {gN gU : Nat} {σ : St} {i6 : Nat} (K : LKx p s m meth c b L xs) (hj : i6 + 5 < L) (hg : gN ≤ 512 ∧ gU ≤ 3072) (I : INV σ) (k : ∀ τ, INV τ → Lw p l e s m below meth c b cy dC dI gN gU 1537 (lvS i6) [] τ) : Lw p l e s m below meth c b cy dC dI gN gU 1109 (lvS i6) [] σ := by
  obtain ⟨r, σ1, τ, e1, e2, I2⟩ := kept_i I (xs (i6 + 1))
  have c1 := s11_kept _ _ _ _ _ e1
  have c2 := s12_kept _ _ _ _ _ e2
  have rm := I2.room
  have m1 := c2.1.1
  have m2 := c2.1.2.1
  refine lw_aload_n K (j := 1) (i := 1) (q := 3) (x := 1) rfl rfl dl_1109 ?_
  refine lw_arg K (q0 := 4) (q4 := 0) (i6 := i6) (n := 1) rfl rfl (by decide) (by omega) dl_1110 dl_1111 dl_1113 dl_1114 dl_1115 ?_
  refine lw_callV K (vs := [.int (xs (i6 + 1))]) (sk := []) cls11 (oL1 I.lay) c1 (by decide) (Nat.le_of_ble_eq_true rfl) w923 w924 w925 w1 w926 k11_kept rfl (Nat.le_of_ble_eq_true rfl) (by omega) (by omega) dl_1116 ?_
  refine lw_aload_n K (j := 2) (i := 2) (q := 2) (x := 101) rfl rfl dl_1119 ?_
  refine lw_arg K (q0 := 4) (q4 := 0) (i6 := i6) (n := 1) rfl rfl (by decide) (by omega) dl_1120 dl_1121 dl_1123 dl_1124 dl_1125 ?_
  refine lw_callV K (vs := [.int (xs (i6 + 1))]) (sk := [.int r]) cls12 (mono_ob c1.1 (oL101 I.lay)) c2 (by decide) (Nat.le_of_ble_eq_true rfl) w1807 w1808 w1809 w19 w1810 k12_kept rfl (Nat.le_of_ble_eq_true rfl) (by omega) (by omega) dl_1126 ?_
  exact lw_same K (tgt := 1537) (by decide) dl_1129 (k τ I2)
theorem case_skiffs {p : Program} {l : Launch} {e : Env} {s : State} {m : MethodId} {below : List Frame} {meth : Method} {c : Code} {b L : Nat} {xs : Nat → Int32} {cy dC : Nat → ClassId} {dI : Nat → Nat → Nat} {gN gU : Nat} {σ : St} {i6 : Nat} (K : LKx p s m meth c b L xs) (hj : i6 + 5 < L) (hg : gN ≤ 512 ∧ gU ≤ 3072) (I : INV σ) (k : ∀ τ, INV τ → Lw p l e s m below meth c b cy dC dI gN gU 1537 (lvS i6) [] τ) : Lw p l e s m below meth c b cy dC dI gN gU 1134 (lvS i6) [] σ := by
  obtain ⟨r, σ1, τ, e1, e2, I2⟩ := skiffs_i I (xs (i6 + 1)) (xs (i6 + 2))
  have c1 := s11_skiffs _ _ _ _ _ _ e1
  have c2 := s12_skiffs _ _ _ _ _ _ e2
  have rm := I2.room
  have m1 := c2.1.1
  have m2 := c2.1.2.1
  refine lw_aload_n K (j := 1) (i := 1) (q := 3) (x := 1) rfl rfl dl_1134 ?_
  refine lw_arg K (q0 := 4) (q4 := 0) (i6 := i6) (n := 1) rfl rfl (by decide) (by omega) dl_1135 dl_1136 dl_1138 dl_1139 dl_1140 ?_
  refine lw_arg K (q0 := 4) (q4 := 0) (i6 := i6) (n := 2) rfl rfl (by decide) (by omega) dl_1141 dl_1142 dl_1144 dl_1145 dl_1146 ?_
  refine lw_callV K (vs := [.int (xs (i6 + 1)), .int (xs (i6 + 2))]) (sk := []) cls11 (oL1 I.lay) c1 (by decide) (Nat.le_of_ble_eq_true rfl) w936 w937 w938 w1 w939 k11_skiffs rfl (Nat.le_of_ble_eq_true rfl) (by omega) (by omega) dl_1147 ?_
  refine lw_aload_n K (j := 2) (i := 2) (q := 2) (x := 101) rfl rfl dl_1150 ?_
  refine lw_arg K (q0 := 4) (q4 := 0) (i6 := i6) (n := 1) rfl rfl (by decide) (by omega) dl_1151 dl_1152 dl_1154 dl_1155 dl_1156 ?_
  refine lw_arg K (q0 := 4) (q4 := 0) (i6 := i6) (n := 2) rfl rfl (by decide) (by omega) dl_1157 dl_1158 dl_1160 dl_1161 dl_1162 ?_
  refine lw_callV K (vs := [.int (xs (i6 + 1)), .int (xs (i6 + 2))]) (sk := [.int r]) cls12 (mono_ob c1.1 (oL101 I.lay)) c2 (by decide) (Nat.le_of_ble_eq_true rfl) w1819 w1820 w1821 w19 w1822 k12_skiffs rfl (Nat.le_of_ble_eq_true rfl) (by omega) (by omega) dl_1163 ?_
  exact lw_same K (tgt := 1537) (by decide) dl_1166 (k τ I2)
theorem case_order {p : Program} {l : Launch} {e : Env} {s : State} {m : MethodId} {below : List Frame} {meth : Method} {c : Code} {b L : Nat} {xs : Nat → Int32} {cy dC : Nat → ClassId} {dI : Nat → Nat → Nat} {gN gU : Nat} {σ : St} {i6 : Nat} (K : LKx p s m meth c b L xs) (hj : i6 + 5 < L) (hg : gN ≤ 512 ∧ gU ≤ 3072) (I : INV σ) (k : ∀ τ, INV τ → Lw p l e s m below meth c b cy dC dI gN gU 1537 (lvS i6) [] τ) : Lw p l e s m below meth c b cy dC dI gN gU 1171 (lvS i6) [] σ := by
  obtain ⟨r, σ1, τ, e1, e2, I2⟩ := order_i I (xs (i6 + 1)) (xs (i6 + 2))
  have c1 := s11_order _ _ _ _ _ _ e1
  have c2 := s12_order _ _ _ _ _ _ e2
  have rm := I2.room
  have m1 := c2.1.1
  have m2 := c2.1.2.1
  refine lw_aload_n K (j := 1) (i := 1) (q := 3) (x := 1) rfl rfl dl_1171 ?_
  refine lw_arg K (q0 := 4) (q4 := 0) (i6 := i6) (n := 1) rfl rfl (by decide) (by omega) dl_1172 dl_1173 dl_1175 dl_1176 dl_1177 ?_
  refine lw_arg K (q0 := 4) (q4 := 0) (i6 := i6) (n := 2) rfl rfl (by decide) (by omega) dl_1178 dl_1179 dl_1181 dl_1182 dl_1183 ?_
  refine lw_callV K (vs := [.int (xs (i6 + 1)), .int (xs (i6 + 2))]) (sk := []) cls11 (oL1 I.lay) c1 (by decide) (Nat.le_of_ble_eq_true rfl) w940 w941 w942 w1 w943 k11_order rfl (Nat.le_of_ble_eq_true rfl) (by omega) (by omega) dl_1184 ?_
  refine lw_aload_n K (j := 2) (i := 2) (q := 2) (x := 101) rfl rfl dl_1187 ?_
  refine lw_arg K (q0 := 4) (q4 := 0) (i6 := i6) (n := 1) rfl rfl (by decide) (by omega) dl_1188 dl_1189 dl_1191 dl_1192 dl_1193 ?_
  refine lw_arg K (q0 := 4) (q4 := 0) (i6 := i6) (n := 2) rfl rfl (by decide) (by omega) dl_1194 dl_1195 dl_1197 dl_1198 dl_1199 ?_
  refine lw_callV K (vs := [.int (xs (i6 + 1)), .int (xs (i6 + 2))]) (sk := [.int r]) cls12 (mono_ob c1.1 (oL101 I.lay)) c2 (by decide) (Nat.le_of_ble_eq_true rfl) w1823 w1824 w1825 w19 w1826 k12_order rfl (Nat.le_of_ble_eq_true rfl) (by omega) (by omega) dl_1200 ?_
  exact lw_same K (tgt := 1537) (by decide) dl_1203 (k τ I2)
theorem case_day {p : Program} {l : Launch} {e : Env} {s : State} {m : MethodId} {below : List Frame} {meth : Method} {c : Code} {b L : Nat} {xs : Nat → Int32} {cy dC : Nat → ClassId} {dI : Nat → Nat → Nat} {gN gU : Nat} {σ : St} {i6 : Nat} (K : LKx p s m meth c b L xs) (hj : i6 + 5 < L) (hg : gN ≤ 512 ∧ gU ≤ 3072) (I : INV σ) (k : ∀ τ, INV τ → Lw p l e s m below meth c b cy dC dI gN gU 1537 (lvS i6) [] τ) : Lw p l e s m below meth c b cy dC dI gN gU 1208 (lvS i6) [] σ := by
  obtain ⟨r, σ1, τ, e1, e2, I2⟩ := day_i I
  have c1 := s11_day _ _ _ _ e1
  have c2 := s12_day _ _ _ _ e2
  have rm := I2.room
  have m1 := c2.1.1
  have m2 := c2.1.2.1
  refine lw_aload_n K (j := 1) (i := 1) (q := 3) (x := 1) rfl rfl dl_1208 ?_
  refine lw_callV K (vs := []) (sk := []) cls11 (oL1 I.lay) c1 (by decide) (Nat.le_of_ble_eq_true rfl) w948 w949 w950 w1 w951 k11_day rfl (Nat.le_of_ble_eq_true rfl) (by omega) (by omega) dl_1209 ?_
  refine lw_aload_n K (j := 2) (i := 2) (q := 2) (x := 101) rfl rfl dl_1212 ?_
  refine lw_callV K (vs := []) (sk := [.int r]) cls12 (mono_ob c1.1 (oL101 I.lay)) c2 (by decide) (Nat.le_of_ble_eq_true rfl) w1827 w1828 w1829 w19 w1830 k12_day rfl (Nat.le_of_ble_eq_true rfl) (by omega) (by omega) dl_1213 ?_
  exact lw_same K (tgt := 1537) (by decide) dl_1216 (k τ I2)
theorem case_event {p : Program} {l : Launch} {e : Env} {s : State} {m : MethodId} {below : List Frame} {meth : Method} {c : Code} {b L : Nat} {xs : Nat → Int32} {cy dC : Nat → ClassId} {dI : Nat → Nat → Nat} {gN gU : Nat} {σ : St} {i6 : Nat} (K : LKx p s m meth c b L xs) (hj : i6 + 5 < L) (hg : gN ≤ 512 ∧ gU ≤ 3072) (I : INV σ) (k : ∀ τ, INV τ → Lw p l e s m below meth c b cy dC dI gN gU 1537 (lvS i6) [] τ) : Lw p l e s m below meth c b cy dC dI gN gU 1221 (lvS i6) [] σ := by
  obtain ⟨r, σ1, τ, e1, e2, I2⟩ := event_i I (xs (i6 + 1)) (xs (i6 + 2))
  have c1 := s11_event _ _ _ _ _ _ e1
  have c2 := s12_event _ _ _ _ _ _ e2
  have rm := I2.room
  have m1 := c2.1.1
  have m2 := c2.1.2.1
  refine lw_aload_n K (j := 1) (i := 1) (q := 3) (x := 1) rfl rfl dl_1221 ?_
  refine lw_arg K (q0 := 4) (q4 := 0) (i6 := i6) (n := 1) rfl rfl (by decide) (by omega) dl_1222 dl_1223 dl_1225 dl_1226 dl_1227 ?_
  refine lw_arg K (q0 := 4) (q4 := 0) (i6 := i6) (n := 2) rfl rfl (by decide) (by omega) dl_1228 dl_1229 dl_1231 dl_1232 dl_1233 ?_
  refine lw_callV K (vs := [.int (xs (i6 + 1)), .int (xs (i6 + 2))]) (sk := []) cls11 (oL1 I.lay) c1 (by decide) (Nat.le_of_ble_eq_true rfl) w1004 w1005 w1006 w1 w1007 k11_event rfl (Nat.le_of_ble_eq_true rfl) (by omega) (by omega) dl_1234 ?_
  refine lw_aload_n K (j := 2) (i := 2) (q := 2) (x := 101) rfl rfl dl_1237 ?_
  refine lw_arg K (q0 := 4) (q4 := 0) (i6 := i6) (n := 1) rfl rfl (by decide) (by omega) dl_1238 dl_1239 dl_1241 dl_1242 dl_1243 ?_
  refine lw_arg K (q0 := 4) (q4 := 0) (i6 := i6) (n := 2) rfl rfl (by decide) (by omega) dl_1244 dl_1245 dl_1247 dl_1248 dl_1249 ?_
  refine lw_callV K (vs := [.int (xs (i6 + 1)), .int (xs (i6 + 2))]) (sk := [.int r]) cls12 (mono_ob c1.1 (oL101 I.lay)) c2 (by decide) (Nat.le_of_ble_eq_true rfl) w1815 w1816 w1817 w19 w1818 k12_event rfl (Nat.le_of_ble_eq_true rfl) (by omega) (by omega) dl_1250 ?_
  exact lw_same K (tgt := 1537) (by decide) dl_1253 (k τ I2)
theorem case_plan {p : Program} {l : Launch} {e : Env} {s : State} {m : MethodId} {below : List Frame} {meth : Method} {c : Code} {b L : Nat} {xs : Nat → Int32} {cy dC : Nat → ClassId} {dI : Nat → Nat → Nat} {gN gU : Nat} {σ : St} {i6 : Nat} (K : LKx p s m meth c b L xs) (hj : i6 + 5 < L) (hg : gN ≤ 512 ∧ gU ≤ 3072) (I : INV σ) (k : ∀ τ, INV τ → Lw p l e s m below meth c b cy dC dI gN gU 1537 (lvS i6) [] τ) : Lw p l e s m below meth c b cy dC dI gN gU 1258 (lvS i6) [] σ := by
  obtain ⟨r, σ1, τ, e1, e2, I2⟩ := plan_i I (xs (i6 + 1)) (xs (i6 + 2)) (xs (i6 + 3)) (xs (i6 + 4))
  have c1 := s11_plan _ _ _ _ _ _ _ _ e1
  have c2 := s12_plan _ _ _ _ _ _ _ _ e2
  have rm := I2.room
  have m1 := c2.1.1
  have m2 := c2.1.2.1
  refine lw_aload_n K (j := 1) (i := 1) (q := 3) (x := 1) rfl rfl dl_1258 ?_
  refine lw_arg K (q0 := 4) (q4 := 0) (i6 := i6) (n := 1) rfl rfl (by decide) (by omega) dl_1259 dl_1260 dl_1262 dl_1263 dl_1264 ?_
  refine lw_arg K (q0 := 4) (q4 := 0) (i6 := i6) (n := 2) rfl rfl (by decide) (by omega) dl_1265 dl_1266 dl_1268 dl_1269 dl_1270 ?_
  refine lw_arg K (q0 := 4) (q4 := 0) (i6 := i6) (n := 3) rfl rfl (by decide) (by omega) dl_1271 dl_1272 dl_1274 dl_1275 dl_1276 ?_
  refine lw_arg K (q0 := 4) (q4 := 0) (i6 := i6) (n := 4) rfl rfl (by decide) (by omega) dl_1277 dl_1278 dl_1280 dl_1281 dl_1282 ?_
  refine lw_callV K (vs := [.int (xs (i6 + 1)), .int (xs (i6 + 2)), .int (xs (i6 + 3)), .int (xs (i6 + 4))]) (sk := []) cls11 (oL1 I.lay) c1 (by decide) (Nat.le_of_ble_eq_true rfl) w1012 w1013 w1014 w1 w1015 k11_plan rfl (Nat.le_of_ble_eq_true rfl) (by omega) (by omega) dl_1283 ?_
  refine lw_aload_n K (j := 2) (i := 2) (q := 2) (x := 101) rfl rfl dl_1286 ?_
  refine lw_arg K (q0 := 4) (q4 := 0) (i6 := i6) (n := 1) rfl rfl (by decide) (by omega) dl_1287 dl_1288 dl_1290 dl_1291 dl_1292 ?_
  refine lw_arg K (q0 := 4) (q4 := 0) (i6 := i6) (n := 2) rfl rfl (by decide) (by omega) dl_1293 dl_1294 dl_1296 dl_1297 dl_1298 ?_
  refine lw_arg K (q0 := 4) (q4 := 0) (i6 := i6) (n := 3) rfl rfl (by decide) (by omega) dl_1299 dl_1300 dl_1302 dl_1303 dl_1304 ?_
  refine lw_arg K (q0 := 4) (q4 := 0) (i6 := i6) (n := 4) rfl rfl (by decide) (by omega) dl_1305 dl_1306 dl_1308 dl_1309 dl_1310 ?_
  refine lw_callV K (vs := [.int (xs (i6 + 1)), .int (xs (i6 + 2)), .int (xs (i6 + 3)), .int (xs (i6 + 4))]) (sk := [.int r]) cls12 (mono_ob c1.1 (oL101 I.lay)) c2 (by decide) (Nat.le_of_ble_eq_true rfl) w1860 w1861 w1862 w19 w1863 k12_plan rfl (Nat.le_of_ble_eq_true rfl) (by omega) (by omega) dl_1311 ?_
  exact lw_same K (tgt := 1537) (by decide) dl_1314 (k τ I2)
theorem case_planned {p : Program} {l : Launch} {e : Env} {s : State} {m : MethodId} {below : List Frame} {meth : Method} {c : Code} {b L : Nat} {xs : Nat → Int32} {cy dC : Nat → ClassId} {dI : Nat → Nat → Nat} {gN gU : Nat} {σ : St} {i6 : Nat} (K : LKx p s m meth c b L xs) (hj : i6 + 5 < L) (hg : gN ≤ 512 ∧ gU ≤ 3072) (I : INV σ) (k : ∀ τ, INV τ → Lw p l e s m below meth c b cy dC dI gN gU 1537 (lvS i6) [] τ) : Lw p l e s m below meth c b cy dC dI gN gU 1319 (lvS i6) [] σ := by
  obtain ⟨r, σ1, τ, e1, e2, I2⟩ := planned_i I (xs (i6 + 1))
  have c1 := s11_planned _ _ _ _ _ e1
  have c2 := s12_planned _ _ _ _ _ e2
  have rm := I2.room
  have m1 := c2.1.1
  have m2 := c2.1.2.1
  refine lw_aload_n K (j := 1) (i := 1) (q := 3) (x := 1) rfl rfl dl_1319 ?_
  refine lw_arg K (q0 := 4) (q4 := 0) (i6 := i6) (n := 1) rfl rfl (by decide) (by omega) dl_1320 dl_1321 dl_1323 dl_1324 dl_1325 ?_
  refine lw_callV K (vs := [.int (xs (i6 + 1))]) (sk := []) cls11 (oL1 I.lay) c1 (by decide) (Nat.le_of_ble_eq_true rfl) w1076 w1077 w1078 w1 w1079 k11_planned rfl (Nat.le_of_ble_eq_true rfl) (by omega) (by omega) dl_1326 ?_
  refine lw_aload_n K (j := 2) (i := 2) (q := 2) (x := 101) rfl rfl dl_1329 ?_
  refine lw_arg K (q0 := 4) (q4 := 0) (i6 := i6) (n := 1) rfl rfl (by decide) (by omega) dl_1330 dl_1331 dl_1333 dl_1334 dl_1335 ?_
  refine lw_callV K (vs := [.int (xs (i6 + 1))]) (sk := [.int r]) cls12 (mono_ob c1.1 (oL101 I.lay)) c2 (by decide) (Nat.le_of_ble_eq_true rfl) w1880 w1881 w1882 w19 w1883 k12_planned rfl (Nat.le_of_ble_eq_true rfl) (by omega) (by omega) dl_1336 ?_
  exact lw_same K (tgt := 1537) (by decide) dl_1339 (k τ I2)
theorem case_moves {p : Program} {l : Launch} {e : Env} {s : State} {m : MethodId} {below : List Frame} {meth : Method} {c : Code} {b L : Nat} {xs : Nat → Int32} {cy dC : Nat → ClassId} {dI : Nat → Nat → Nat} {gN gU : Nat} {σ : St} {i6 : Nat} (K : LKx p s m meth c b L xs) (hj : i6 + 5 < L) (hg : gN ≤ 512 ∧ gU ≤ 3072) (I : INV σ) (k : ∀ τ, INV τ → Lw p l e s m below meth c b cy dC dI gN gU 1537 (lvS i6) [] τ) : Lw p l e s m below meth c b cy dC dI gN gU 1344 (lvS i6) [] σ := by
  obtain ⟨r, σ1, τ, e1, e2, I2⟩ := moves_i I
  have c1 := s11_moves _ _ _ _ e1
  have c2 := s12_moves _ _ _ _ e2
  have rm := I2.room
  have m1 := c2.1.1
  have m2 := c2.1.2.1
  refine lw_aload_n K (j := 1) (i := 1) (q := 3) (x := 1) rfl rfl dl_1344 ?_
  refine lw_callV K (vs := []) (sk := []) cls11 (oL1 I.lay) c1 (by decide) (Nat.le_of_ble_eq_true rfl) w1084 w1085 w1086 w1 w1087 k11_moves rfl (Nat.le_of_ble_eq_true rfl) (by omega) (by omega) dl_1345 ?_
  refine lw_aload_n K (j := 2) (i := 2) (q := 2) (x := 101) rfl rfl dl_1348 ?_
  refine lw_callV K (vs := []) (sk := [.int r]) cls12 (mono_ob c1.1 (oL101 I.lay)) c2 (by decide) (Nat.le_of_ble_eq_true rfl) w1884 w1885 w1886 w19 w1887 k12_moves rfl (Nat.le_of_ble_eq_true rfl) (by omega) (by omega) dl_1349 ?_
  exact lw_same K (tgt := 1537) (by decide) dl_1352 (k τ I2)
theorem case_move {p : Program} {l : Launch} {e : Env} {s : State} {m : MethodId} {below : List Frame} {meth : Method} {c : Code} {b L : Nat} {xs : Nat → Int32} {cy dC : Nat → ClassId} {dI : Nat → Nat → Nat} {gN gU : Nat} {σ : St} {i6 : Nat} (K : LKx p s m meth c b L xs) (hj : i6 + 5 < L) (hg : gN ≤ 512 ∧ gU ≤ 3072) (I : INV σ) (k : ∀ τ, INV τ → Lw p l e s m below meth c b cy dC dI gN gU 1537 (lvS i6) [] τ) : Lw p l e s m below meth c b cy dC dI gN gU 1357 (lvS i6) [] σ := by
  obtain ⟨r, σ1, τ, e1, e2, I2⟩ := move_i I (xs (i6 + 1)) (xs (i6 + 2))
  have c1 := s11_move _ _ _ _ _ _ e1
  have c2 := s12_move _ _ _ _ _ _ e2
  have rm := I2.room
  have m1 := c2.1.1
  have m2 := c2.1.2.1
  refine lw_aload_n K (j := 1) (i := 1) (q := 3) (x := 1) rfl rfl dl_1357 ?_
  refine lw_arg K (q0 := 4) (q4 := 0) (i6 := i6) (n := 1) rfl rfl (by decide) (by omega) dl_1358 dl_1359 dl_1361 dl_1362 dl_1363 ?_
  refine lw_arg K (q0 := 4) (q4 := 0) (i6 := i6) (n := 2) rfl rfl (by decide) (by omega) dl_1364 dl_1365 dl_1367 dl_1368 dl_1369 ?_
  refine lw_callV K (vs := [.int (xs (i6 + 1)), .int (xs (i6 + 2))]) (sk := []) cls11 (oL1 I.lay) c1 (by decide) (Nat.le_of_ble_eq_true rfl) w1123 w1124 w1125 w1 w1126 k11_move rfl (Nat.le_of_ble_eq_true rfl) (by omega) (by omega) dl_1370 ?_
  refine lw_aload_n K (j := 2) (i := 2) (q := 2) (x := 101) rfl rfl dl_1373 ?_
  refine lw_arg K (q0 := 4) (q4 := 0) (i6 := i6) (n := 1) rfl rfl (by decide) (by omega) dl_1374 dl_1375 dl_1377 dl_1378 dl_1379 ?_
  refine lw_arg K (q0 := 4) (q4 := 0) (i6 := i6) (n := 2) rfl rfl (by decide) (by omega) dl_1380 dl_1381 dl_1383 dl_1384 dl_1385 ?_
  refine lw_callV K (vs := [.int (xs (i6 + 1)), .int (xs (i6 + 2))]) (sk := [.int r]) cls12 (mono_ob c1.1 (oL101 I.lay)) c2 (by decide) (Nat.le_of_ble_eq_true rfl) w1907 w1908 w1909 w19 w1910 k12_move rfl (Nat.le_of_ble_eq_true rfl) (by omega) (by omega) dl_1386 ?_
  exact lw_same K (tgt := 1537) (by decide) dl_1389 (k τ I2)
theorem case_go {p : Program} {l : Launch} {e : Env} {s : State} {m : MethodId} {below : List Frame} {meth : Method} {c : Code} {b L : Nat} {xs : Nat → Int32} {cy dC : Nat → ClassId} {dI : Nat → Nat → Nat} {gN gU : Nat} {σ : St} {i6 : Nat} (K : LKx p s m meth c b L xs) (hj : i6 + 5 < L) (hg : gN ≤ 512 ∧ gU ≤ 3072) (I : INV σ) (k : ∀ τ, INV τ → Lw p l e s m below meth c b cy dC dI gN gU 1537 (lvS i6) [] τ) : Lw p l e s m below meth c b cy dC dI gN gU 1394 (lvS i6) [] σ := by
  obtain ⟨r, σ1, τ, e1, e2, I2⟩ := go_i I
  have c1 := s11_go _ _ _ _ e1
  have c2 := s12_go _ _ _ _ e2
  have rm := I2.room
  have m1 := c2.1.1
  have m2 := c2.1.2.1
  refine lw_aload_n K (j := 1) (i := 1) (q := 3) (x := 1) rfl rfl dl_1394 ?_
  refine lw_callV K (vs := []) (sk := []) cls11 (oL1 I.lay) c1 (by decide) (Nat.le_of_ble_eq_true rfl) w1127 w1128 w1129 w1 w1130 k11_go rfl (Nat.le_of_ble_eq_true rfl) (by omega) (by omega) dl_1395 ?_
  refine lw_aload_n K (j := 2) (i := 2) (q := 2) (x := 101) rfl rfl dl_1398 ?_
  refine lw_callV K (vs := []) (sk := [.int r]) cls12 (mono_ob c1.1 (oL101 I.lay)) c2 (by decide) (Nat.le_of_ble_eq_true rfl) w1911 w1912 w1913 w19 w1914 k12_go rfl (Nat.le_of_ble_eq_true rfl) (by omega) (by omega) dl_1399 ?_
  exact lw_same K (tgt := 1537) (by decide) dl_1402 (k τ I2)
theorem case_orderOf {p : Program} {l : Launch} {e : Env} {s : State} {m : MethodId} {below : List Frame} {meth : Method} {c : Code} {b L : Nat} {xs : Nat → Int32} {cy dC : Nat → ClassId} {dI : Nat → Nat → Nat} {gN gU : Nat} {σ : St} {i6 : Nat} (K : LKx p s m meth c b L xs) (hj : i6 + 5 < L) (hg : gN ≤ 512 ∧ gU ≤ 3072) (I : INV σ) (k : ∀ τ, INV τ → Lw p l e s m below meth c b cy dC dI gN gU 1537 (lvS i6) [] τ) : Lw p l e s m below meth c b cy dC dI gN gU 1475 (lvS i6) [] σ := by
  obtain ⟨r, σ1, τ, e1, e2, I2⟩ := orderOf_i I (xs (i6 + 1)) (xs (i6 + 2))
  have c1 := s11_orderOf _ _ _ _ _ _ e1
  have c2 := s12_orderOf _ _ _ _ _ _ e2
  have rm := I2.room
  have m1 := c2.1.1
  have m2 := c2.1.2.1
  refine lw_aload_n K (j := 1) (i := 1) (q := 3) (x := 1) rfl rfl dl_1475 ?_
  refine lw_arg K (q0 := 4) (q4 := 0) (i6 := i6) (n := 1) rfl rfl (by decide) (by omega) dl_1476 dl_1477 dl_1479 dl_1480 dl_1481 ?_
  refine lw_arg K (q0 := 4) (q4 := 0) (i6 := i6) (n := 2) rfl rfl (by decide) (by omega) dl_1482 dl_1483 dl_1485 dl_1486 dl_1487 ?_
  refine lw_callV K (vs := [.int (xs (i6 + 1)), .int (xs (i6 + 2))]) (sk := []) cls11 (oL1 I.lay) c1 (by decide) (Nat.le_of_ble_eq_true rfl) w1131 w1132 w1133 w1 w1134 k11_orderOf rfl (Nat.le_of_ble_eq_true rfl) (by omega) (by omega) dl_1488 ?_
  refine lw_aload_n K (j := 2) (i := 2) (q := 2) (x := 101) rfl rfl dl_1491 ?_
  refine lw_arg K (q0 := 4) (q4 := 0) (i6 := i6) (n := 1) rfl rfl (by decide) (by omega) dl_1492 dl_1493 dl_1495 dl_1496 dl_1497 ?_
  refine lw_arg K (q0 := 4) (q4 := 0) (i6 := i6) (n := 2) rfl rfl (by decide) (by omega) dl_1498 dl_1499 dl_1501 dl_1502 dl_1503 ?_
  refine lw_callV K (vs := [.int (xs (i6 + 1)), .int (xs (i6 + 2))]) (sk := [.int r]) cls12 (mono_ob c1.1 (oL101 I.lay)) c2 (by decide) (Nat.le_of_ble_eq_true rfl) w1919 w1920 w1921 w19 w1922 k12_orderOf rfl (Nat.le_of_ble_eq_true rfl) (by omega) (by omega) dl_1504 ?_
  exact lw_same K (tgt := 1537) (by decide) dl_1507 (k τ I2)
theorem case_count {p : Program} {l : Launch} {e : Env} {s : State} {m : MethodId} {below : List Frame} {meth : Method} {c : Code} {b L : Nat} {xs : Nat → Int32} {cy dC : Nat → ClassId} {dI : Nat → Nat → Nat} {gN gU : Nat} {σ : St} {i6 : Nat} (K : LKx p s m meth c b L xs) (hj : i6 + 5 < L) (hg : gN ≤ 512 ∧ gU ≤ 3072) (I : INV σ) (k : ∀ τ, INV τ → Lw p l e s m below meth c b cy dC dI gN gU 1537 (lvS i6) [] τ) : Lw p l e s m below meth c b cy dC dI gN gU 1512 (lvS i6) [] σ := by
  obtain ⟨r, σ1, τ, e1, e2, I2⟩ := count_i I (xs (i6 + 1))
  have c1 := s11_count _ _ _ _ _ e1
  have c2 := s12_count _ _ _ _ _ e2
  have rm := I2.room
  have m1 := c2.1.1
  have m2 := c2.1.2.1
  refine lw_aload_n K (j := 1) (i := 1) (q := 3) (x := 1) rfl rfl dl_1512 ?_
  refine lw_arg K (q0 := 4) (q4 := 0) (i6 := i6) (n := 1) rfl rfl (by decide) (by omega) dl_1513 dl_1514 dl_1516 dl_1517 dl_1518 ?_
  refine lw_callV K (vs := [.int (xs (i6 + 1))]) (sk := []) cls11 (oL1 I.lay) c1 (by decide) (Nat.le_of_ble_eq_true rfl) w1139 w1140 w1141 w1 w1142 k11_count rfl (Nat.le_of_ble_eq_true rfl) (by omega) (by omega) dl_1519 ?_
  refine lw_aload_n K (j := 2) (i := 2) (q := 2) (x := 101) rfl rfl dl_1522 ?_
  refine lw_arg K (q0 := 4) (q4 := 0) (i6 := i6) (n := 1) rfl rfl (by decide) (by omega) dl_1523 dl_1524 dl_1526 dl_1527 dl_1528 ?_
  refine lw_callV K (vs := [.int (xs (i6 + 1))]) (sk := [.int r]) cls12 (mono_ob c1.1 (oL101 I.lay)) c2 (by decide) (Nat.le_of_ble_eq_true rfl) w1923 w1924 w1925 w19 w1926 k12_count rfl (Nat.le_of_ble_eq_true rfl) (by omega) (by omega) dl_1529 ?_
  exact lw_same K (tgt := 1537) (by decide) dl_1532 (k τ I2)
