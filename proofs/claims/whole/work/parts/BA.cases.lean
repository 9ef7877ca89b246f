/-! the law's cases (written by a program) -/
/-- a cell of the script on the stack -/
theorem sc_c {X : Int → Int} {m : jM} {i k : Int} {pc : Nat} {st : List jV} {Q : Int → jM → Prop} (e : m (-2) = X) (d1 : decode cL_law pc = .ok (.aload_n 0, 1)) (d2 : decode cL_law (pc + 1) = .ok (.iload_n 3, 1)) (d3 : decode cL_law (pc + 2) = .ok (.iconst k, 1)) (d4 : decode cL_law (pc + 3) = .ok (.iadd, 1)) (d5 : decode cL_law (pc + 4) = .ok (.iaload, 1)) (k0 : 0 ≤ k ∧ k < 7) (i0 : 0 ≤ i) (i1 : i + 7 ≤ X (-1)) (n1 : X (-1) ≤ 3584) (h : G iL_law SH SH m (pc + 5) [(2, -2), (2, 0), (2, 139), (0, i)] ((0, X (i + k)) :: st) Q) : G iL_law SH SH m pc [(2, -2), (2, 0), (2, 139), (0, i)] st Q := by
  refine G_aloadn d1 rfl ?_
  refine G_iloadn d2 rfl ?_
  refine G_iconst d3 (by omega) ?_
  refine G_iadd d4 ?_
  rw [jw_id (x := i + k) (by omega) (by omega)]
  refine G_xald (n := 0) (Or.inl rfl) d5 (by omega) (by rw [e]; omega) ?_
  rw [e]
  exact h
theorem sc_b {X : Int → Int} {m : jM} {i : Int} {pc : Nat} {st : List jV} {Q : Int → jM → Prop} (e : m (-2) = X) (d1 : decode cL_law pc = .ok (.aload_n 0, 1)) (d2 : decode cL_law (pc + 1) = .ok (.iload_n 3, 1)) (d3 : decode cL_law (pc + 2) = .ok (.bipush 6, 2)) (d4 : decode cL_law (pc + 4) = .ok (.iadd, 1)) (d5 : decode cL_law (pc + 5) = .ok (.iaload, 1)) (i0 : 0 ≤ i) (i1 : i + 7 ≤ X (-1)) (n1 : X (-1) ≤ 3584) (h : G iL_law SH SH m (pc + 6) [(2, -2), (2, 0), (2, 139), (0, i)] ((0, X (i + 6)) :: st) Q) : G iL_law SH SH m pc [(2, -2), (2, 0), (2, 139), (0, i)] st Q := by
  refine G_aloadn d1 rfl ?_
  refine G_iloadn d2 rfl ?_
  refine G_bipush d3 (by decide +kernel) (by decide) ?_
  refine G_iadd d4 ?_
  rw [jw_id (x := i + 6) (by omega) (by omega)]
  refine G_xald (n := 0) (Or.inl rfl) d5 (by omega) (by rw [e]; omega) ?_
  rw [e]
  exact h
/-- the loop's next turn -/
def lwK (m : jM) (i : Int) (Q : Int → jM → Prop) : Prop := ∀ m2, Lay m2 → nx m m2 → (∀ q : Int, q < 0 → m2 q = m q) → G iL_law SH SH m2 1979 [(2, -2), (2, 0), (2, 139), (0, i)] [] Q
theorem lc_0 {m : jM} {i : Int} {Q : Int → jM → Prop} (hL : Lay m) (i0 : 0 ≤ i) (i1 : i + 7 ≤ m (-2) (-1)) (n1 : m (-2) (-1) ≤ 3584) (hX : ∀ j, -2147483648 ≤ m (-2) j ∧ m (-2) j ≤ 2147483647) (h : allI m) (hs : m 11 5 + 10000 ≤ 20000000) (K : lwK m i Q) : G iL_law SH SH m 220 [(2, -2), (2, 0), (2, 139), (0, i)] [] Q := by
  refine G_aloadn (pc := 220) dL_law_220 rfl ?_
  refine sc_c (X := m (-2)) (k := 1) (pc := 221) rfl dL_law_221 dL_law_222 dL_law_223 dL_law_224 dL_law_225 (by decide) i0 i1 n1 ?_
  refine sc_c (X := m (-2)) (k := 2) (pc := 226) rfl dL_law_226 dL_law_227 dL_law_228 dL_law_229 dL_law_230 (by decide) i0 i1 n1 ?_
  refine sc_c (X := m (-2)) (k := 3) (pc := 231) rfl dL_law_231 dL_law_232 dL_law_233 dL_law_234 dL_law_235 (by decide) i0 i1 n1 ?_
  refine sc_c (X := m (-2)) (k := 4) (pc := 236) rfl dL_law_236 dL_law_237 dL_law_238 dL_law_239 dL_law_240 (by decide) i0 i1 n1 ?_
  refine sc_c (X := m (-2)) (k := 5) (pc := 241) rfl dL_law_241 dL_law_242 dL_law_243 dL_law_244 dL_law_245 (by decide) i0 i1 n1 ?_
  refine G_callV (pc := 246) [(0, m (-2) (i + 1)), (0, m (-2) (i + 2)), (0, m (-2) (i + 3)), (0, m (-2) (i + 4)), (0, m (-2) (i + 5))] [] dL_law_246 cv_L_13 rfl (Nat.le_of_ble_eq_true rfl) rfl (ci := 10) rfl at_0 rfl (Nat.le_of_ble_eq_true rfl) (Nat.le_refl _) (Nat.le_refl _) (M_mono (L_feed hL h hs hL) (fun r m1 g hn => ?_))
  obtain ⟨hL1, g1⟩ := g
  have e1 := hn (-2) (by decide)
  refine G_aloadn (pc := 249) dL_law_249 rfl ?_
  refine sc_c (X := m (-2)) (k := 1) (pc := 250) e1 dL_law_250 dL_law_251 dL_law_252 dL_law_253 dL_law_254 (by decide) i0 i1 n1 ?_
  refine sc_c (X := m (-2)) (k := 2) (pc := 255) e1 dL_law_255 dL_law_256 dL_law_257 dL_law_258 dL_law_259 (by decide) i0 i1 n1 ?_
  refine sc_c (X := m (-2)) (k := 3) (pc := 260) e1 dL_law_260 dL_law_261 dL_law_262 dL_law_263 dL_law_264 (by decide) i0 i1 n1 ?_
  refine sc_c (X := m (-2)) (k := 4) (pc := 265) e1 dL_law_265 dL_law_266 dL_law_267 dL_law_268 dL_law_269 (by decide) i0 i1 n1 ?_
  refine sc_c (X := m (-2)) (k := 5) (pc := 270) e1 dL_law_270 dL_law_271 dL_law_272 dL_law_273 dL_law_274 (by decide) i0 i1 n1 ?_
  refine G_callV (pc := 275) [(0, m (-2) (i + 1)), (0, m (-2) (i + 2)), (0, m (-2) (i + 3)), (0, m (-2) (i + 4)), (0, m (-2) (i + 5))] [(0, r)] dL_law_275 cv_L_17 rfl (Nat.le_of_ble_eq_true rfl) rfl (ci := 11) rfl at_139 rfl (Nat.le_of_ble_eq_true rfl) (Nat.le_refl _) (Nat.le_refl _) (M_mono (g1 hL1) (fun r2 m2 g2 hn2 => ?_))
  obtain ⟨hL2, er, hk⟩ := g2
  exact G_icmp_eq (pc := 278) 1979 dL_law_278 rfl (fun _ => K m2 hL2 hk (fun q hq => (hn2 q hq).trans (hn q hq))) (fun c => absurd er c)
theorem lc_1 {m : jM} {i : Int} {Q : Int → jM → Prop} (hL : Lay m) (i0 : 0 ≤ i) (i1 : i + 7 ≤ m (-2) (-1)) (n1 : m (-2) (-1) ≤ 3584) (hX : ∀ j, -2147483648 ≤ m (-2) j ∧ m (-2) j ≤ 2147483647) (h : allI m) (hs : m 11 5 + 10000 ≤ 20000000) (K : lwK m i Q) : G iL_law SH SH m 283 [(2, -2), (2, 0), (2, 139), (0, i)] [] Q := by
  refine G_aloadn (pc := 283) dL_law_283 rfl ?_
  refine sc_c (X := m (-2)) (k := 1) (pc := 284) rfl dL_law_284 dL_law_285 dL_law_286 dL_law_287 dL_law_288 (by decide) i0 i1 n1 ?_
  refine G_callV (pc := 289) [(0, m (-2) (i + 1))] [] dL_law_289 cv_L_18 rfl (Nat.le_of_ble_eq_true rfl) rfl (ci := 10) rfl at_0 rfl (Nat.le_of_ble_eq_true rfl) (Nat.le_refl _) (Nat.le_refl _) (M_mono (L_back hL h hs hL) (fun r m1 g hn => ?_))
  obtain ⟨hL1, g1⟩ := g
  have e1 := hn (-2) (by decide)
  refine G_aloadn (pc := 292) dL_law_292 rfl ?_
  refine sc_c (X := m (-2)) (k := 1) (pc := 293) e1 dL_law_293 dL_law_294 dL_law_295 dL_law_296 dL_law_297 (by decide) i0 i1 n1 ?_
  refine G_callV (pc := 298) [(0, m (-2) (i + 1))] [(0, r)] dL_law_298 cv_L_22 rfl (Nat.le_of_ble_eq_true rfl) rfl (ci := 11) rfl at_139 rfl (Nat.le_of_ble_eq_true rfl) (Nat.le_refl _) (Nat.le_refl _) (M_mono (g1 hL1) (fun r2 m2 g2 hn2 => ?_))
  obtain ⟨hL2, er, hk⟩ := g2
  exact G_icmp_eq (pc := 301) 1979 dL_law_301 rfl (fun _ => K m2 hL2 hk (fun q hq => (hn2 q hq).trans (hn q hq))) (fun c => absurd er c)
theorem lc_2 {m : jM} {i : Int} {Q : Int → jM → Prop} (hL : Lay m) (i0 : 0 ≤ i) (i1 : i + 7 ≤ m (-2) (-1)) (n1 : m (-2) (-1) ≤ 3584) (hX : ∀ j, -2147483648 ≤ m (-2) j ∧ m (-2) j ≤ 2147483647) (h : allI m) (hs : m 11 5 + 10000 ≤ 20000000) (K : lwK m i Q) : G iL_law SH SH m 306 [(2, -2), (2, 0), (2, 139), (0, i)] [] Q := by
  refine G_aloadn (pc := 306) dL_law_306 rfl ?_
  refine sc_c (X := m (-2)) (k := 1) (pc := 307) rfl dL_law_307 dL_law_308 dL_law_309 dL_law_310 dL_law_311 (by decide) i0 i1 n1 ?_
  refine G_callV (pc := 312) [(0, m (-2) (i + 1))] [] dL_law_312 cv_L_23 rfl (Nat.le_of_ble_eq_true rfl) rfl (ci := 10) rfl at_0 rfl (Nat.le_of_ble_eq_true rfl) (Nat.le_refl _) (Nat.le_refl _) (M_mono (L_read hL h hs hL) (fun r m1 g hn => ?_))
  obtain ⟨hL1, g1⟩ := g
  have e1 := hn (-2) (by decide)
  refine G_aloadn (pc := 315) dL_law_315 rfl ?_
  refine sc_c (X := m (-2)) (k := 1) (pc := 316) e1 dL_law_316 dL_law_317 dL_law_318 dL_law_319 dL_law_320 (by decide) i0 i1 n1 ?_
  refine G_callV (pc := 321) [(0, m (-2) (i + 1))] [(0, r)] dL_law_321 cv_L_26 rfl (Nat.le_of_ble_eq_true rfl) rfl (ci := 11) rfl at_139 rfl (Nat.le_of_ble_eq_true rfl) (Nat.le_refl _) (Nat.le_refl _) (M_mono (g1 hL1) (fun r2 m2 g2 hn2 => ?_))
  obtain ⟨hL2, er, hk⟩ := g2
  exact G_icmp_eq (pc := 324) 1979 dL_law_324 rfl (fun _ => K m2 hL2 hk (fun q hq => (hn2 q hq).trans (hn q hq))) (fun c => absurd er c)
theorem lc_3 {m : jM} {i : Int} {Q : Int → jM → Prop} (hL : Lay m) (i0 : 0 ≤ i) (i1 : i + 7 ≤ m (-2) (-1)) (n1 : m (-2) (-1) ≤ 3584) (hX : ∀ j, -2147483648 ≤ m (-2) j ∧ m (-2) j ≤ 2147483647) (h : allI m) (hs : m 11 5 + 10000 ≤ 20000000) (K : lwK m i Q) : G iL_law SH SH m 329 [(2, -2), (2, 0), (2, 139), (0, i)] [] Q := by
  refine G_aloadn (pc := 329) dL_law_329 rfl ?_
  refine G_callV (pc := 330) [] [] dL_law_330 cv_L_27 rfl (Nat.le_of_ble_eq_true rfl) rfl (ci := 10) rfl at_0 rfl (Nat.le_of_ble_eq_true rfl) (Nat.le_refl _) (Nat.le_refl _) (M_mono (L_place hL h hs hL) (fun r m1 g hn => ?_))
  obtain ⟨hL1, g1⟩ := g
  have e1 := hn (-2) (by decide)
  refine G_aloadn (pc := 333) dL_law_333 rfl ?_
  refine G_callV (pc := 334) [] [(0, r)] dL_law_334 cv_L_31 rfl (Nat.le_of_ble_eq_true rfl) rfl (ci := 11) rfl at_139 rfl (Nat.le_of_ble_eq_true rfl) (Nat.le_refl _) (Nat.le_refl _) (M_mono (g1 hL1) (fun r2 m2 g2 hn2 => ?_))
  obtain ⟨hL2, er, hk⟩ := g2
  exact G_icmp_eq (pc := 337) 1979 dL_law_337 rfl (fun _ => K m2 hL2 hk (fun q hq => (hn2 q hq).trans (hn q hq))) (fun c => absurd er c)
theorem lc_4 {m : jM} {i : Int} {Q : Int → jM → Prop} (hL : Lay m) (i0 : 0 ≤ i) (i1 : i + 7 ≤ m (-2) (-1)) (n1 : m (-2) (-1) ≤ 3584) (hX : ∀ j, -2147483648 ≤ m (-2) j ∧ m (-2) j ≤ 2147483647) (h : allI m) (hs : m 11 5 + 10000 ≤ 20000000) (K : lwK m i Q) : G iL_law SH SH m 342 [(2, -2), (2, 0), (2, 139), (0, i)] [] Q := by
  refine G_aloadn (pc := 342) dL_law_342 rfl ?_
  refine sc_c (X := m (-2)) (k := 1) (pc := 343) rfl dL_law_343 dL_law_344 dL_law_345 dL_law_346 dL_law_347 (by decide) i0 i1 n1 ?_
  refine sc_c (X := m (-2)) (k := 2) (pc := 348) rfl dL_law_348 dL_law_349 dL_law_350 dL_law_351 dL_law_352 (by decide) i0 i1 n1 ?_
  refine sc_c (X := m (-2)) (k := 3) (pc := 353) rfl dL_law_353 dL_law_354 dL_law_355 dL_law_356 dL_law_357 (by decide) i0 i1 n1 ?_
  refine sc_c (X := m (-2)) (k := 4) (pc := 358) rfl dL_law_358 dL_law_359 dL_law_360 dL_law_361 dL_law_362 (by decide) i0 i1 n1 ?_
  refine G_callV (pc := 363) [(0, m (-2) (i + 1)), (0, m (-2) (i + 2)), (0, m (-2) (i + 3)), (0, m (-2) (i + 4))] [] dL_law_363 cv_L_32 rfl (Nat.le_of_ble_eq_true rfl) rfl (ci := 10) rfl at_0 rfl (Nat.le_of_ble_eq_true rfl) (Nat.le_refl _) (Nat.le_refl _) (M_mono (L_child hL h hs hL) (fun r m1 g hn => ?_))
  obtain ⟨hL1, g1⟩ := g
  have e1 := hn (-2) (by decide)
  refine G_aloadn (pc := 366) dL_law_366 rfl ?_
  refine sc_c (X := m (-2)) (k := 1) (pc := 367) e1 dL_law_367 dL_law_368 dL_law_369 dL_law_370 dL_law_371 (by decide) i0 i1 n1 ?_
  refine sc_c (X := m (-2)) (k := 2) (pc := 372) e1 dL_law_372 dL_law_373 dL_law_374 dL_law_375 dL_law_376 (by decide) i0 i1 n1 ?_
  refine sc_c (X := m (-2)) (k := 3) (pc := 377) e1 dL_law_377 dL_law_378 dL_law_379 dL_law_380 dL_law_381 (by decide) i0 i1 n1 ?_
  refine sc_c (X := m (-2)) (k := 4) (pc := 382) e1 dL_law_382 dL_law_383 dL_law_384 dL_law_385 dL_law_386 (by decide) i0 i1 n1 ?_
  refine G_callV (pc := 387) [(0, m (-2) (i + 1)), (0, m (-2) (i + 2)), (0, m (-2) (i + 3)), (0, m (-2) (i + 4))] [(0, r)] dL_law_387 cv_L_36 rfl (Nat.le_of_ble_eq_true rfl) rfl (ci := 11) rfl at_139 rfl (Nat.le_of_ble_eq_true rfl) (Nat.le_refl _) (Nat.le_refl _) (M_mono (g1 hL1) (fun r2 m2 g2 hn2 => ?_))
  obtain ⟨hL2, er, hk⟩ := g2
  exact G_icmp_eq (pc := 390) 1979 dL_law_390 rfl (fun _ => K m2 hL2 hk (fun q hq => (hn2 q hq).trans (hn q hq))) (fun c => absurd er c)
theorem lc_5_0 {m : jM} {i : Int} {Q : Int → jM → Prop} (hL : Lay m) (i0 : 0 ≤ i) (i1 : i + 7 ≤ m (-2) (-1)) (n1 : m (-2) (-1) ≤ 3584) (hX : ∀ j, -2147483648 ≤ m (-2) j ∧ m (-2) j ≤ 2147483647) (h : allI m) (hs : m 11 5 + 10000 ≤ 20000000) (z : m (-2) (i + 4) = 0) (K : lwK m i Q) : G iL_law SH SH m 395 [(2, -2), (2, 0), (2, 139), (0, i)] [] Q := by
  refine G_aloadn (pc := 395) dL_law_395 rfl ?_
  refine sc_c (X := m (-2)) (k := 1) (pc := 396) rfl dL_law_396 dL_law_397 dL_law_398 dL_law_399 dL_law_400 (by decide) i0 i1 n1 ?_
  refine sc_c (X := m (-2)) (k := 2) (pc := 401) rfl dL_law_401 dL_law_402 dL_law_403 dL_law_404 dL_law_405 (by decide) i0 i1 n1 ?_
  refine sc_c (X := m (-2)) (k := 3) (pc := 406) rfl dL_law_406 dL_law_407 dL_law_408 dL_law_409 dL_law_410 (by decide) i0 i1 n1 ?_
  refine sc_c (X := m (-2)) (k := 4) (pc := 411) rfl dL_law_411 dL_law_412 dL_law_413 dL_law_414 dL_law_415 (by decide) i0 i1 n1 ?_
  refine G_if_eq (pc := 416) 423 dL_law_416 rfl (fun _ => ?_) (fun c => absurd z c)
  refine G_iconst (pc := 423) dL_law_423 (by decide) ?_
  refine G_callV (pc := 424) [(0, m (-2) (i + 1)), (0, m (-2) (i + 2)), (0, m (-2) (i + 3)), (0, 0)] [] dL_law_424 cv_L_37 rfl (Nat.le_of_ble_eq_true rfl) rfl (ci := 10) rfl at_0 rfl (Nat.le_of_ble_eq_true rfl) (Nat.le_refl _) (Nat.le_refl _) (M_mono (L_move hL h hs hL) (fun r m1 g hn => ?_))
  obtain ⟨hL1, g1⟩ := g
  have e1 := hn (-2) (by decide)
  refine G_aloadn (pc := 427) dL_law_427 rfl ?_
  refine sc_c (X := m (-2)) (k := 1) (pc := 428) e1 dL_law_428 dL_law_429 dL_law_430 dL_law_431 dL_law_432 (by decide) i0 i1 n1 ?_
  refine sc_c (X := m (-2)) (k := 2) (pc := 433) e1 dL_law_433 dL_law_434 dL_law_435 dL_law_436 dL_law_437 (by decide) i0 i1 n1 ?_
  refine sc_c (X := m (-2)) (k := 3) (pc := 438) e1 dL_law_438 dL_law_439 dL_law_440 dL_law_441 dL_law_442 (by decide) i0 i1 n1 ?_
  refine sc_c (X := m (-2)) (k := 4) (pc := 443) e1 dL_law_443 dL_law_444 dL_law_445 dL_law_446 dL_law_447 (by decide) i0 i1 n1 ?_
  refine G_if_eq (pc := 448) 455 dL_law_448 rfl (fun _ => ?_) (fun c => absurd z c)
  refine G_iconst (pc := 455) dL_law_455 (by decide) ?_
  refine G_callV (pc := 456) [(0, m (-2) (i + 1)), (0, m (-2) (i + 2)), (0, m (-2) (i + 3)), (0, 0)] [(0, r)] dL_law_456 cv_L_41 rfl (Nat.le_of_ble_eq_true rfl) rfl (ci := 11) rfl at_139 rfl (Nat.le_of_ble_eq_true rfl) (Nat.le_refl _) (Nat.le_refl _) (M_mono (g1 hL1) (fun r2 m2 g2 hn2 => ?_))
  obtain ⟨hL2, er, hk⟩ := g2
  exact G_icmp_eq (pc := 459) 1979 dL_law_459 rfl (fun _ => K m2 hL2 hk (fun q hq => (hn2 q hq).trans (hn q hq))) (fun c => absurd er c)
theorem lc_5_1 {m : jM} {i : Int} {Q : Int → jM → Prop} (hL : Lay m) (i0 : 0 ≤ i) (i1 : i + 7 ≤ m (-2) (-1)) (n1 : m (-2) (-1) ≤ 3584) (hX : ∀ j, -2147483648 ≤ m (-2) j ∧ m (-2) j ≤ 2147483647) (h : allI m) (hs : m 11 5 + 10000 ≤ 20000000) (z : ¬ m (-2) (i + 4) = 0) (K : lwK m i Q) : G iL_law SH SH m 395 [(2, -2), (2, 0), (2, 139), (0, i)] [] Q := by
  refine G_aloadn (pc := 395) dL_law_395 rfl ?_
  refine sc_c (X := m (-2)) (k := 1) (pc := 396) rfl dL_law_396 dL_law_397 dL_law_398 dL_law_399 dL_law_400 (by decide) i0 i1 n1 ?_
  refine sc_c (X := m (-2)) (k := 2) (pc := 401) rfl dL_law_401 dL_law_402 dL_law_403 dL_law_404 dL_law_405 (by decide) i0 i1 n1 ?_
  refine sc_c (X := m (-2)) (k := 3) (pc := 406) rfl dL_law_406 dL_law_407 dL_law_408 dL_law_409 dL_law_410 (by decide) i0 i1 n1 ?_
  refine sc_c (X := m (-2)) (k := 4) (pc := 411) rfl dL_law_411 dL_law_412 dL_law_413 dL_law_414 dL_law_415 (by decide) i0 i1 n1 ?_
  refine G_if_eq (pc := 416) 423 dL_law_416 rfl (fun c => absurd c z) (fun _ => ?_)
  refine G_iconst (pc := 419) dL_law_419 (by decide) ?_
  refine G_goto (pc := 420) 424 dL_law_420 rfl ?_
  refine G_callV (pc := 424) [(0, m (-2) (i + 1)), (0, m (-2) (i + 2)), (0, m (-2) (i + 3)), (0, 1)] [] dL_law_424 cv_L_37 rfl (Nat.le_of_ble_eq_true rfl) rfl (ci := 10) rfl at_0 rfl (Nat.le_of_ble_eq_true rfl) (Nat.le_refl _) (Nat.le_refl _) (M_mono (L_move hL h hs hL) (fun r m1 g hn => ?_))
  obtain ⟨hL1, g1⟩ := g
  have e1 := hn (-2) (by decide)
  refine G_aloadn (pc := 427) dL_law_427 rfl ?_
  refine sc_c (X := m (-2)) (k := 1) (pc := 428) e1 dL_law_428 dL_law_429 dL_law_430 dL_law_431 dL_law_432 (by decide) i0 i1 n1 ?_
  refine sc_c (X := m (-2)) (k := 2) (pc := 433) e1 dL_law_433 dL_law_434 dL_law_435 dL_law_436 dL_law_437 (by decide) i0 i1 n1 ?_
  refine sc_c (X := m (-2)) (k := 3) (pc := 438) e1 dL_law_438 dL_law_439 dL_law_440 dL_law_441 dL_law_442 (by decide) i0 i1 n1 ?_
  refine sc_c (X := m (-2)) (k := 4) (pc := 443) e1 dL_law_443 dL_law_444 dL_law_445 dL_law_446 dL_law_447 (by decide) i0 i1 n1 ?_
  refine G_if_eq (pc := 448) 455 dL_law_448 rfl (fun c => absurd c z) (fun _ => ?_)
  refine G_iconst (pc := 451) dL_law_451 (by decide) ?_
  refine G_goto (pc := 452) 456 dL_law_452 rfl ?_
  refine G_callV (pc := 456) [(0, m (-2) (i + 1)), (0, m (-2) (i + 2)), (0, m (-2) (i + 3)), (0, 1)] [(0, r)] dL_law_456 cv_L_41 rfl (Nat.le_of_ble_eq_true rfl) rfl (ci := 11) rfl at_139 rfl (Nat.le_of_ble_eq_true rfl) (Nat.le_refl _) (Nat.le_refl _) (M_mono (g1 hL1) (fun r2 m2 g2 hn2 => ?_))
  obtain ⟨hL2, er, hk⟩ := g2
  exact G_icmp_eq (pc := 459) 1979 dL_law_459 rfl (fun _ => K m2 hL2 hk (fun q hq => (hn2 q hq).trans (hn q hq))) (fun c => absurd er c)
theorem lc_5 {m : jM} {i : Int} {Q : Int → jM → Prop} (hL : Lay m) (i0 : 0 ≤ i) (i1 : i + 7 ≤ m (-2) (-1)) (n1 : m (-2) (-1) ≤ 3584) (hX : ∀ j, -2147483648 ≤ m (-2) j ∧ m (-2) j ≤ 2147483647) (h : allI m) (hs : m 11 5 + 10000 ≤ 20000000) (K : lwK m i Q) : G iL_law SH SH m 395 [(2, -2), (2, 0), (2, 139), (0, i)] [] Q := by
  by_cases z : m (-2) (i + 4) = 0
  · exact lc_5_0 hL i0 i1 n1 hX h hs z K
  · exact lc_5_1 hL i0 i1 n1 hX h hs z K
theorem lc_6 {m : jM} {i : Int} {Q : Int → jM → Prop} (hL : Lay m) (i0 : 0 ≤ i) (i1 : i + 7 ≤ m (-2) (-1)) (n1 : m (-2) (-1) ≤ 3584) (hX : ∀ j, -2147483648 ≤ m (-2) j ∧ m (-2) j ≤ 2147483647) (h : allI m) (hs : m 11 5 + 10000 ≤ 20000000) (K : lwK m i Q) : G iL_law SH SH m 464 [(2, -2), (2, 0), (2, 139), (0, i)] [] Q := by
  refine G_aloadn (pc := 464) dL_law_464 rfl ?_
  refine sc_c (X := m (-2)) (k := 1) (pc := 465) rfl dL_law_465 dL_law_466 dL_law_467 dL_law_468 dL_law_469 (by decide) i0 i1 n1 ?_
  refine sc_c (X := m (-2)) (k := 2) (pc := 470) rfl dL_law_470 dL_law_471 dL_law_472 dL_law_473 dL_law_474 (by decide) i0 i1 n1 ?_
  refine sc_c (X := m (-2)) (k := 3) (pc := 475) rfl dL_law_475 dL_law_476 dL_law_477 dL_law_478 dL_law_479 (by decide) i0 i1 n1 ?_
  refine G_callV (pc := 480) [(0, m (-2) (i + 1)), (0, m (-2) (i + 2)), (0, m (-2) (i + 3))] [] dL_law_480 cv_L_42 rfl (Nat.le_of_ble_eq_true rfl) rfl (ci := 10) rfl at_0 rfl (Nat.le_of_ble_eq_true rfl) (Nat.le_refl _) (Nat.le_refl _) (M_mono (L_shut hL h hs hL) (fun r m1 g hn => ?_))
  obtain ⟨hL1, g1⟩ := g
  have e1 := hn (-2) (by decide)
  refine G_aloadn (pc := 483) dL_law_483 rfl ?_
  refine sc_c (X := m (-2)) (k := 1) (pc := 484) e1 dL_law_484 dL_law_485 dL_law_486 dL_law_487 dL_law_488 (by decide) i0 i1 n1 ?_
  refine sc_c (X := m (-2)) (k := 2) (pc := 489) e1 dL_law_489 dL_law_490 dL_law_491 dL_law_492 dL_law_493 (by decide) i0 i1 n1 ?_
  refine sc_c (X := m (-2)) (k := 3) (pc := 494) e1 dL_law_494 dL_law_495 dL_law_496 dL_law_497 dL_law_498 (by decide) i0 i1 n1 ?_
  refine G_callV (pc := 499) [(0, m (-2) (i + 1)), (0, m (-2) (i + 2)), (0, m (-2) (i + 3))] [(0, r)] dL_law_499 cv_L_46 rfl (Nat.le_of_ble_eq_true rfl) rfl (ci := 11) rfl at_139 rfl (Nat.le_of_ble_eq_true rfl) (Nat.le_refl _) (Nat.le_refl _) (M_mono (g1 hL1) (fun r2 m2 g2 hn2 => ?_))
  obtain ⟨hL2, er, hk⟩ := g2
  exact G_icmp_eq (pc := 502) 1979 dL_law_502 rfl (fun _ => K m2 hL2 hk (fun q hq => (hn2 q hq).trans (hn q hq))) (fun c => absurd er c)
theorem lc_7 {m : jM} {i : Int} {Q : Int → jM → Prop} (hL : Lay m) (i0 : 0 ≤ i) (i1 : i + 7 ≤ m (-2) (-1)) (n1 : m (-2) (-1) ≤ 3584) (hX : ∀ j, -2147483648 ≤ m (-2) j ∧ m (-2) j ≤ 2147483647) (h : allI m) (hs : m 11 5 + 10000 ≤ 20000000) (K : lwK m i Q) : G iL_law SH SH m 507 [(2, -2), (2, 0), (2, 139), (0, i)] [] Q := by
  refine G_aloadn (pc := 507) dL_law_507 rfl ?_
  refine sc_c (X := m (-2)) (k := 1) (pc := 508) rfl dL_law_508 dL_law_509 dL_law_510 dL_law_511 dL_law_512 (by decide) i0 i1 n1 ?_
  refine sc_c (X := m (-2)) (k := 2) (pc := 513) rfl dL_law_513 dL_law_514 dL_law_515 dL_law_516 dL_law_517 (by decide) i0 i1 n1 ?_
  refine G_callV (pc := 518) [(0, m (-2) (i + 1)), (0, m (-2) (i + 2))] [] dL_law_518 cv_L_47 rfl (Nat.le_of_ble_eq_true rfl) rfl (ci := 10) rfl at_0 rfl (Nat.le_of_ble_eq_true rfl) (Nat.le_refl _) (Nat.le_refl _) (M_mono (L_part hL h hs hL) (fun r m1 g hn => ?_))
  obtain ⟨hL1, g1⟩ := g
  have e1 := hn (-2) (by decide)
  refine G_aloadn (pc := 521) dL_law_521 rfl ?_
  refine sc_c (X := m (-2)) (k := 1) (pc := 522) e1 dL_law_522 dL_law_523 dL_law_524 dL_law_525 dL_law_526 (by decide) i0 i1 n1 ?_
  refine sc_c (X := m (-2)) (k := 2) (pc := 527) e1 dL_law_527 dL_law_528 dL_law_529 dL_law_530 dL_law_531 (by decide) i0 i1 n1 ?_
  refine G_callV (pc := 532) [(0, m (-2) (i + 1)), (0, m (-2) (i + 2))] [(0, r)] dL_law_532 cv_L_51 rfl (Nat.le_of_ble_eq_true rfl) rfl (ci := 11) rfl at_139 rfl (Nat.le_of_ble_eq_true rfl) (Nat.le_refl _) (Nat.le_refl _) (M_mono (g1 hL1) (fun r2 m2 g2 hn2 => ?_))
  obtain ⟨hL2, er, hk⟩ := g2
  exact G_icmp_eq (pc := 535) 1979 dL_law_535 rfl (fun _ => K m2 hL2 hk (fun q hq => (hn2 q hq).trans (hn q hq))) (fun c => absurd er c)
theorem lc_8 {m : jM} {i : Int} {Q : Int → jM → Prop} (hL : Lay m) (i0 : 0 ≤ i) (i1 : i + 7 ≤ m (-2) (-1)) (n1 : m (-2) (-1) ≤ 3584) (hX : ∀ j, -2147483648 ≤ m (-2) j ∧ m (-2) j ≤ 2147483647) (h : allI m) (hs : m 11 5 + 10000 ≤ 20000000) (K : lwK m i Q) : G iL_law SH SH m 540 [(2, -2), (2, 0), (2, 139), (0, i)] [] Q := by
  refine G_aloadn (pc := 540) dL_law_540 rfl ?_
  refine sc_c (X := m (-2)) (k := 1) (pc := 541) rfl dL_law_541 dL_law_542 dL_law_543 dL_law_544 dL_law_545 (by decide) i0 i1 n1 ?_
  refine sc_c (X := m (-2)) (k := 2) (pc := 546) rfl dL_law_546 dL_law_547 dL_law_548 dL_law_549 dL_law_550 (by decide) i0 i1 n1 ?_
  refine sc_c (X := m (-2)) (k := 3) (pc := 551) rfl dL_law_551 dL_law_552 dL_law_553 dL_law_554 dL_law_555 (by decide) i0 i1 n1 ?_
  refine sc_c (X := m (-2)) (k := 4) (pc := 556) rfl dL_law_556 dL_law_557 dL_law_558 dL_law_559 dL_law_560 (by decide) i0 i1 n1 ?_
  refine G_callV (pc := 561) [(0, m (-2) (i + 1)), (0, m (-2) (i + 2)), (0, m (-2) (i + 3)), (0, m (-2) (i + 4))] [] dL_law_561 cv_L_52 rfl (Nat.le_of_ble_eq_true rfl) rfl (ci := 10) rfl at_0 rfl (Nat.le_of_ble_eq_true rfl) (Nat.le_refl _) (Nat.le_refl _) (M_mono (L_tap hL h hs hL) (fun r m1 g hn => ?_))
  obtain ⟨hL1, g1⟩ := g
  have e1 := hn (-2) (by decide)
  refine G_aloadn (pc := 564) dL_law_564 rfl ?_
  refine sc_c (X := m (-2)) (k := 1) (pc := 565) e1 dL_law_565 dL_law_566 dL_law_567 dL_law_568 dL_law_569 (by decide) i0 i1 n1 ?_
  refine sc_c (X := m (-2)) (k := 2) (pc := 570) e1 dL_law_570 dL_law_571 dL_law_572 dL_law_573 dL_law_574 (by decide) i0 i1 n1 ?_
  refine sc_c (X := m (-2)) (k := 3) (pc := 575) e1 dL_law_575 dL_law_576 dL_law_577 dL_law_578 dL_law_579 (by decide) i0 i1 n1 ?_
  refine sc_c (X := m (-2)) (k := 4) (pc := 580) e1 dL_law_580 dL_law_581 dL_law_582 dL_law_583 dL_law_584 (by decide) i0 i1 n1 ?_
  refine G_callV (pc := 585) [(0, m (-2) (i + 1)), (0, m (-2) (i + 2)), (0, m (-2) (i + 3)), (0, m (-2) (i + 4))] [(0, r)] dL_law_585 cv_L_55 rfl (Nat.le_of_ble_eq_true rfl) rfl (ci := 11) rfl at_139 rfl (Nat.le_of_ble_eq_true rfl) (Nat.le_refl _) (Nat.le_refl _) (M_mono (g1 hL1) (fun r2 m2 g2 hn2 => ?_))
  obtain ⟨hL2, er, hk⟩ := g2
  exact G_icmp_eq (pc := 588) 1979 dL_law_588 rfl (fun _ => K m2 hL2 hk (fun q hq => (hn2 q hq).trans (hn q hq))) (fun c => absurd er c)
theorem lc_9 {m : jM} {i : Int} {Q : Int → jM → Prop} (hL : Lay m) (i0 : 0 ≤ i) (i1 : i + 7 ≤ m (-2) (-1)) (n1 : m (-2) (-1) ≤ 3584) (hX : ∀ j, -2147483648 ≤ m (-2) j ∧ m (-2) j ≤ 2147483647) (h : allI m) (hs : m 11 5 + 10000 ≤ 20000000) (K : lwK m i Q) : G iL_law SH SH m 593 [(2, -2), (2, 0), (2, 139), (0, i)] [] Q := by
  refine G_aloadn (pc := 593) dL_law_593 rfl ?_
  refine sc_c (X := m (-2)) (k := 1) (pc := 594) rfl dL_law_594 dL_law_595 dL_law_596 dL_law_597 dL_law_598 (by decide) i0 i1 n1 ?_
  refine G_callV (pc := 599) [(0, m (-2) (i + 1))] [] dL_law_599 cv_L_56 rfl (Nat.le_of_ble_eq_true rfl) rfl (ci := 10) rfl at_0 rfl (Nat.le_of_ble_eq_true rfl) (Nat.le_refl _) (Nat.le_refl _) (M_mono (L_annul hL h hs hL) (fun r m1 g hn => ?_))
  obtain ⟨hL1, g1⟩ := g
  have e1 := hn (-2) (by decide)
  refine G_aloadn (pc := 602) dL_law_602 rfl ?_
  refine sc_c (X := m (-2)) (k := 1) (pc := 603) e1 dL_law_603 dL_law_604 dL_law_605 dL_law_606 dL_law_607 (by decide) i0 i1 n1 ?_
  refine G_callV (pc := 608) [(0, m (-2) (i + 1))] [(0, r)] dL_law_608 cv_L_59 rfl (Nat.le_of_ble_eq_true rfl) rfl (ci := 11) rfl at_139 rfl (Nat.le_of_ble_eq_true rfl) (Nat.le_refl _) (Nat.le_refl _) (M_mono (g1 hL1) (fun r2 m2 g2 hn2 => ?_))
  obtain ⟨hL2, er, hk⟩ := g2
  exact G_icmp_eq (pc := 611) 1979 dL_law_611 rfl (fun _ => K m2 hL2 hk (fun q hq => (hn2 q hq).trans (hn q hq))) (fun c => absurd er c)
theorem lc_10 {m : jM} {i : Int} {Q : Int → jM → Prop} (hL : Lay m) (i0 : 0 ≤ i) (i1 : i + 7 ≤ m (-2) (-1)) (n1 : m (-2) (-1) ≤ 3584) (hX : ∀ j, -2147483648 ≤ m (-2) j ∧ m (-2) j ≤ 2147483647) (h : allI m) (hs : m 11 5 + 10000 ≤ 20000000) (K : lwK m i Q) : G iL_law SH SH m 616 [(2, -2), (2, 0), (2, 139), (0, i)] [] Q := by
  refine G_aloadn (pc := 616) dL_law_616 rfl ?_
  refine sc_c (X := m (-2)) (k := 1) (pc := 617) rfl dL_law_617 dL_law_618 dL_law_619 dL_law_620 dL_law_621 (by decide) i0 i1 n1 ?_
  refine G_callV (pc := 622) [(0, m (-2) (i + 1))] [] dL_law_622 cv_L_60 rfl (Nat.le_of_ble_eq_true rfl) rfl (ci := 10) rfl at_0 rfl (Nat.le_of_ble_eq_true rfl) (Nat.le_refl _) (Nat.le_refl _) (M_mono (L_force hL h hs hL) (fun r m1 g hn => ?_))
  obtain ⟨hL1, g1⟩ := g
  have e1 := hn (-2) (by decide)
  refine G_aloadn (pc := 625) dL_law_625 rfl ?_
  refine sc_c (X := m (-2)) (k := 1) (pc := 626) e1 dL_law_626 dL_law_627 dL_law_628 dL_law_629 dL_law_630 (by decide) i0 i1 n1 ?_
  refine G_callV (pc := 631) [(0, m (-2) (i + 1))] [(0, r)] dL_law_631 cv_L_63 rfl (Nat.le_of_ble_eq_true rfl) rfl (ci := 11) rfl at_139 rfl (Nat.le_of_ble_eq_true rfl) (Nat.le_refl _) (Nat.le_refl _) (M_mono (g1 hL1) (fun r2 m2 g2 hn2 => ?_))
  obtain ⟨hL2, er, hk⟩ := g2
  exact G_icmp_eq (pc := 634) 1979 dL_law_634 rfl (fun _ => K m2 hL2 hk (fun q hq => (hn2 q hq).trans (hn q hq))) (fun c => absurd er c)
theorem lc_11 {m : jM} {i : Int} {Q : Int → jM → Prop} (hL : Lay m) (i0 : 0 ≤ i) (i1 : i + 7 ≤ m (-2) (-1)) (n1 : m (-2) (-1) ≤ 3584) (hX : ∀ j, -2147483648 ≤ m (-2) j ∧ m (-2) j ≤ 2147483647) (h : allI m) (hs : m 11 5 + 10000 ≤ 20000000) (K : lwK m i Q) : G iL_law SH SH m 639 [(2, -2), (2, 0), (2, 139), (0, i)] [] Q := by
  refine G_aloadn (pc := 639) dL_law_639 rfl ?_
  refine sc_c (X := m (-2)) (k := 1) (pc := 640) rfl dL_law_640 dL_law_641 dL_law_642 dL_law_643 dL_law_644 (by decide) i0 i1 n1 ?_
  refine sc_c (X := m (-2)) (k := 2) (pc := 645) rfl dL_law_645 dL_law_646 dL_law_647 dL_law_648 dL_law_649 (by decide) i0 i1 n1 ?_
  refine sc_c (X := m (-2)) (k := 3) (pc := 650) rfl dL_law_650 dL_law_651 dL_law_652 dL_law_653 dL_law_654 (by decide) i0 i1 n1 ?_
  refine G_callV (pc := 655) [(0, m (-2) (i + 1)), (0, m (-2) (i + 2)), (0, m (-2) (i + 3))] [] dL_law_655 cv_L_64 rfl (Nat.le_of_ble_eq_true rfl) rfl (ci := 10) rfl at_0 rfl (Nat.le_of_ble_eq_true rfl) (Nat.le_refl _) (Nat.le_refl _) (M_mono (L_home hL h hs hL) (fun r m1 g hn => ?_))
  obtain ⟨hL1, g1⟩ := g
  have e1 := hn (-2) (by decide)
  refine G_aloadn (pc := 658) dL_law_658 rfl ?_
  refine sc_c (X := m (-2)) (k := 1) (pc := 659) e1 dL_law_659 dL_law_660 dL_law_661 dL_law_662 dL_law_663 (by decide) i0 i1 n1 ?_
  refine sc_c (X := m (-2)) (k := 2) (pc := 664) e1 dL_law_664 dL_law_665 dL_law_666 dL_law_667 dL_law_668 (by decide) i0 i1 n1 ?_
  refine sc_c (X := m (-2)) (k := 3) (pc := 669) e1 dL_law_669 dL_law_670 dL_law_671 dL_law_672 dL_law_673 (by decide) i0 i1 n1 ?_
  refine G_callV (pc := 674) [(0, m (-2) (i + 1)), (0, m (-2) (i + 2)), (0, m (-2) (i + 3))] [(0, r)] dL_law_674 cv_L_67 rfl (Nat.le_of_ble_eq_true rfl) rfl (ci := 11) rfl at_139 rfl (Nat.le_of_ble_eq_true rfl) (Nat.le_refl _) (Nat.le_refl _) (M_mono (g1 hL1) (fun r2 m2 g2 hn2 => ?_))
  obtain ⟨hL2, er, hk⟩ := g2
  exact G_icmp_eq (pc := 677) 1979 dL_law_677 rfl (fun _ => K m2 hL2 hk (fun q hq => (hn2 q hq).trans (hn q hq))) (fun c => absurd er c)
theorem lc_12 {m : jM} {i : Int} {Q : Int → jM → Prop} (hL : Lay m) (i0 : 0 ≤ i) (i1 : i + 7 ≤ m (-2) (-1)) (n1 : m (-2) (-1) ≤ 3584) (hX : ∀ j, -2147483648 ≤ m (-2) j ∧ m (-2) j ≤ 2147483647) (h : allI m) (hs : m 11 5 + 10000 ≤ 20000000) (K : lwK m i Q) : G iL_law SH SH m 682 [(2, -2), (2, 0), (2, 139), (0, i)] [] Q := by
  refine G_aloadn (pc := 682) dL_law_682 rfl ?_
  refine sc_c (X := m (-2)) (k := 1) (pc := 683) rfl dL_law_683 dL_law_684 dL_law_685 dL_law_686 dL_law_687 (by decide) i0 i1 n1 ?_
  refine sc_c (X := m (-2)) (k := 2) (pc := 688) rfl dL_law_688 dL_law_689 dL_law_690 dL_law_691 dL_law_692 (by decide) i0 i1 n1 ?_
  refine sc_c (X := m (-2)) (k := 3) (pc := 693) rfl dL_law_693 dL_law_694 dL_law_695 dL_law_696 dL_law_697 (by decide) i0 i1 n1 ?_
  refine sc_c (X := m (-2)) (k := 4) (pc := 698) rfl dL_law_698 dL_law_699 dL_law_700 dL_law_701 dL_law_702 (by decide) i0 i1 n1 ?_
  refine sc_c (X := m (-2)) (k := 5) (pc := 703) rfl dL_law_703 dL_law_704 dL_law_705 dL_law_706 dL_law_707 (by decide) i0 i1 n1 ?_
  refine G_callV (pc := 708) [(0, m (-2) (i + 1)), (0, m (-2) (i + 2)), (0, m (-2) (i + 3)), (0, m (-2) (i + 4)), (0, m (-2) (i + 5))] [] dL_law_708 cv_L_68 rfl (Nat.le_of_ble_eq_true rfl) rfl (ci := 10) rfl at_0 rfl (Nat.le_of_ble_eq_true rfl) (Nat.le_refl _) (Nat.le_refl _) (M_mono (L_dist hL h hs hL) (fun r m1 g hn => ?_))
  obtain ⟨hL1, g1⟩ := g
  have e1 := hn (-2) (by decide)
  refine G_aloadn (pc := 711) dL_law_711 rfl ?_
  refine sc_c (X := m (-2)) (k := 1) (pc := 712) e1 dL_law_712 dL_law_713 dL_law_714 dL_law_715 dL_law_716 (by decide) i0 i1 n1 ?_
  refine sc_c (X := m (-2)) (k := 2) (pc := 717) e1 dL_law_717 dL_law_718 dL_law_719 dL_law_720 dL_law_721 (by decide) i0 i1 n1 ?_
  refine sc_c (X := m (-2)) (k := 3) (pc := 722) e1 dL_law_722 dL_law_723 dL_law_724 dL_law_725 dL_law_726 (by decide) i0 i1 n1 ?_
  refine sc_c (X := m (-2)) (k := 4) (pc := 727) e1 dL_law_727 dL_law_728 dL_law_729 dL_law_730 dL_law_731 (by decide) i0 i1 n1 ?_
  refine sc_c (X := m (-2)) (k := 5) (pc := 732) e1 dL_law_732 dL_law_733 dL_law_734 dL_law_735 dL_law_736 (by decide) i0 i1 n1 ?_
  refine G_callV (pc := 737) [(0, m (-2) (i + 1)), (0, m (-2) (i + 2)), (0, m (-2) (i + 3)), (0, m (-2) (i + 4)), (0, m (-2) (i + 5))] [(0, r)] dL_law_737 cv_L_71 rfl (Nat.le_of_ble_eq_true rfl) rfl (ci := 11) rfl at_139 rfl (Nat.le_of_ble_eq_true rfl) (Nat.le_refl _) (Nat.le_refl _) (M_mono (g1 hL1) (fun r2 m2 g2 hn2 => ?_))
  obtain ⟨hL2, er, hk⟩ := g2
  exact G_icmp_eq (pc := 740) 1979 dL_law_740 rfl (fun _ => K m2 hL2 hk (fun q hq => (hn2 q hq).trans (hn q hq))) (fun c => absurd er c)
theorem lc_13 {m : jM} {i : Int} {Q : Int → jM → Prop} (hL : Lay m) (i0 : 0 ≤ i) (i1 : i + 7 ≤ m (-2) (-1)) (n1 : m (-2) (-1) ≤ 3584) (hX : ∀ j, -2147483648 ≤ m (-2) j ∧ m (-2) j ≤ 2147483647) (h : allI m) (hs : m 11 5 + 10000 ≤ 20000000) (K : lwK m i Q) : G iL_law SH SH m 745 [(2, -2), (2, 0), (2, 139), (0, i)] [] Q := by
  refine G_aloadn (pc := 745) dL_law_745 rfl ?_
  refine sc_c (X := m (-2)) (k := 1) (pc := 746) rfl dL_law_746 dL_law_747 dL_law_748 dL_law_749 dL_law_750 (by decide) i0 i1 n1 ?_
  refine sc_c (X := m (-2)) (k := 2) (pc := 751) rfl dL_law_751 dL_law_752 dL_law_753 dL_law_754 dL_law_755 (by decide) i0 i1 n1 ?_
  refine sc_c (X := m (-2)) (k := 3) (pc := 756) rfl dL_law_756 dL_law_757 dL_law_758 dL_law_759 dL_law_760 (by decide) i0 i1 n1 ?_
  refine sc_c (X := m (-2)) (k := 4) (pc := 761) rfl dL_law_761 dL_law_762 dL_law_763 dL_law_764 dL_law_765 (by decide) i0 i1 n1 ?_
  refine sc_c (X := m (-2)) (k := 5) (pc := 766) rfl dL_law_766 dL_law_767 dL_law_768 dL_law_769 dL_law_770 (by decide) i0 i1 n1 ?_
  refine sc_b (X := m (-2)) (pc := 771) rfl dL_law_771 dL_law_772 dL_law_773 dL_law_775 dL_law_776 i0 i1 n1 ?_
  refine G_callV (pc := 777) [(0, m (-2) (i + 1)), (0, m (-2) (i + 2)), (0, m (-2) (i + 3)), (0, m (-2) (i + 4)), (0, m (-2) (i + 5)), (0, m (-2) (i + 6))] [] dL_law_777 cv_L_72 rfl (Nat.le_of_ble_eq_true rfl) rfl (ci := 10) rfl at_0 rfl (Nat.le_of_ble_eq_true rfl) (Nat.le_refl _) (Nat.le_refl _) (M_mono (L_row hL h hs hL) (fun r m1 g hn => ?_))
  obtain ⟨hL1, g1⟩ := g
  have e1 := hn (-2) (by decide)
  refine G_aloadn (pc := 780) dL_law_780 rfl ?_
  refine sc_c (X := m (-2)) (k := 1) (pc := 781) e1 dL_law_781 dL_law_782 dL_law_783 dL_law_784 dL_law_785 (by decide) i0 i1 n1 ?_
  refine sc_c (X := m (-2)) (k := 2) (pc := 786) e1 dL_law_786 dL_law_787 dL_law_788 dL_law_789 dL_law_790 (by decide) i0 i1 n1 ?_
  refine sc_c (X := m (-2)) (k := 3) (pc := 791) e1 dL_law_791 dL_law_792 dL_law_793 dL_law_794 dL_law_795 (by decide) i0 i1 n1 ?_
  refine sc_c (X := m (-2)) (k := 4) (pc := 796) e1 dL_law_796 dL_law_797 dL_law_798 dL_law_799 dL_law_800 (by decide) i0 i1 n1 ?_
  refine sc_c (X := m (-2)) (k := 5) (pc := 801) e1 dL_law_801 dL_law_802 dL_law_803 dL_law_804 dL_law_805 (by decide) i0 i1 n1 ?_
  refine sc_b (X := m (-2)) (pc := 806) e1 dL_law_806 dL_law_807 dL_law_808 dL_law_810 dL_law_811 i0 i1 n1 ?_
  refine G_callV (pc := 812) [(0, m (-2) (i + 1)), (0, m (-2) (i + 2)), (0, m (-2) (i + 3)), (0, m (-2) (i + 4)), (0, m (-2) (i + 5)), (0, m (-2) (i + 6))] [(0, r)] dL_law_812 cv_L_76 rfl (Nat.le_of_ble_eq_true rfl) rfl (ci := 11) rfl at_139 rfl (Nat.le_of_ble_eq_true rfl) (Nat.le_refl _) (Nat.le_refl _) (M_mono (g1 hL1) (fun r2 m2 g2 hn2 => ?_))
  obtain ⟨hL2, er, hk⟩ := g2
  exact G_icmp_eq (pc := 815) 1979 dL_law_815 rfl (fun _ => K m2 hL2 hk (fun q hq => (hn2 q hq).trans (hn q hq))) (fun c => absurd er c)
theorem lc_14 {m : jM} {i : Int} {Q : Int → jM → Prop} (hL : Lay m) (i0 : 0 ≤ i) (i1 : i + 7 ≤ m (-2) (-1)) (n1 : m (-2) (-1) ≤ 3584) (hX : ∀ j, -2147483648 ≤ m (-2) j ∧ m (-2) j ≤ 2147483647) (h : allI m) (hs : m 11 5 + 10000 ≤ 20000000) (K : lwK m i Q) : G iL_law SH SH m 820 [(2, -2), (2, 0), (2, 139), (0, i)] [] Q := by
  refine G_aloadn (pc := 820) dL_law_820 rfl ?_
  refine sc_c (X := m (-2)) (k := 1) (pc := 821) rfl dL_law_821 dL_law_822 dL_law_823 dL_law_824 dL_law_825 (by decide) i0 i1 n1 ?_
  refine sc_c (X := m (-2)) (k := 2) (pc := 826) rfl dL_law_826 dL_law_827 dL_law_828 dL_law_829 dL_law_830 (by decide) i0 i1 n1 ?_
  refine sc_c (X := m (-2)) (k := 3) (pc := 831) rfl dL_law_831 dL_law_832 dL_law_833 dL_law_834 dL_law_835 (by decide) i0 i1 n1 ?_
  refine G_callV (pc := 836) [(0, m (-2) (i + 1)), (0, m (-2) (i + 2)), (0, m (-2) (i + 3))] [] dL_law_836 cv_L_77 rfl (Nat.le_of_ble_eq_true rfl) rfl (ci := 10) rfl at_0 rfl (Nat.le_of_ble_eq_true rfl) (Nat.le_refl _) (Nat.le_refl _) (M_mono (L_right hL h hs hL) (fun r m1 g hn => ?_))
  obtain ⟨hL1, g1⟩ := g
  have e1 := hn (-2) (by decide)
  refine G_aloadn (pc := 839) dL_law_839 rfl ?_
  refine sc_c (X := m (-2)) (k := 1) (pc := 840) e1 dL_law_840 dL_law_841 dL_law_842 dL_law_843 dL_law_844 (by decide) i0 i1 n1 ?_
  refine sc_c (X := m (-2)) (k := 2) (pc := 845) e1 dL_law_845 dL_law_846 dL_law_847 dL_law_848 dL_law_849 (by decide) i0 i1 n1 ?_
  refine sc_c (X := m (-2)) (k := 3) (pc := 850) e1 dL_law_850 dL_law_851 dL_law_852 dL_law_853 dL_law_854 (by decide) i0 i1 n1 ?_
  refine G_callV (pc := 855) [(0, m (-2) (i + 1)), (0, m (-2) (i + 2)), (0, m (-2) (i + 3))] [(0, r)] dL_law_855 cv_L_80 rfl (Nat.le_of_ble_eq_true rfl) rfl (ci := 11) rfl at_139 rfl (Nat.le_of_ble_eq_true rfl) (Nat.le_refl _) (Nat.le_refl _) (M_mono (g1 hL1) (fun r2 m2 g2 hn2 => ?_))
  obtain ⟨hL2, er, hk⟩ := g2
  exact G_icmp_eq (pc := 858) 1979 dL_law_858 rfl (fun _ => K m2 hL2 hk (fun q hq => (hn2 q hq).trans (hn q hq))) (fun c => absurd er c)
theorem lc_15 {m : jM} {i : Int} {Q : Int → jM → Prop} (hL : Lay m) (i0 : 0 ≤ i) (i1 : i + 7 ≤ m (-2) (-1)) (n1 : m (-2) (-1) ≤ 3584) (hX : ∀ j, -2147483648 ≤ m (-2) j ∧ m (-2) j ≤ 2147483647) (h : allI m) (hs : m 11 5 + 10000 ≤ 20000000) (K : lwK m i Q) : G iL_law SH SH m 863 [(2, -2), (2, 0), (2, 139), (0, i)] [] Q := by
  refine G_aloadn (pc := 863) dL_law_863 rfl ?_
  refine sc_c (X := m (-2)) (k := 1) (pc := 864) rfl dL_law_864 dL_law_865 dL_law_866 dL_law_867 dL_law_868 (by decide) i0 i1 n1 ?_
  refine sc_c (X := m (-2)) (k := 2) (pc := 869) rfl dL_law_869 dL_law_870 dL_law_871 dL_law_872 dL_law_873 (by decide) i0 i1 n1 ?_
  refine sc_c (X := m (-2)) (k := 3) (pc := 874) rfl dL_law_874 dL_law_875 dL_law_876 dL_law_877 dL_law_878 (by decide) i0 i1 n1 ?_
  refine G_callV (pc := 879) [(0, m (-2) (i + 1)), (0, m (-2) (i + 2)), (0, m (-2) (i + 3))] [] dL_law_879 cv_L_81 rfl (Nat.le_of_ble_eq_true rfl) rfl (ci := 10) rfl at_0 rfl (Nat.le_of_ble_eq_true rfl) (Nat.le_refl _) (Nat.le_refl _) (M_mono (L_altered hL h hs hL) (fun r m1 g hn => ?_))
  obtain ⟨hL1, g1⟩ := g
  have e1 := hn (-2) (by decide)
  refine G_aloadn (pc := 882) dL_law_882 rfl ?_
  refine sc_c (X := m (-2)) (k := 1) (pc := 883) e1 dL_law_883 dL_law_884 dL_law_885 dL_law_886 dL_law_887 (by decide) i0 i1 n1 ?_
  refine sc_c (X := m (-2)) (k := 2) (pc := 888) e1 dL_law_888 dL_law_889 dL_law_890 dL_law_891 dL_law_892 (by decide) i0 i1 n1 ?_
  refine sc_c (X := m (-2)) (k := 3) (pc := 893) e1 dL_law_893 dL_law_894 dL_law_895 dL_law_896 dL_law_897 (by decide) i0 i1 n1 ?_
  refine G_callV (pc := 898) [(0, m (-2) (i + 1)), (0, m (-2) (i + 2)), (0, m (-2) (i + 3))] [(0, r)] dL_law_898 cv_L_84 rfl (Nat.le_of_ble_eq_true rfl) rfl (ci := 11) rfl at_139 rfl (Nat.le_of_ble_eq_true rfl) (Nat.le_refl _) (Nat.le_refl _) (M_mono (g1 hL1) (fun r2 m2 g2 hn2 => ?_))
  obtain ⟨hL2, er, hk⟩ := g2
  exact G_icmp_eq (pc := 901) 1979 dL_law_901 rfl (fun _ => K m2 hL2 hk (fun q hq => (hn2 q hq).trans (hn q hq))) (fun c => absurd er c)
theorem lc_16 {m : jM} {i : Int} {Q : Int → jM → Prop} (hL : Lay m) (i0 : 0 ≤ i) (i1 : i + 7 ≤ m (-2) (-1)) (n1 : m (-2) (-1) ≤ 3584) (hX : ∀ j, -2147483648 ≤ m (-2) j ∧ m (-2) j ≤ 2147483647) (h : allI m) (hs : m 11 5 + 10000 ≤ 20000000) (K : lwK m i Q) : G iL_law SH SH m 906 [(2, -2), (2, 0), (2, 139), (0, i)] [] Q := by
  refine G_aloadn (pc := 906) dL_law_906 rfl ?_
  refine sc_c (X := m (-2)) (k := 1) (pc := 907) rfl dL_law_907 dL_law_908 dL_law_909 dL_law_910 dL_law_911 (by decide) i0 i1 n1 ?_
  refine sc_c (X := m (-2)) (k := 2) (pc := 912) rfl dL_law_912 dL_law_913 dL_law_914 dL_law_915 dL_law_916 (by decide) i0 i1 n1 ?_
  refine sc_c (X := m (-2)) (k := 3) (pc := 917) rfl dL_law_917 dL_law_918 dL_law_919 dL_law_920 dL_law_921 (by decide) i0 i1 n1 ?_
  refine G_callV (pc := 922) [(0, m (-2) (i + 1)), (0, m (-2) (i + 2)), (0, m (-2) (i + 3))] [] dL_law_922 cv_L_85 rfl (Nat.le_of_ble_eq_true rfl) rfl (ci := 10) rfl at_0 rfl (Nat.le_of_ble_eq_true rfl) (Nat.le_refl _) (Nat.le_refl _) (M_mono (L_stop hL h hs hL) (fun r m1 g hn => ?_))
  obtain ⟨hL1, g1⟩ := g
  have e1 := hn (-2) (by decide)
  refine G_aloadn (pc := 925) dL_law_925 rfl ?_
  refine sc_c (X := m (-2)) (k := 1) (pc := 926) e1 dL_law_926 dL_law_927 dL_law_928 dL_law_929 dL_law_930 (by decide) i0 i1 n1 ?_
  refine sc_c (X := m (-2)) (k := 2) (pc := 931) e1 dL_law_931 dL_law_932 dL_law_933 dL_law_934 dL_law_935 (by decide) i0 i1 n1 ?_
  refine sc_c (X := m (-2)) (k := 3) (pc := 936) e1 dL_law_936 dL_law_937 dL_law_938 dL_law_939 dL_law_940 (by decide) i0 i1 n1 ?_
  refine G_callV (pc := 941) [(0, m (-2) (i + 1)), (0, m (-2) (i + 2)), (0, m (-2) (i + 3))] [(0, r)] dL_law_941 cv_L_88 rfl (Nat.le_of_ble_eq_true rfl) rfl (ci := 11) rfl at_139 rfl (Nat.le_of_ble_eq_true rfl) (Nat.le_refl _) (Nat.le_refl _) (M_mono (g1 hL1) (fun r2 m2 g2 hn2 => ?_))
  obtain ⟨hL2, er, hk⟩ := g2
  exact G_icmp_eq (pc := 944) 1979 dL_law_944 rfl (fun _ => K m2 hL2 hk (fun q hq => (hn2 q hq).trans (hn q hq))) (fun c => absurd er c)
theorem lc_17 {m : jM} {i : Int} {Q : Int → jM → Prop} (hL : Lay m) (i0 : 0 ≤ i) (i1 : i + 7 ≤ m (-2) (-1)) (n1 : m (-2) (-1) ≤ 3584) (hX : ∀ j, -2147483648 ≤ m (-2) j ∧ m (-2) j ≤ 2147483647) (h : allI m) (hs : m 11 5 + 10000 ≤ 20000000) (K : lwK m i Q) : G iL_law SH SH m 949 [(2, -2), (2, 0), (2, 139), (0, i)] [] Q := by
  refine G_aloadn (pc := 949) dL_law_949 rfl ?_
  refine sc_c (X := m (-2)) (k := 1) (pc := 950) rfl dL_law_950 dL_law_951 dL_law_952 dL_law_953 dL_law_954 (by decide) i0 i1 n1 ?_
  refine sc_c (X := m (-2)) (k := 2) (pc := 955) rfl dL_law_955 dL_law_956 dL_law_957 dL_law_958 dL_law_959 (by decide) i0 i1 n1 ?_
  refine sc_c (X := m (-2)) (k := 3) (pc := 960) rfl dL_law_960 dL_law_961 dL_law_962 dL_law_963 dL_law_964 (by decide) i0 i1 n1 ?_
  refine sc_c (X := m (-2)) (k := 4) (pc := 965) rfl dL_law_965 dL_law_966 dL_law_967 dL_law_968 dL_law_969 (by decide) i0 i1 n1 ?_
  refine G_callV (pc := 970) [(0, m (-2) (i + 1)), (0, m (-2) (i + 2)), (0, m (-2) (i + 3)), (0, m (-2) (i + 4))] [] dL_law_970 cv_L_89 rfl (Nat.le_of_ble_eq_true rfl) rfl (ci := 10) rfl at_0 rfl (Nat.le_of_ble_eq_true rfl) (Nat.le_refl _) (Nat.le_refl _) (M_mono (L_load hL h hs hL) (fun r m1 g hn => ?_))
  obtain ⟨hL1, g1⟩ := g
  have e1 := hn (-2) (by decide)
  refine G_aloadn (pc := 973) dL_law_973 rfl ?_
  refine sc_c (X := m (-2)) (k := 1) (pc := 974) e1 dL_law_974 dL_law_975 dL_law_976 dL_law_977 dL_law_978 (by decide) i0 i1 n1 ?_
  refine sc_c (X := m (-2)) (k := 2) (pc := 979) e1 dL_law_979 dL_law_980 dL_law_981 dL_law_982 dL_law_983 (by decide) i0 i1 n1 ?_
  refine sc_c (X := m (-2)) (k := 3) (pc := 984) e1 dL_law_984 dL_law_985 dL_law_986 dL_law_987 dL_law_988 (by decide) i0 i1 n1 ?_
  refine sc_c (X := m (-2)) (k := 4) (pc := 989) e1 dL_law_989 dL_law_990 dL_law_991 dL_law_992 dL_law_993 (by decide) i0 i1 n1 ?_
  refine G_callV (pc := 994) [(0, m (-2) (i + 1)), (0, m (-2) (i + 2)), (0, m (-2) (i + 3)), (0, m (-2) (i + 4))] [(0, r)] dL_law_994 cv_L_92 rfl (Nat.le_of_ble_eq_true rfl) rfl (ci := 11) rfl at_139 rfl (Nat.le_of_ble_eq_true rfl) (Nat.le_refl _) (Nat.le_refl _) (M_mono (g1 hL1) (fun r2 m2 g2 hn2 => ?_))
  obtain ⟨hL2, er, hk⟩ := g2
  exact G_icmp_eq (pc := 997) 1979 dL_law_997 rfl (fun _ => K m2 hL2 hk (fun q hq => (hn2 q hq).trans (hn q hq))) (fun c => absurd er c)
theorem lc_18 {m : jM} {i : Int} {Q : Int → jM → Prop} (hL : Lay m) (i0 : 0 ≤ i) (i1 : i + 7 ≤ m (-2) (-1)) (n1 : m (-2) (-1) ≤ 3584) (hX : ∀ j, -2147483648 ≤ m (-2) j ∧ m (-2) j ≤ 2147483647) (h : allI m) (hs : m 11 5 + 10000 ≤ 20000000) (K : lwK m i Q) : G iL_law SH SH m 1002 [(2, -2), (2, 0), (2, 139), (0, i)] [] Q := by
  refine G_aloadn (pc := 1002) dL_law_1002 rfl ?_
  refine sc_c (X := m (-2)) (k := 1) (pc := 1003) rfl dL_law_1003 dL_law_1004 dL_law_1005 dL_law_1006 dL_law_1007 (by decide) i0 i1 n1 ?_
  refine sc_c (X := m (-2)) (k := 2) (pc := 1008) rfl dL_law_1008 dL_law_1009 dL_law_1010 dL_law_1011 dL_law_1012 (by decide) i0 i1 n1 ?_
  refine sc_c (X := m (-2)) (k := 3) (pc := 1013) rfl dL_law_1013 dL_law_1014 dL_law_1015 dL_law_1016 dL_law_1017 (by decide) i0 i1 n1 ?_
  refine sc_c (X := m (-2)) (k := 4) (pc := 1018) rfl dL_law_1018 dL_law_1019 dL_law_1020 dL_law_1021 dL_law_1022 (by decide) i0 i1 n1 ?_
  refine G_callV (pc := 1023) [(0, m (-2) (i + 1)), (0, m (-2) (i + 2)), (0, m (-2) (i + 3)), (0, m (-2) (i + 4))] [] dL_law_1023 cv_L_93 rfl (Nat.le_of_ble_eq_true rfl) rfl (ci := 10) rfl at_0 rfl (Nat.le_of_ble_eq_true rfl) (Nat.le_refl _) (Nat.le_refl _) (M_mono (L_route hL h hs hL) (fun r m1 g hn => ?_))
  obtain ⟨hL1, g1⟩ := g
  have e1 := hn (-2) (by decide)
  refine G_aloadn (pc := 1026) dL_law_1026 rfl ?_
  refine sc_c (X := m (-2)) (k := 1) (pc := 1027) e1 dL_law_1027 dL_law_1028 dL_law_1029 dL_law_1030 dL_law_1031 (by decide) i0 i1 n1 ?_
  refine sc_c (X := m (-2)) (k := 2) (pc := 1032) e1 dL_law_1032 dL_law_1033 dL_law_1034 dL_law_1035 dL_law_1036 (by decide) i0 i1 n1 ?_
  refine sc_c (X := m (-2)) (k := 3) (pc := 1037) e1 dL_law_1037 dL_law_1038 dL_law_1039 dL_law_1040 dL_law_1041 (by decide) i0 i1 n1 ?_
  refine sc_c (X := m (-2)) (k := 4) (pc := 1042) e1 dL_law_1042 dL_law_1043 dL_law_1044 dL_law_1045 dL_law_1046 (by decide) i0 i1 n1 ?_
  refine G_callV (pc := 1047) [(0, m (-2) (i + 1)), (0, m (-2) (i + 2)), (0, m (-2) (i + 3)), (0, m (-2) (i + 4))] [(0, r)] dL_law_1047 cv_L_96 rfl (Nat.le_of_ble_eq_true rfl) rfl (ci := 11) rfl at_139 rfl (Nat.le_of_ble_eq_true rfl) (Nat.le_refl _) (Nat.le_refl _) (M_mono (g1 hL1) (fun r2 m2 g2 hn2 => ?_))
  obtain ⟨hL2, er, hk⟩ := g2
  exact G_icmp_eq (pc := 1050) 1979 dL_law_1050 rfl (fun _ => K m2 hL2 hk (fun q hq => (hn2 q hq).trans (hn q hq))) (fun c => absurd er c)
theorem lc_19 {m : jM} {i : Int} {Q : Int → jM → Prop} (hL : Lay m) (i0 : 0 ≤ i) (i1 : i + 7 ≤ m (-2) (-1)) (n1 : m (-2) (-1) ≤ 3584) (hX : ∀ j, -2147483648 ≤ m (-2) j ∧ m (-2) j ≤ 2147483647) (h : allI m) (hs : m 11 5 + 10000 ≤ 20000000) (K : lwK m i Q) : G iL_law SH SH m 1055 [(2, -2), (2, 0), (2, 139), (0, i)] [] Q := by
  refine G_aloadn (pc := 1055) dL_law_1055 rfl ?_
  refine sc_c (X := m (-2)) (k := 1) (pc := 1056) rfl dL_law_1056 dL_law_1057 dL_law_1058 dL_law_1059 dL_law_1060 (by decide) i0 i1 n1 ?_
  refine sc_c (X := m (-2)) (k := 2) (pc := 1061) rfl dL_law_1061 dL_law_1062 dL_law_1063 dL_law_1064 dL_law_1065 (by decide) i0 i1 n1 ?_
  refine sc_c (X := m (-2)) (k := 3) (pc := 1066) rfl dL_law_1066 dL_law_1067 dL_law_1068 dL_law_1069 dL_law_1070 (by decide) i0 i1 n1 ?_
  refine sc_c (X := m (-2)) (k := 4) (pc := 1071) rfl dL_law_1071 dL_law_1072 dL_law_1073 dL_law_1074 dL_law_1075 (by decide) i0 i1 n1 ?_
  refine sc_c (X := m (-2)) (k := 5) (pc := 1076) rfl dL_law_1076 dL_law_1077 dL_law_1078 dL_law_1079 dL_law_1080 (by decide) i0 i1 n1 ?_
  refine G_callV (pc := 1081) [(0, m (-2) (i + 1)), (0, m (-2) (i + 2)), (0, m (-2) (i + 3)), (0, m (-2) (i + 4)), (0, m (-2) (i + 5))] [] dL_law_1081 cv_L_97 rfl (Nat.le_of_ble_eq_true rfl) rfl (ci := 10) rfl at_0 rfl (Nat.le_of_ble_eq_true rfl) (Nat.le_refl _) (Nat.le_refl _) (M_mono (L_routeStop hL h hs hL) (fun r m1 g hn => ?_))
  obtain ⟨hL1, g1⟩ := g
  have e1 := hn (-2) (by decide)
  refine G_aloadn (pc := 1084) dL_law_1084 rfl ?_
  refine sc_c (X := m (-2)) (k := 1) (pc := 1085) e1 dL_law_1085 dL_law_1086 dL_law_1087 dL_law_1088 dL_law_1089 (by decide) i0 i1 n1 ?_
  refine sc_c (X := m (-2)) (k := 2) (pc := 1090) e1 dL_law_1090 dL_law_1091 dL_law_1092 dL_law_1093 dL_law_1094 (by decide) i0 i1 n1 ?_
  refine sc_c (X := m (-2)) (k := 3) (pc := 1095) e1 dL_law_1095 dL_law_1096 dL_law_1097 dL_law_1098 dL_law_1099 (by decide) i0 i1 n1 ?_
  refine sc_c (X := m (-2)) (k := 4) (pc := 1100) e1 dL_law_1100 dL_law_1101 dL_law_1102 dL_law_1103 dL_law_1104 (by decide) i0 i1 n1 ?_
  refine sc_c (X := m (-2)) (k := 5) (pc := 1105) e1 dL_law_1105 dL_law_1106 dL_law_1107 dL_law_1108 dL_law_1109 (by decide) i0 i1 n1 ?_
  refine G_callV (pc := 1110) [(0, m (-2) (i + 1)), (0, m (-2) (i + 2)), (0, m (-2) (i + 3)), (0, m (-2) (i + 4)), (0, m (-2) (i + 5))] [(0, r)] dL_law_1110 cv_L_100 rfl (Nat.le_of_ble_eq_true rfl) rfl (ci := 11) rfl at_139 rfl (Nat.le_of_ble_eq_true rfl) (Nat.le_refl _) (Nat.le_refl _) (M_mono (g1 hL1) (fun r2 m2 g2 hn2 => ?_))
  obtain ⟨hL2, er, hk⟩ := g2
  exact G_icmp_eq (pc := 1113) 1979 dL_law_1113 rfl (fun _ => K m2 hL2 hk (fun q hq => (hn2 q hq).trans (hn q hq))) (fun c => absurd er c)
theorem lc_20 {m : jM} {i : Int} {Q : Int → jM → Prop} (hL : Lay m) (i0 : 0 ≤ i) (i1 : i + 7 ≤ m (-2) (-1)) (n1 : m (-2) (-1) ≤ 3584) (hX : ∀ j, -2147483648 ≤ m (-2) j ∧ m (-2) j ≤ 2147483647) (h : allI m) (hs : m 11 5 + 10000 ≤ 20000000) (K : lwK m i Q) : G iL_law SH SH m 1118 [(2, -2), (2, 0), (2, 139), (0, i)] [] Q := by
  refine G_aloadn (pc := 1118) dL_law_1118 rfl ?_
  refine sc_c (X := m (-2)) (k := 1) (pc := 1119) rfl dL_law_1119 dL_law_1120 dL_law_1121 dL_law_1122 dL_law_1123 (by decide) i0 i1 n1 ?_
  refine sc_c (X := m (-2)) (k := 2) (pc := 1124) rfl dL_law_1124 dL_law_1125 dL_law_1126 dL_law_1127 dL_law_1128 (by decide) i0 i1 n1 ?_
  refine sc_c (X := m (-2)) (k := 3) (pc := 1129) rfl dL_law_1129 dL_law_1130 dL_law_1131 dL_law_1132 dL_law_1133 (by decide) i0 i1 n1 ?_
  refine sc_c (X := m (-2)) (k := 4) (pc := 1134) rfl dL_law_1134 dL_law_1135 dL_law_1136 dL_law_1137 dL_law_1138 (by decide) i0 i1 n1 ?_
  refine G_callV (pc := 1139) [(0, m (-2) (i + 1)), (0, m (-2) (i + 2)), (0, m (-2) (i + 3)), (0, m (-2) (i + 4))] [] dL_law_1139 cv_L_101 rfl (Nat.le_of_ble_eq_true rfl) rfl (ci := 10) rfl at_0 rfl (Nat.le_of_ble_eq_true rfl) (Nat.le_refl _) (Nat.le_refl _) (M_mono (L_good hL h hs hL) (fun r m1 g hn => ?_))
  obtain ⟨hL1, g1⟩ := g
  have e1 := hn (-2) (by decide)
  refine G_aloadn (pc := 1142) dL_law_1142 rfl ?_
  refine sc_c (X := m (-2)) (k := 1) (pc := 1143) e1 dL_law_1143 dL_law_1144 dL_law_1145 dL_law_1146 dL_law_1147 (by decide) i0 i1 n1 ?_
  refine sc_c (X := m (-2)) (k := 2) (pc := 1148) e1 dL_law_1148 dL_law_1149 dL_law_1150 dL_law_1151 dL_law_1152 (by decide) i0 i1 n1 ?_
  refine sc_c (X := m (-2)) (k := 3) (pc := 1153) e1 dL_law_1153 dL_law_1154 dL_law_1155 dL_law_1156 dL_law_1157 (by decide) i0 i1 n1 ?_
  refine sc_c (X := m (-2)) (k := 4) (pc := 1158) e1 dL_law_1158 dL_law_1159 dL_law_1160 dL_law_1161 dL_law_1162 (by decide) i0 i1 n1 ?_
  refine G_callV (pc := 1163) [(0, m (-2) (i + 1)), (0, m (-2) (i + 2)), (0, m (-2) (i + 3)), (0, m (-2) (i + 4))] [(0, r)] dL_law_1163 cv_L_104 rfl (Nat.le_of_ble_eq_true rfl) rfl (ci := 11) rfl at_139 rfl (Nat.le_of_ble_eq_true rfl) (Nat.le_refl _) (Nat.le_refl _) (M_mono (g1 hL1) (fun r2 m2 g2 hn2 => ?_))
  obtain ⟨hL2, er, hk⟩ := g2
  exact G_icmp_eq (pc := 1166) 1979 dL_law_1166 rfl (fun _ => K m2 hL2 hk (fun q hq => (hn2 q hq).trans (hn q hq))) (fun c => absurd er c)
theorem lc_21 {m : jM} {i : Int} {Q : Int → jM → Prop} (hL : Lay m) (i0 : 0 ≤ i) (i1 : i + 7 ≤ m (-2) (-1)) (n1 : m (-2) (-1) ≤ 3584) (hX : ∀ j, -2147483648 ≤ m (-2) j ∧ m (-2) j ≤ 2147483647) (h : allI m) (hs : m 11 5 + 10000 ≤ 20000000) (K : lwK m i Q) : G iL_law SH SH m 1171 [(2, -2), (2, 0), (2, 139), (0, i)] [] Q := by
  refine G_aloadn (pc := 1171) dL_law_1171 rfl ?_
  refine sc_c (X := m (-2)) (k := 1) (pc := 1172) rfl dL_law_1172 dL_law_1173 dL_law_1174 dL_law_1175 dL_law_1176 (by decide) i0 i1 n1 ?_
  refine sc_c (X := m (-2)) (k := 2) (pc := 1177) rfl dL_law_1177 dL_law_1178 dL_law_1179 dL_law_1180 dL_law_1181 (by decide) i0 i1 n1 ?_
  refine sc_c (X := m (-2)) (k := 3) (pc := 1182) rfl dL_law_1182 dL_law_1183 dL_law_1184 dL_law_1185 dL_law_1186 (by decide) i0 i1 n1 ?_
  refine G_callV (pc := 1187) [(0, m (-2) (i + 1)), (0, m (-2) (i + 2)), (0, m (-2) (i + 3))] [] dL_law_1187 cv_L_105 rfl (Nat.le_of_ble_eq_true rfl) rfl (ci := 10) rfl at_0 rfl (Nat.le_of_ble_eq_true rfl) (Nat.le_refl _) (Nat.le_refl _) (M_mono (L_pay hL h hs hL) (fun r m1 g hn => ?_))
  obtain ⟨hL1, g1⟩ := g
  have e1 := hn (-2) (by decide)
  refine G_aloadn (pc := 1190) dL_law_1190 rfl ?_
  refine sc_c (X := m (-2)) (k := 1) (pc := 1191) e1 dL_law_1191 dL_law_1192 dL_law_1193 dL_law_1194 dL_law_1195 (by decide) i0 i1 n1 ?_
  refine sc_c (X := m (-2)) (k := 2) (pc := 1196) e1 dL_law_1196 dL_law_1197 dL_law_1198 dL_law_1199 dL_law_1200 (by decide) i0 i1 n1 ?_
  refine sc_c (X := m (-2)) (k := 3) (pc := 1201) e1 dL_law_1201 dL_law_1202 dL_law_1203 dL_law_1204 dL_law_1205 (by decide) i0 i1 n1 ?_
  refine G_callV (pc := 1206) [(0, m (-2) (i + 1)), (0, m (-2) (i + 2)), (0, m (-2) (i + 3))] [(0, r)] dL_law_1206 cv_L_108 rfl (Nat.le_of_ble_eq_true rfl) rfl (ci := 11) rfl at_139 rfl (Nat.le_of_ble_eq_true rfl) (Nat.le_refl _) (Nat.le_refl _) (M_mono (g1 hL1) (fun r2 m2 g2 hn2 => ?_))
  obtain ⟨hL2, er, hk⟩ := g2
  exact G_icmp_eq (pc := 1209) 1979 dL_law_1209 rfl (fun _ => K m2 hL2 hk (fun q hq => (hn2 q hq).trans (hn q hq))) (fun c => absurd er c)
theorem lc_22 {m : jM} {i : Int} {Q : Int → jM → Prop} (hL : Lay m) (i0 : 0 ≤ i) (i1 : i + 7 ≤ m (-2) (-1)) (n1 : m (-2) (-1) ≤ 3584) (hX : ∀ j, -2147483648 ≤ m (-2) j ∧ m (-2) j ≤ 2147483647) (h : allI m) (hs : m 11 5 + 10000 ≤ 20000000) (K : lwK m i Q) : G iL_law SH SH m 1214 [(2, -2), (2, 0), (2, 139), (0, i)] [] Q := by
  refine G_aloadn (pc := 1214) dL_law_1214 rfl ?_
  refine sc_c (X := m (-2)) (k := 1) (pc := 1215) rfl dL_law_1215 dL_law_1216 dL_law_1217 dL_law_1218 dL_law_1219 (by decide) i0 i1 n1 ?_
  refine sc_c (X := m (-2)) (k := 2) (pc := 1220) rfl dL_law_1220 dL_law_1221 dL_law_1222 dL_law_1223 dL_law_1224 (by decide) i0 i1 n1 ?_
  refine sc_c (X := m (-2)) (k := 3) (pc := 1225) rfl dL_law_1225 dL_law_1226 dL_law_1227 dL_law_1228 dL_law_1229 (by decide) i0 i1 n1 ?_
  refine G_callV (pc := 1230) [(0, m (-2) (i + 1)), (0, m (-2) (i + 2)), (0, m (-2) (i + 3))] [] dL_law_1230 cv_L_109 rfl (Nat.le_of_ble_eq_true rfl) rfl (ci := 10) rfl at_0 rfl (Nat.le_of_ble_eq_true rfl) (Nat.le_refl _) (Nat.le_refl _) (M_mono (L_routes hL h hs hL) (fun r m1 g hn => ?_))
  obtain ⟨hL1, g1⟩ := g
  have e1 := hn (-2) (by decide)
  refine G_aloadn (pc := 1233) dL_law_1233 rfl ?_
  refine sc_c (X := m (-2)) (k := 1) (pc := 1234) e1 dL_law_1234 dL_law_1235 dL_law_1236 dL_law_1237 dL_law_1238 (by decide) i0 i1 n1 ?_
  refine sc_c (X := m (-2)) (k := 2) (pc := 1239) e1 dL_law_1239 dL_law_1240 dL_law_1241 dL_law_1242 dL_law_1243 (by decide) i0 i1 n1 ?_
  refine sc_c (X := m (-2)) (k := 3) (pc := 1244) e1 dL_law_1244 dL_law_1245 dL_law_1246 dL_law_1247 dL_law_1248 (by decide) i0 i1 n1 ?_
  refine G_callV (pc := 1249) [(0, m (-2) (i + 1)), (0, m (-2) (i + 2)), (0, m (-2) (i + 3))] [(0, r)] dL_law_1249 cv_L_112 rfl (Nat.le_of_ble_eq_true rfl) rfl (ci := 11) rfl at_139 rfl (Nat.le_of_ble_eq_true rfl) (Nat.le_refl _) (Nat.le_refl _) (M_mono (g1 hL1) (fun r2 m2 g2 hn2 => ?_))
  obtain ⟨hL2, er, hk⟩ := g2
  exact G_icmp_eq (pc := 1252) 1979 dL_law_1252 rfl (fun _ => K m2 hL2 hk (fun q hq => (hn2 q hq).trans (hn q hq))) (fun c => absurd er c)
theorem lc_23 {m : jM} {i : Int} {Q : Int → jM → Prop} (hL : Lay m) (i0 : 0 ≤ i) (i1 : i + 7 ≤ m (-2) (-1)) (n1 : m (-2) (-1) ≤ 3584) (hX : ∀ j, -2147483648 ≤ m (-2) j ∧ m (-2) j ≤ 2147483647) (h : allI m) (hs : m 11 5 + 10000 ≤ 20000000) (K : lwK m i Q) : G iL_law SH SH m 1257 [(2, -2), (2, 0), (2, 139), (0, i)] [] Q := by
  refine G_aloadn (pc := 1257) dL_law_1257 rfl ?_
  refine sc_c (X := m (-2)) (k := 1) (pc := 1258) rfl dL_law_1258 dL_law_1259 dL_law_1260 dL_law_1261 dL_law_1262 (by decide) i0 i1 n1 ?_
  refine sc_c (X := m (-2)) (k := 2) (pc := 1263) rfl dL_law_1263 dL_law_1264 dL_law_1265 dL_law_1266 dL_law_1267 (by decide) i0 i1 n1 ?_
  refine sc_c (X := m (-2)) (k := 3) (pc := 1268) rfl dL_law_1268 dL_law_1269 dL_law_1270 dL_law_1271 dL_law_1272 (by decide) i0 i1 n1 ?_
  refine sc_c (X := m (-2)) (k := 4) (pc := 1273) rfl dL_law_1273 dL_law_1274 dL_law_1275 dL_law_1276 dL_law_1277 (by decide) i0 i1 n1 ?_
  refine G_callV (pc := 1278) [(0, m (-2) (i + 1)), (0, m (-2) (i + 2)), (0, m (-2) (i + 3)), (0, m (-2) (i + 4))] [] dL_law_1278 cv_L_113 rfl (Nat.le_of_ble_eq_true rfl) rfl (ci := 10) rfl at_0 rfl (Nat.le_of_ble_eq_true rfl) (Nat.le_refl _) (Nat.le_refl _) (M_mono (L_routeSet hL h hs hL) (fun r m1 g hn => ?_))
  obtain ⟨hL1, g1⟩ := g
  have e1 := hn (-2) (by decide)
  refine G_aloadn (pc := 1281) dL_law_1281 rfl ?_
  refine sc_c (X := m (-2)) (k := 1) (pc := 1282) e1 dL_law_1282 dL_law_1283 dL_law_1284 dL_law_1285 dL_law_1286 (by decide) i0 i1 n1 ?_
  refine sc_c (X := m (-2)) (k := 2) (pc := 1287) e1 dL_law_1287 dL_law_1288 dL_law_1289 dL_law_1290 dL_law_1291 (by decide) i0 i1 n1 ?_
  refine sc_c (X := m (-2)) (k := 3) (pc := 1292) e1 dL_law_1292 dL_law_1293 dL_law_1294 dL_law_1295 dL_law_1296 (by decide) i0 i1 n1 ?_
  refine sc_c (X := m (-2)) (k := 4) (pc := 1297) e1 dL_law_1297 dL_law_1298 dL_law_1299 dL_law_1300 dL_law_1301 (by decide) i0 i1 n1 ?_
  refine G_callV (pc := 1302) [(0, m (-2) (i + 1)), (0, m (-2) (i + 2)), (0, m (-2) (i + 3)), (0, m (-2) (i + 4))] [(0, r)] dL_law_1302 cv_L_116 rfl (Nat.le_of_ble_eq_true rfl) rfl (ci := 11) rfl at_139 rfl (Nat.le_of_ble_eq_true rfl) (Nat.le_refl _) (Nat.le_refl _) (M_mono (g1 hL1) (fun r2 m2 g2 hn2 => ?_))
  obtain ⟨hL2, er, hk⟩ := g2
  exact G_icmp_eq (pc := 1305) 1979 dL_law_1305 rfl (fun _ => K m2 hL2 hk (fun q hq => (hn2 q hq).trans (hn q hq))) (fun c => absurd er c)
theorem lc_24 {m : jM} {i : Int} {Q : Int → jM → Prop} (hL : Lay m) (i0 : 0 ≤ i) (i1 : i + 7 ≤ m (-2) (-1)) (n1 : m (-2) (-1) ≤ 3584) (hX : ∀ j, -2147483648 ≤ m (-2) j ∧ m (-2) j ≤ 2147483647) (h : allI m) (hs : m 11 5 + 10000 ≤ 20000000) (K : lwK m i Q) : G iL_law SH SH m 1310 [(2, -2), (2, 0), (2, 139), (0, i)] [] Q := by
  refine G_aloadn (pc := 1310) dL_law_1310 rfl ?_
  refine sc_c (X := m (-2)) (k := 1) (pc := 1311) rfl dL_law_1311 dL_law_1312 dL_law_1313 dL_law_1314 dL_law_1315 (by decide) i0 i1 n1 ?_
  refine sc_c (X := m (-2)) (k := 2) (pc := 1316) rfl dL_law_1316 dL_law_1317 dL_law_1318 dL_law_1319 dL_law_1320 (by decide) i0 i1 n1 ?_
  refine sc_c (X := m (-2)) (k := 3) (pc := 1321) rfl dL_law_1321 dL_law_1322 dL_law_1323 dL_law_1324 dL_law_1325 (by decide) i0 i1 n1 ?_
  refine G_callV (pc := 1326) [(0, m (-2) (i + 1)), (0, m (-2) (i + 2)), (0, m (-2) (i + 3))] [] dL_law_1326 cv_L_117 rfl (Nat.le_of_ble_eq_true rfl) rfl (ci := 10) rfl at_0 rfl (Nat.le_of_ble_eq_true rfl) (Nat.le_refl _) (Nat.le_refl _) (M_mono (L_taxis hL h hs hL) (fun r m1 g hn => ?_))
  obtain ⟨hL1, g1⟩ := g
  have e1 := hn (-2) (by decide)
  refine G_aloadn (pc := 1329) dL_law_1329 rfl ?_
  refine sc_c (X := m (-2)) (k := 1) (pc := 1330) e1 dL_law_1330 dL_law_1331 dL_law_1332 dL_law_1333 dL_law_1334 (by decide) i0 i1 n1 ?_
  refine sc_c (X := m (-2)) (k := 2) (pc := 1335) e1 dL_law_1335 dL_law_1336 dL_law_1337 dL_law_1338 dL_law_1339 (by decide) i0 i1 n1 ?_
  refine sc_c (X := m (-2)) (k := 3) (pc := 1340) e1 dL_law_1340 dL_law_1341 dL_law_1342 dL_law_1343 dL_law_1344 (by decide) i0 i1 n1 ?_
  refine G_callV (pc := 1345) [(0, m (-2) (i + 1)), (0, m (-2) (i + 2)), (0, m (-2) (i + 3))] [(0, r)] dL_law_1345 cv_L_120 rfl (Nat.le_of_ble_eq_true rfl) rfl (ci := 11) rfl at_139 rfl (Nat.le_of_ble_eq_true rfl) (Nat.le_refl _) (Nat.le_refl _) (M_mono (g1 hL1) (fun r2 m2 g2 hn2 => ?_))
  obtain ⟨hL2, er, hk⟩ := g2
  exact G_icmp_eq (pc := 1348) 1979 dL_law_1348 rfl (fun _ => K m2 hL2 hk (fun q hq => (hn2 q hq).trans (hn q hq))) (fun c => absurd er c)
theorem lc_25 {m : jM} {i : Int} {Q : Int → jM → Prop} (hL : Lay m) (i0 : 0 ≤ i) (i1 : i + 7 ≤ m (-2) (-1)) (n1 : m (-2) (-1) ≤ 3584) (hX : ∀ j, -2147483648 ≤ m (-2) j ∧ m (-2) j ≤ 2147483647) (h : allI m) (hs : m 11 5 + 10000 ≤ 20000000) (K : lwK m i Q) : G iL_law SH SH m 1353 [(2, -2), (2, 0), (2, 139), (0, i)] [] Q := by
  refine G_aloadn (pc := 1353) dL_law_1353 rfl ?_
  refine sc_c (X := m (-2)) (k := 1) (pc := 1354) rfl dL_law_1354 dL_law_1355 dL_law_1356 dL_law_1357 dL_law_1358 (by decide) i0 i1 n1 ?_
  refine sc_c (X := m (-2)) (k := 2) (pc := 1359) rfl dL_law_1359 dL_law_1360 dL_law_1361 dL_law_1362 dL_law_1363 (by decide) i0 i1 n1 ?_
  refine sc_c (X := m (-2)) (k := 3) (pc := 1364) rfl dL_law_1364 dL_law_1365 dL_law_1366 dL_law_1367 dL_law_1368 (by decide) i0 i1 n1 ?_
  refine G_callV (pc := 1369) [(0, m (-2) (i + 1)), (0, m (-2) (i + 2)), (0, m (-2) (i + 3))] [] dL_law_1369 cv_L_121 rfl (Nat.le_of_ble_eq_true rfl) rfl (ci := 10) rfl at_0 rfl (Nat.le_of_ble_eq_true rfl) (Nat.le_refl _) (Nat.le_refl _) (M_mono (L_fewest hL h hs hL) (fun r m1 g hn => ?_))
  obtain ⟨hL1, g1⟩ := g
  have e1 := hn (-2) (by decide)
  refine G_aloadn (pc := 1372) dL_law_1372 rfl ?_
  refine sc_c (X := m (-2)) (k := 1) (pc := 1373) e1 dL_law_1373 dL_law_1374 dL_law_1375 dL_law_1376 dL_law_1377 (by decide) i0 i1 n1 ?_
  refine sc_c (X := m (-2)) (k := 2) (pc := 1378) e1 dL_law_1378 dL_law_1379 dL_law_1380 dL_law_1381 dL_law_1382 (by decide) i0 i1 n1 ?_
  refine sc_c (X := m (-2)) (k := 3) (pc := 1383) e1 dL_law_1383 dL_law_1384 dL_law_1385 dL_law_1386 dL_law_1387 (by decide) i0 i1 n1 ?_
  refine G_callV (pc := 1388) [(0, m (-2) (i + 1)), (0, m (-2) (i + 2)), (0, m (-2) (i + 3))] [(0, r)] dL_law_1388 cv_L_124 rfl (Nat.le_of_ble_eq_true rfl) rfl (ci := 11) rfl at_139 rfl (Nat.le_of_ble_eq_true rfl) (Nat.le_refl _) (Nat.le_refl _) (M_mono (g1 hL1) (fun r2 m2 g2 hn2 => ?_))
  obtain ⟨hL2, er, hk⟩ := g2
  exact G_icmp_eq (pc := 1391) 1979 dL_law_1391 rfl (fun _ => K m2 hL2 hk (fun q hq => (hn2 q hq).trans (hn q hq))) (fun c => absurd er c)
theorem lc_26 {m : jM} {i : Int} {Q : Int → jM → Prop} (hL : Lay m) (i0 : 0 ≤ i) (i1 : i + 7 ≤ m (-2) (-1)) (n1 : m (-2) (-1) ≤ 3584) (hX : ∀ j, -2147483648 ≤ m (-2) j ∧ m (-2) j ≤ 2147483647) (h : allI m) (hs : m 11 5 + 10000 ≤ 20000000) (K : lwK m i Q) : G iL_law SH SH m 1396 [(2, -2), (2, 0), (2, 139), (0, i)] [] Q := by
  refine G_aloadn (pc := 1396) dL_law_1396 rfl ?_
  refine sc_c (X := m (-2)) (k := 1) (pc := 1397) rfl dL_law_1397 dL_law_1398 dL_law_1399 dL_law_1400 dL_law_1401 (by decide) i0 i1 n1 ?_
  refine sc_c (X := m (-2)) (k := 2) (pc := 1402) rfl dL_law_1402 dL_law_1403 dL_law_1404 dL_law_1405 dL_law_1406 (by decide) i0 i1 n1 ?_
  refine G_callV (pc := 1407) [(0, m (-2) (i + 1)), (0, m (-2) (i + 2))] [] dL_law_1407 cv_L_125 rfl (Nat.le_of_ble_eq_true rfl) rfl (ci := 10) rfl at_0 rfl (Nat.le_of_ble_eq_true rfl) (Nat.le_refl _) (Nat.le_refl _) (M_mono (L_fleet hL h hs hL) (fun r m1 g hn => ?_))
  obtain ⟨hL1, g1⟩ := g
  have e1 := hn (-2) (by decide)
  refine G_aloadn (pc := 1410) dL_law_1410 rfl ?_
  refine sc_c (X := m (-2)) (k := 1) (pc := 1411) e1 dL_law_1411 dL_law_1412 dL_law_1413 dL_law_1414 dL_law_1415 (by decide) i0 i1 n1 ?_
  refine sc_c (X := m (-2)) (k := 2) (pc := 1416) e1 dL_law_1416 dL_law_1417 dL_law_1418 dL_law_1419 dL_law_1420 (by decide) i0 i1 n1 ?_
  refine G_callV (pc := 1421) [(0, m (-2) (i + 1)), (0, m (-2) (i + 2))] [(0, r)] dL_law_1421 cv_L_128 rfl (Nat.le_of_ble_eq_true rfl) rfl (ci := 11) rfl at_139 rfl (Nat.le_of_ble_eq_true rfl) (Nat.le_refl _) (Nat.le_refl _) (M_mono (g1 hL1) (fun r2 m2 g2 hn2 => ?_))
  obtain ⟨hL2, er, hk⟩ := g2
  exact G_icmp_eq (pc := 1424) 1979 dL_law_1424 rfl (fun _ => K m2 hL2 hk (fun q hq => (hn2 q hq).trans (hn q hq))) (fun c => absurd er c)
theorem lc_27 {m : jM} {i : Int} {Q : Int → jM → Prop} (hL : Lay m) (i0 : 0 ≤ i) (i1 : i + 7 ≤ m (-2) (-1)) (n1 : m (-2) (-1) ≤ 3584) (hX : ∀ j, -2147483648 ≤ m (-2) j ∧ m (-2) j ≤ 2147483647) (h : allI m) (hs : m 11 5 + 10000 ≤ 20000000) (K : lwK m i Q) : G iL_law SH SH m 1429 [(2, -2), (2, 0), (2, 139), (0, i)] [] Q := by
  refine G_aloadn (pc := 1429) dL_law_1429 rfl ?_
  refine sc_c (X := m (-2)) (k := 1) (pc := 1430) rfl dL_law_1430 dL_law_1431 dL_law_1432 dL_law_1433 dL_law_1434 (by decide) i0 i1 n1 ?_
  refine sc_c (X := m (-2)) (k := 2) (pc := 1435) rfl dL_law_1435 dL_law_1436 dL_law_1437 dL_law_1438 dL_law_1439 (by decide) i0 i1 n1 ?_
  refine G_callV (pc := 1440) [(0, m (-2) (i + 1)), (0, m (-2) (i + 2))] [] dL_law_1440 cv_L_129 rfl (Nat.le_of_ble_eq_true rfl) rfl (ci := 10) rfl at_0 rfl (Nat.le_of_ble_eq_true rfl) (Nat.le_refl _) (Nat.le_refl _) (M_mono (L_shifted hL h hs hL) (fun r m1 g hn => ?_))
  obtain ⟨hL1, g1⟩ := g
  have e1 := hn (-2) (by decide)
  refine G_aloadn (pc := 1443) dL_law_1443 rfl ?_
  refine sc_c (X := m (-2)) (k := 1) (pc := 1444) e1 dL_law_1444 dL_law_1445 dL_law_1446 dL_law_1447 dL_law_1448 (by decide) i0 i1 n1 ?_
  refine sc_c (X := m (-2)) (k := 2) (pc := 1449) e1 dL_law_1449 dL_law_1450 dL_law_1451 dL_law_1452 dL_law_1453 (by decide) i0 i1 n1 ?_
  refine G_callV (pc := 1454) [(0, m (-2) (i + 1)), (0, m (-2) (i + 2))] [(0, r)] dL_law_1454 cv_L_132 rfl (Nat.le_of_ble_eq_true rfl) rfl (ci := 11) rfl at_139 rfl (Nat.le_of_ble_eq_true rfl) (Nat.le_refl _) (Nat.le_refl _) (M_mono (g1 hL1) (fun r2 m2 g2 hn2 => ?_))
  obtain ⟨hL2, er, hk⟩ := g2
  exact G_icmp_eq (pc := 1457) 1979 dL_law_1457 rfl (fun _ => K m2 hL2 hk (fun q hq => (hn2 q hq).trans (hn q hq))) (fun c => absurd er c)
theorem lc_28 {m : jM} {i : Int} {Q : Int → jM → Prop} (hL : Lay m) (i0 : 0 ≤ i) (i1 : i + 7 ≤ m (-2) (-1)) (n1 : m (-2) (-1) ≤ 3584) (hX : ∀ j, -2147483648 ≤ m (-2) j ∧ m (-2) j ≤ 2147483647) (h : allI m) (hs : m 11 5 + 10000 ≤ 20000000) (K : lwK m i Q) : G iL_law SH SH m 1462 [(2, -2), (2, 0), (2, 139), (0, i)] [] Q := by
  refine G_aloadn (pc := 1462) dL_law_1462 rfl ?_
  refine sc_c (X := m (-2)) (k := 1) (pc := 1463) rfl dL_law_1463 dL_law_1464 dL_law_1465 dL_law_1466 dL_law_1467 (by decide) i0 i1 n1 ?_
  refine sc_c (X := m (-2)) (k := 2) (pc := 1468) rfl dL_law_1468 dL_law_1469 dL_law_1470 dL_law_1471 dL_law_1472 (by decide) i0 i1 n1 ?_
  refine sc_c (X := m (-2)) (k := 3) (pc := 1473) rfl dL_law_1473 dL_law_1474 dL_law_1475 dL_law_1476 dL_law_1477 (by decide) i0 i1 n1 ?_
  refine G_callV (pc := 1478) [(0, m (-2) (i + 1)), (0, m (-2) (i + 2)), (0, m (-2) (i + 3))] [] dL_law_1478 cv_L_133 rfl (Nat.le_of_ble_eq_true rfl) rfl (ci := 10) rfl at_0 rfl (Nat.le_of_ble_eq_true rfl) (Nat.le_refl _) (Nat.le_refl _) (M_mono (L_shift hL h hs hL) (fun r m1 g hn => ?_))
  obtain ⟨hL1, g1⟩ := g
  have e1 := hn (-2) (by decide)
  refine G_aloadn (pc := 1481) dL_law_1481 rfl ?_
  refine sc_c (X := m (-2)) (k := 1) (pc := 1482) e1 dL_law_1482 dL_law_1483 dL_law_1484 dL_law_1485 dL_law_1486 (by decide) i0 i1 n1 ?_
  refine sc_c (X := m (-2)) (k := 2) (pc := 1487) e1 dL_law_1487 dL_law_1488 dL_law_1489 dL_law_1490 dL_law_1491 (by decide) i0 i1 n1 ?_
  refine sc_c (X := m (-2)) (k := 3) (pc := 1492) e1 dL_law_1492 dL_law_1493 dL_law_1494 dL_law_1495 dL_law_1496 (by decide) i0 i1 n1 ?_
  refine G_callV (pc := 1497) [(0, m (-2) (i + 1)), (0, m (-2) (i + 2)), (0, m (-2) (i + 3))] [(0, r)] dL_law_1497 cv_L_136 rfl (Nat.le_of_ble_eq_true rfl) rfl (ci := 11) rfl at_139 rfl (Nat.le_of_ble_eq_true rfl) (Nat.le_refl _) (Nat.le_refl _) (M_mono (g1 hL1) (fun r2 m2 g2 hn2 => ?_))
  obtain ⟨hL2, er, hk⟩ := g2
  exact G_icmp_eq (pc := 1500) 1979 dL_law_1500 rfl (fun _ => K m2 hL2 hk (fun q hq => (hn2 q hq).trans (hn q hq))) (fun c => absurd er c)
theorem lc_29 {m : jM} {i : Int} {Q : Int → jM → Prop} (hL : Lay m) (i0 : 0 ≤ i) (i1 : i + 7 ≤ m (-2) (-1)) (n1 : m (-2) (-1) ≤ 3584) (hX : ∀ j, -2147483648 ≤ m (-2) j ∧ m (-2) j ≤ 2147483647) (h : allI m) (hs : m 11 5 + 10000 ≤ 20000000) (K : lwK m i Q) : G iL_law SH SH m 1505 [(2, -2), (2, 0), (2, 139), (0, i)] [] Q := by
  refine G_aloadn (pc := 1505) dL_law_1505 rfl ?_
  refine sc_c (X := m (-2)) (k := 1) (pc := 1506) rfl dL_law_1506 dL_law_1507 dL_law_1508 dL_law_1509 dL_law_1510 (by decide) i0 i1 n1 ?_
  refine sc_c (X := m (-2)) (k := 2) (pc := 1511) rfl dL_law_1511 dL_law_1512 dL_law_1513 dL_law_1514 dL_law_1515 (by decide) i0 i1 n1 ?_
  refine sc_c (X := m (-2)) (k := 3) (pc := 1516) rfl dL_law_1516 dL_law_1517 dL_law_1518 dL_law_1519 dL_law_1520 (by decide) i0 i1 n1 ?_
  refine G_callV (pc := 1521) [(0, m (-2) (i + 1)), (0, m (-2) (i + 2)), (0, m (-2) (i + 3))] [] dL_law_1521 cv_L_137 rfl (Nat.le_of_ble_eq_true rfl) rfl (ci := 10) rfl at_0 rfl (Nat.le_of_ble_eq_true rfl) (Nat.le_refl _) (Nat.le_refl _) (M_mono (L_bid hL h hs hL) (fun r m1 g hn => ?_))
  obtain ⟨hL1, g1⟩ := g
  have e1 := hn (-2) (by decide)
  refine G_aloadn (pc := 1524) dL_law_1524 rfl ?_
  refine sc_c (X := m (-2)) (k := 1) (pc := 1525) e1 dL_law_1525 dL_law_1526 dL_law_1527 dL_law_1528 dL_law_1529 (by decide) i0 i1 n1 ?_
  refine sc_c (X := m (-2)) (k := 2) (pc := 1530) e1 dL_law_1530 dL_law_1531 dL_law_1532 dL_law_1533 dL_law_1534 (by decide) i0 i1 n1 ?_
  refine sc_c (X := m (-2)) (k := 3) (pc := 1535) e1 dL_law_1535 dL_law_1536 dL_law_1537 dL_law_1538 dL_law_1539 (by decide) i0 i1 n1 ?_
  refine G_callV (pc := 1540) [(0, m (-2) (i + 1)), (0, m (-2) (i + 2)), (0, m (-2) (i + 3))] [(0, r)] dL_law_1540 cv_L_140 rfl (Nat.le_of_ble_eq_true rfl) rfl (ci := 11) rfl at_139 rfl (Nat.le_of_ble_eq_true rfl) (Nat.le_refl _) (Nat.le_refl _) (M_mono (g1 hL1) (fun r2 m2 g2 hn2 => ?_))
  obtain ⟨hL2, er, hk⟩ := g2
  exact G_icmp_eq (pc := 1543) 1979 dL_law_1543 rfl (fun _ => K m2 hL2 hk (fun q hq => (hn2 q hq).trans (hn q hq))) (fun c => absurd er c)
theorem lc_30 {m : jM} {i : Int} {Q : Int → jM → Prop} (hL : Lay m) (i0 : 0 ≤ i) (i1 : i + 7 ≤ m (-2) (-1)) (n1 : m (-2) (-1) ≤ 3584) (hX : ∀ j, -2147483648 ≤ m (-2) j ∧ m (-2) j ≤ 2147483647) (h : allI m) (hs : m 11 5 + 10000 ≤ 20000000) (K : lwK m i Q) : G iL_law SH SH m 1548 [(2, -2), (2, 0), (2, 139), (0, i)] [] Q := by
  refine G_aloadn (pc := 1548) dL_law_1548 rfl ?_
  refine sc_c (X := m (-2)) (k := 1) (pc := 1549) rfl dL_law_1549 dL_law_1550 dL_law_1551 dL_law_1552 dL_law_1553 (by decide) i0 i1 n1 ?_
  refine sc_c (X := m (-2)) (k := 2) (pc := 1554) rfl dL_law_1554 dL_law_1555 dL_law_1556 dL_law_1557 dL_law_1558 (by decide) i0 i1 n1 ?_
  refine G_callV (pc := 1559) [(0, m (-2) (i + 1)), (0, m (-2) (i + 2))] [] dL_law_1559 cv_L_141 rfl (Nat.le_of_ble_eq_true rfl) rfl (ci := 10) rfl at_0 rfl (Nat.le_of_ble_eq_true rfl) (Nat.le_refl _) (Nat.le_refl _) (M_mono (L_award hL h hs hL) (fun r m1 g hn => ?_))
  obtain ⟨hL1, g1⟩ := g
  have e1 := hn (-2) (by decide)
  refine G_aloadn (pc := 1562) dL_law_1562 rfl ?_
  refine sc_c (X := m (-2)) (k := 1) (pc := 1563) e1 dL_law_1563 dL_law_1564 dL_law_1565 dL_law_1566 dL_law_1567 (by decide) i0 i1 n1 ?_
  refine sc_c (X := m (-2)) (k := 2) (pc := 1568) e1 dL_law_1568 dL_law_1569 dL_law_1570 dL_law_1571 dL_law_1572 (by decide) i0 i1 n1 ?_
  refine G_callV (pc := 1573) [(0, m (-2) (i + 1)), (0, m (-2) (i + 2))] [(0, r)] dL_law_1573 cv_L_144 rfl (Nat.le_of_ble_eq_true rfl) rfl (ci := 11) rfl at_139 rfl (Nat.le_of_ble_eq_true rfl) (Nat.le_refl _) (Nat.le_refl _) (M_mono (g1 hL1) (fun r2 m2 g2 hn2 => ?_))
  obtain ⟨hL2, er, hk⟩ := g2
  exact G_icmp_eq (pc := 1576) 1979 dL_law_1576 rfl (fun _ => K m2 hL2 hk (fun q hq => (hn2 q hq).trans (hn q hq))) (fun c => absurd er c)
theorem lc_31 {m : jM} {i : Int} {Q : Int → jM → Prop} (hL : Lay m) (i0 : 0 ≤ i) (i1 : i + 7 ≤ m (-2) (-1)) (n1 : m (-2) (-1) ≤ 3584) (hX : ∀ j, -2147483648 ≤ m (-2) j ∧ m (-2) j ≤ 2147483647) (h : allI m) (hs : m 11 5 + 10000 ≤ 20000000) (K : lwK m i Q) : G iL_law SH SH m 1581 [(2, -2), (2, 0), (2, 139), (0, i)] [] Q := by
  refine G_aloadn (pc := 1581) dL_law_1581 rfl ?_
  refine sc_c (X := m (-2)) (k := 1) (pc := 1582) rfl dL_law_1582 dL_law_1583 dL_law_1584 dL_law_1585 dL_law_1586 (by decide) i0 i1 n1 ?_
  refine sc_c (X := m (-2)) (k := 2) (pc := 1587) rfl dL_law_1587 dL_law_1588 dL_law_1589 dL_law_1590 dL_law_1591 (by decide) i0 i1 n1 ?_
  refine sc_c (X := m (-2)) (k := 3) (pc := 1592) rfl dL_law_1592 dL_law_1593 dL_law_1594 dL_law_1595 dL_law_1596 (by decide) i0 i1 n1 ?_
  refine G_callV (pc := 1597) [(0, m (-2) (i + 1)), (0, m (-2) (i + 2)), (0, m (-2) (i + 3))] [] dL_law_1597 cv_L_145 rfl (Nat.le_of_ble_eq_true rfl) rfl (ci := 10) rfl at_0 rfl (Nat.le_of_ble_eq_true rfl) (Nat.le_refl _) (Nat.le_refl _) (M_mono (L_awarded hL h hs hL) (fun r m1 g hn => ?_))
  obtain ⟨hL1, g1⟩ := g
  have e1 := hn (-2) (by decide)
  refine G_aloadn (pc := 1600) dL_law_1600 rfl ?_
  refine sc_c (X := m (-2)) (k := 1) (pc := 1601) e1 dL_law_1601 dL_law_1602 dL_law_1603 dL_law_1604 dL_law_1605 (by decide) i0 i1 n1 ?_
  refine sc_c (X := m (-2)) (k := 2) (pc := 1606) e1 dL_law_1606 dL_law_1607 dL_law_1608 dL_law_1609 dL_law_1610 (by decide) i0 i1 n1 ?_
  refine sc_c (X := m (-2)) (k := 3) (pc := 1611) e1 dL_law_1611 dL_law_1612 dL_law_1613 dL_law_1614 dL_law_1615 (by decide) i0 i1 n1 ?_
  refine G_callV (pc := 1616) [(0, m (-2) (i + 1)), (0, m (-2) (i + 2)), (0, m (-2) (i + 3))] [(0, r)] dL_law_1616 cv_L_148 rfl (Nat.le_of_ble_eq_true rfl) rfl (ci := 11) rfl at_139 rfl (Nat.le_of_ble_eq_true rfl) (Nat.le_refl _) (Nat.le_refl _) (M_mono (g1 hL1) (fun r2 m2 g2 hn2 => ?_))
  obtain ⟨hL2, er, hk⟩ := g2
  exact G_icmp_eq (pc := 1619) 1979 dL_law_1619 rfl (fun _ => K m2 hL2 hk (fun q hq => (hn2 q hq).trans (hn q hq))) (fun c => absurd er c)
theorem lc_32 {m : jM} {i : Int} {Q : Int → jM → Prop} (hL : Lay m) (i0 : 0 ≤ i) (i1 : i + 7 ≤ m (-2) (-1)) (n1 : m (-2) (-1) ≤ 3584) (hX : ∀ j, -2147483648 ≤ m (-2) j ∧ m (-2) j ≤ 2147483647) (h : allI m) (hs : m 11 5 + 10000 ≤ 20000000) (K : lwK m i Q) : G iL_law SH SH m 1624 [(2, -2), (2, 0), (2, 139), (0, i)] [] Q := by
  refine G_aloadn (pc := 1624) dL_law_1624 rfl ?_
  refine sc_c (X := m (-2)) (k := 1) (pc := 1625) rfl dL_law_1625 dL_law_1626 dL_law_1627 dL_law_1628 dL_law_1629 (by decide) i0 i1 n1 ?_
  refine G_callV (pc := 1630) [(0, m (-2) (i + 1))] [] dL_law_1630 cv_L_149 rfl (Nat.le_of_ble_eq_true rfl) rfl (ci := 10) rfl at_0 rfl (Nat.le_of_ble_eq_true rfl) (Nat.le_refl _) (Nat.le_refl _) (M_mono (L_driver hL h hs hL) (fun r m1 g hn => ?_))
  obtain ⟨hL1, g1⟩ := g
  have e1 := hn (-2) (by decide)
  refine G_aloadn (pc := 1633) dL_law_1633 rfl ?_
  refine sc_c (X := m (-2)) (k := 1) (pc := 1634) e1 dL_law_1634 dL_law_1635 dL_law_1636 dL_law_1637 dL_law_1638 (by decide) i0 i1 n1 ?_
  refine G_callV (pc := 1639) [(0, m (-2) (i + 1))] [(0, r)] dL_law_1639 cv_L_152 rfl (Nat.le_of_ble_eq_true rfl) rfl (ci := 11) rfl at_139 rfl (Nat.le_of_ble_eq_true rfl) (Nat.le_refl _) (Nat.le_refl _) (M_mono (g1 hL1) (fun r2 m2 g2 hn2 => ?_))
  obtain ⟨hL2, er, hk⟩ := g2
  exact G_icmp_eq (pc := 1642) 1979 dL_law_1642 rfl (fun _ => K m2 hL2 hk (fun q hq => (hn2 q hq).trans (hn q hq))) (fun c => absurd er c)
theorem lc_33_0 {m : jM} {i : Int} {Q : Int → jM → Prop} (hL : Lay m) (i0 : 0 ≤ i) (i1 : i + 7 ≤ m (-2) (-1)) (n1 : m (-2) (-1) ≤ 3584) (hX : ∀ j, -2147483648 ≤ m (-2) j ∧ m (-2) j ≤ 2147483647) (h : allI m) (hs : m 11 5 + 10000 ≤ 20000000) (z : m (-2) (i + 2) = 0) (K : lwK m i Q) : G iL_law SH SH m 1647 [(2, -2), (2, 0), (2, 139), (0, i)] [] Q := by
  refine G_aloadn (pc := 1647) dL_law_1647 rfl ?_
  refine sc_c (X := m (-2)) (k := 1) (pc := 1648) rfl dL_law_1648 dL_law_1649 dL_law_1650 dL_law_1651 dL_law_1652 (by decide) i0 i1 n1 ?_
  refine sc_c (X := m (-2)) (k := 2) (pc := 1653) rfl dL_law_1653 dL_law_1654 dL_law_1655 dL_law_1656 dL_law_1657 (by decide) i0 i1 n1 ?_
  refine G_if_eq (pc := 1658) 1665 dL_law_1658 rfl (fun _ => ?_) (fun c => absurd z c)
  refine G_iconst (pc := 1665) dL_law_1665 (by decide) ?_
  refine G_callV (pc := 1666) [(0, m (-2) (i + 1)), (0, 0)] [] dL_law_1666 cv_L_153 rfl (Nat.le_of_ble_eq_true rfl) rfl (ci := 10) rfl at_0 rfl (Nat.le_of_ble_eq_true rfl) (Nat.le_refl _) (Nat.le_refl _) (M_mono (L_leave hL h hs (Or.inl rfl) hL) (fun r m1 g hn => ?_))
  obtain ⟨hL1, g1⟩ := g
  have e1 := hn (-2) (by decide)
  refine G_aloadn (pc := 1669) dL_law_1669 rfl ?_
  refine sc_c (X := m (-2)) (k := 1) (pc := 1670) e1 dL_law_1670 dL_law_1671 dL_law_1672 dL_law_1673 dL_law_1674 (by decide) i0 i1 n1 ?_
  refine sc_c (X := m (-2)) (k := 2) (pc := 1675) e1 dL_law_1675 dL_law_1676 dL_law_1677 dL_law_1678 dL_law_1679 (by decide) i0 i1 n1 ?_
  refine G_if_eq (pc := 1680) 1687 dL_law_1680 rfl (fun _ => ?_) (fun c => absurd z c)
  refine G_iconst (pc := 1687) dL_law_1687 (by decide) ?_
  refine G_callV (pc := 1688) [(0, m (-2) (i + 1)), (0, 0)] [(0, r)] dL_law_1688 cv_L_157 rfl (Nat.le_of_ble_eq_true rfl) rfl (ci := 11) rfl at_139 rfl (Nat.le_of_ble_eq_true rfl) (Nat.le_refl _) (Nat.le_refl _) (M_mono (g1 hL1) (fun r2 m2 g2 hn2 => ?_))
  obtain ⟨hL2, er, hk⟩ := g2
  exact G_icmp_eq (pc := 1691) 1979 dL_law_1691 rfl (fun _ => K m2 hL2 hk (fun q hq => (hn2 q hq).trans (hn q hq))) (fun c => absurd er c)
theorem lc_33_1 {m : jM} {i : Int} {Q : Int → jM → Prop} (hL : Lay m) (i0 : 0 ≤ i) (i1 : i + 7 ≤ m (-2) (-1)) (n1 : m (-2) (-1) ≤ 3584) (hX : ∀ j, -2147483648 ≤ m (-2) j ∧ m (-2) j ≤ 2147483647) (h : allI m) (hs : m 11 5 + 10000 ≤ 20000000) (z : ¬ m (-2) (i + 2) = 0) (K : lwK m i Q) : G iL_law SH SH m 1647 [(2, -2), (2, 0), (2, 139), (0, i)] [] Q := by
  refine G_aloadn (pc := 1647) dL_law_1647 rfl ?_
  refine sc_c (X := m (-2)) (k := 1) (pc := 1648) rfl dL_law_1648 dL_law_1649 dL_law_1650 dL_law_1651 dL_law_1652 (by decide) i0 i1 n1 ?_
  refine sc_c (X := m (-2)) (k := 2) (pc := 1653) rfl dL_law_1653 dL_law_1654 dL_law_1655 dL_law_1656 dL_law_1657 (by decide) i0 i1 n1 ?_
  refine G_if_eq (pc := 1658) 1665 dL_law_1658 rfl (fun c => absurd c z) (fun _ => ?_)
  refine G_iconst (pc := 1661) dL_law_1661 (by decide) ?_
  refine G_goto (pc := 1662) 1666 dL_law_1662 rfl ?_
  refine G_callV (pc := 1666) [(0, m (-2) (i + 1)), (0, 1)] [] dL_law_1666 cv_L_153 rfl (Nat.le_of_ble_eq_true rfl) rfl (ci := 10) rfl at_0 rfl (Nat.le_of_ble_eq_true rfl) (Nat.le_refl _) (Nat.le_refl _) (M_mono (L_leave hL h hs (Or.inr rfl) hL) (fun r m1 g hn => ?_))
  obtain ⟨hL1, g1⟩ := g
  have e1 := hn (-2) (by decide)
  refine G_aloadn (pc := 1669) dL_law_1669 rfl ?_
  refine sc_c (X := m (-2)) (k := 1) (pc := 1670) e1 dL_law_1670 dL_law_1671 dL_law_1672 dL_law_1673 dL_law_1674 (by decide) i0 i1 n1 ?_
  refine sc_c (X := m (-2)) (k := 2) (pc := 1675) e1 dL_law_1675 dL_law_1676 dL_law_1677 dL_law_1678 dL_law_1679 (by decide) i0 i1 n1 ?_
  refine G_if_eq (pc := 1680) 1687 dL_law_1680 rfl (fun c => absurd c z) (fun _ => ?_)
  refine G_iconst (pc := 1683) dL_law_1683 (by decide) ?_
  refine G_goto (pc := 1684) 1688 dL_law_1684 rfl ?_
  refine G_callV (pc := 1688) [(0, m (-2) (i + 1)), (0, 1)] [(0, r)] dL_law_1688 cv_L_157 rfl (Nat.le_of_ble_eq_true rfl) rfl (ci := 11) rfl at_139 rfl (Nat.le_of_ble_eq_true rfl) (Nat.le_refl _) (Nat.le_refl _) (M_mono (g1 hL1) (fun r2 m2 g2 hn2 => ?_))
  obtain ⟨hL2, er, hk⟩ := g2
  exact G_icmp_eq (pc := 1691) 1979 dL_law_1691 rfl (fun _ => K m2 hL2 hk (fun q hq => (hn2 q hq).trans (hn q hq))) (fun c => absurd er c)
theorem lc_33 {m : jM} {i : Int} {Q : Int → jM → Prop} (hL : Lay m) (i0 : 0 ≤ i) (i1 : i + 7 ≤ m (-2) (-1)) (n1 : m (-2) (-1) ≤ 3584) (hX : ∀ j, -2147483648 ≤ m (-2) j ∧ m (-2) j ≤ 2147483647) (h : allI m) (hs : m 11 5 + 10000 ≤ 20000000) (K : lwK m i Q) : G iL_law SH SH m 1647 [(2, -2), (2, 0), (2, 139), (0, i)] [] Q := by
  by_cases z : m (-2) (i + 2) = 0
  · exact lc_33_0 hL i0 i1 n1 hX h hs z K
  · exact lc_33_1 hL i0 i1 n1 hX h hs z K
theorem lc_34 {m : jM} {i : Int} {Q : Int → jM → Prop} (hL : Lay m) (i0 : 0 ≤ i) (i1 : i + 7 ≤ m (-2) (-1)) (n1 : m (-2) (-1) ≤ 3584) (hX : ∀ j, -2147483648 ≤ m (-2) j ∧ m (-2) j ≤ 2147483647) (h : allI m) (hs : m 11 5 + 10000 ≤ 20000000) (K : lwK m i Q) : G iL_law SH SH m 1696 [(2, -2), (2, 0), (2, 139), (0, i)] [] Q := by
  refine G_aloadn (pc := 1696) dL_law_1696 rfl ?_
  refine sc_c (X := m (-2)) (k := 1) (pc := 1697) rfl dL_law_1697 dL_law_1698 dL_law_1699 dL_law_1700 dL_law_1701 (by decide) i0 i1 n1 ?_
  refine sc_c (X := m (-2)) (k := 2) (pc := 1702) rfl dL_law_1702 dL_law_1703 dL_law_1704 dL_law_1705 dL_law_1706 (by decide) i0 i1 n1 ?_
  refine G_callV (pc := 1707) [(0, m (-2) (i + 1)), (0, m (-2) (i + 2))] [] dL_law_1707 cv_L_158 rfl (Nat.le_of_ble_eq_true rfl) rfl (ci := 10) rfl at_0 rfl (Nat.le_of_ble_eq_true rfl) (Nat.le_refl _) (Nat.le_refl _) (M_mono (L_weigh hL h hs hL) (fun r m1 g hn => ?_))
  obtain ⟨hL1, g1⟩ := g
  have e1 := hn (-2) (by decide)
  refine G_aloadn (pc := 1710) dL_law_1710 rfl ?_
  refine sc_c (X := m (-2)) (k := 1) (pc := 1711) e1 dL_law_1711 dL_law_1712 dL_law_1713 dL_law_1714 dL_law_1715 (by decide) i0 i1 n1 ?_
  refine sc_c (X := m (-2)) (k := 2) (pc := 1716) e1 dL_law_1716 dL_law_1717 dL_law_1718 dL_law_1719 dL_law_1720 (by decide) i0 i1 n1 ?_
  refine G_callV (pc := 1721) [(0, m (-2) (i + 1)), (0, m (-2) (i + 2))] [(0, r)] dL_law_1721 cv_L_162 rfl (Nat.le_of_ble_eq_true rfl) rfl (ci := 11) rfl at_139 rfl (Nat.le_of_ble_eq_true rfl) (Nat.le_refl _) (Nat.le_refl _) (M_mono (g1 hL1) (fun r2 m2 g2 hn2 => ?_))
  obtain ⟨hL2, er, hk⟩ := g2
  exact G_icmp_eq (pc := 1724) 1979 dL_law_1724 rfl (fun _ => K m2 hL2 hk (fun q hq => (hn2 q hq).trans (hn q hq))) (fun c => absurd er c)
theorem lc_35 {m : jM} {i : Int} {Q : Int → jM → Prop} (hL : Lay m) (i0 : 0 ≤ i) (i1 : i + 7 ≤ m (-2) (-1)) (n1 : m (-2) (-1) ≤ 3584) (hX : ∀ j, -2147483648 ≤ m (-2) j ∧ m (-2) j ≤ 2147483647) (h : allI m) (hs : m 11 5 + 10000 ≤ 20000000) (K : lwK m i Q) : G iL_law SH SH m 1729 [(2, -2), (2, 0), (2, 139), (0, i)] [] Q := by
  refine G_aloadn (pc := 1729) dL_law_1729 rfl ?_
  refine sc_c (X := m (-2)) (k := 1) (pc := 1730) rfl dL_law_1730 dL_law_1731 dL_law_1732 dL_law_1733 dL_law_1734 (by decide) i0 i1 n1 ?_
  refine G_callV (pc := 1735) [(0, m (-2) (i + 1))] [] dL_law_1735 cv_L_163 rfl (Nat.le_of_ble_eq_true rfl) rfl (ci := 10) rfl at_0 rfl (Nat.le_of_ble_eq_true rfl) (Nat.le_refl _) (Nat.le_refl _) (M_mono (L_cover hL h hs hL) (fun r m1 g hn => ?_))
  obtain ⟨hL1, g1⟩ := g
  have e1 := hn (-2) (by decide)
  refine G_aloadn (pc := 1738) dL_law_1738 rfl ?_
  refine sc_c (X := m (-2)) (k := 1) (pc := 1739) e1 dL_law_1739 dL_law_1740 dL_law_1741 dL_law_1742 dL_law_1743 (by decide) i0 i1 n1 ?_
  refine G_callV (pc := 1744) [(0, m (-2) (i + 1))] [(0, r)] dL_law_1744 cv_L_166 rfl (Nat.le_of_ble_eq_true rfl) rfl (ci := 11) rfl at_139 rfl (Nat.le_of_ble_eq_true rfl) (Nat.le_refl _) (Nat.le_refl _) (M_mono (g1 hL1) (fun r2 m2 g2 hn2 => ?_))
  obtain ⟨hL2, er, hk⟩ := g2
  exact G_icmp_eq (pc := 1747) 1979 dL_law_1747 rfl (fun _ => K m2 hL2 hk (fun q hq => (hn2 q hq).trans (hn q hq))) (fun c => absurd er c)
theorem lc_36 {m : jM} {i : Int} {Q : Int → jM → Prop} (hL : Lay m) (i0 : 0 ≤ i) (i1 : i + 7 ≤ m (-2) (-1)) (n1 : m (-2) (-1) ≤ 3584) (hX : ∀ j, -2147483648 ≤ m (-2) j ∧ m (-2) j ≤ 2147483647) (h : allI m) (hs : m 11 5 + 10000 ≤ 20000000) (K : lwK m i Q) : G iL_law SH SH m 1752 [(2, -2), (2, 0), (2, 139), (0, i)] [] Q := by
  refine G_aloadn (pc := 1752) dL_law_1752 rfl ?_
  refine sc_c (X := m (-2)) (k := 1) (pc := 1753) rfl dL_law_1753 dL_law_1754 dL_law_1755 dL_law_1756 dL_law_1757 (by decide) i0 i1 n1 ?_
  refine sc_c (X := m (-2)) (k := 2) (pc := 1758) rfl dL_law_1758 dL_law_1759 dL_law_1760 dL_law_1761 dL_law_1762 (by decide) i0 i1 n1 ?_
  refine G_callV (pc := 1763) [(0, m (-2) (i + 1)), (0, m (-2) (i + 2))] [] dL_law_1763 cv_L_167 rfl (Nat.le_of_ble_eq_true rfl) rfl (ci := 10) rfl at_0 rfl (Nat.le_of_ble_eq_true rfl) (Nat.le_refl _) (Nat.le_refl _) (M_mono (L_drives hL h hs hL) (fun r m1 g hn => ?_))
  obtain ⟨hL1, g1⟩ := g
  have e1 := hn (-2) (by decide)
  refine G_aloadn (pc := 1766) dL_law_1766 rfl ?_
  refine sc_c (X := m (-2)) (k := 1) (pc := 1767) e1 dL_law_1767 dL_law_1768 dL_law_1769 dL_law_1770 dL_law_1771 (by decide) i0 i1 n1 ?_
  refine sc_c (X := m (-2)) (k := 2) (pc := 1772) e1 dL_law_1772 dL_law_1773 dL_law_1774 dL_law_1775 dL_law_1776 (by decide) i0 i1 n1 ?_
  refine G_callV (pc := 1777) [(0, m (-2) (i + 1)), (0, m (-2) (i + 2))] [(0, r)] dL_law_1777 cv_L_170 rfl (Nat.le_of_ble_eq_true rfl) rfl (ci := 11) rfl at_139 rfl (Nat.le_of_ble_eq_true rfl) (Nat.le_refl _) (Nat.le_refl _) (M_mono (g1 hL1) (fun r2 m2 g2 hn2 => ?_))
  obtain ⟨hL2, er, hk⟩ := g2
  exact G_icmp_eq (pc := 1780) 1979 dL_law_1780 rfl (fun _ => K m2 hL2 hk (fun q hq => (hn2 q hq).trans (hn q hq))) (fun c => absurd er c)
theorem lc_37 {m : jM} {i : Int} {Q : Int → jM → Prop} (hL : Lay m) (i0 : 0 ≤ i) (i1 : i + 7 ≤ m (-2) (-1)) (n1 : m (-2) (-1) ≤ 3584) (hX : ∀ j, -2147483648 ≤ m (-2) j ∧ m (-2) j ≤ 2147483647) (h : allI m) (hs : m 11 5 + 10000 ≤ 20000000) (K : lwK m i Q) : G iL_law SH SH m 1785 [(2, -2), (2, 0), (2, 139), (0, i)] [] Q := by
  refine G_aloadn (pc := 1785) dL_law_1785 rfl ?_
  refine sc_c (X := m (-2)) (k := 1) (pc := 1786) rfl dL_law_1786 dL_law_1787 dL_law_1788 dL_law_1789 dL_law_1790 (by decide) i0 i1 n1 ?_
  refine sc_c (X := m (-2)) (k := 2) (pc := 1791) rfl dL_law_1791 dL_law_1792 dL_law_1793 dL_law_1794 dL_law_1795 (by decide) i0 i1 n1 ?_
  refine sc_c (X := m (-2)) (k := 3) (pc := 1796) rfl dL_law_1796 dL_law_1797 dL_law_1798 dL_law_1799 dL_law_1800 (by decide) i0 i1 n1 ?_
  refine G_callV (pc := 1801) [(0, m (-2) (i + 1)), (0, m (-2) (i + 2)), (0, m (-2) (i + 3))] [] dL_law_1801 cv_L_171 rfl (Nat.le_of_ble_eq_true rfl) rfl (ci := 10) rfl at_0 rfl (Nat.le_of_ble_eq_true rfl) (Nat.le_refl _) (Nat.le_refl _) (M_mono (L_call hL h hs hL) (fun r m1 g hn => ?_))
  obtain ⟨hL1, g1⟩ := g
  have e1 := hn (-2) (by decide)
  refine G_aloadn (pc := 1804) dL_law_1804 rfl ?_
  refine sc_c (X := m (-2)) (k := 1) (pc := 1805) e1 dL_law_1805 dL_law_1806 dL_law_1807 dL_law_1808 dL_law_1809 (by decide) i0 i1 n1 ?_
  refine sc_c (X := m (-2)) (k := 2) (pc := 1810) e1 dL_law_1810 dL_law_1811 dL_law_1812 dL_law_1813 dL_law_1814 (by decide) i0 i1 n1 ?_
  refine sc_c (X := m (-2)) (k := 3) (pc := 1815) e1 dL_law_1815 dL_law_1816 dL_law_1817 dL_law_1818 dL_law_1819 (by decide) i0 i1 n1 ?_
  refine G_callV (pc := 1820) [(0, m (-2) (i + 1)), (0, m (-2) (i + 2)), (0, m (-2) (i + 3))] [(0, r)] dL_law_1820 cv_L_174 rfl (Nat.le_of_ble_eq_true rfl) rfl (ci := 11) rfl at_139 rfl (Nat.le_of_ble_eq_true rfl) (Nat.le_refl _) (Nat.le_refl _) (M_mono (g1 hL1) (fun r2 m2 g2 hn2 => ?_))
  obtain ⟨hL2, er, hk⟩ := g2
  exact G_icmp_eq (pc := 1823) 1979 dL_law_1823 rfl (fun _ => K m2 hL2 hk (fun q hq => (hn2 q hq).trans (hn q hq))) (fun c => absurd er c)
theorem lc_38 {m : jM} {i : Int} {Q : Int → jM → Prop} (hL : Lay m) (i0 : 0 ≤ i) (i1 : i + 7 ≤ m (-2) (-1)) (n1 : m (-2) (-1) ≤ 3584) (hX : ∀ j, -2147483648 ≤ m (-2) j ∧ m (-2) j ≤ 2147483647) (h : allI m) (hs : m 11 5 + 10000 ≤ 20000000) (K : lwK m i Q) : G iL_law SH SH m 1828 [(2, -2), (2, 0), (2, 139), (0, i)] [] Q := by
  refine G_aloadn (pc := 1828) dL_law_1828 rfl ?_
  refine sc_c (X := m (-2)) (k := 1) (pc := 1829) rfl dL_law_1829 dL_law_1830 dL_law_1831 dL_law_1832 dL_law_1833 (by decide) i0 i1 n1 ?_
  refine sc_c (X := m (-2)) (k := 2) (pc := 1834) rfl dL_law_1834 dL_law_1835 dL_law_1836 dL_law_1837 dL_law_1838 (by decide) i0 i1 n1 ?_
  refine G_callV (pc := 1839) [(0, m (-2) (i + 1)), (0, m (-2) (i + 2))] [] dL_law_1839 cv_L_175 rfl (Nat.le_of_ble_eq_true rfl) rfl (ci := 10) rfl at_0 rfl (Nat.le_of_ble_eq_true rfl) (Nat.le_refl _) (Nat.le_refl _) (M_mono (L_told hL h hs hL) (fun r m1 g hn => ?_))
  obtain ⟨hL1, g1⟩ := g
  have e1 := hn (-2) (by decide)
  refine G_aloadn (pc := 1842) dL_law_1842 rfl ?_
  refine sc_c (X := m (-2)) (k := 1) (pc := 1843) e1 dL_law_1843 dL_law_1844 dL_law_1845 dL_law_1846 dL_law_1847 (by decide) i0 i1 n1 ?_
  refine sc_c (X := m (-2)) (k := 2) (pc := 1848) e1 dL_law_1848 dL_law_1849 dL_law_1850 dL_law_1851 dL_law_1852 (by decide) i0 i1 n1 ?_
  refine G_callV (pc := 1853) [(0, m (-2) (i + 1)), (0, m (-2) (i + 2))] [(0, r)] dL_law_1853 cv_L_178 rfl (Nat.le_of_ble_eq_true rfl) rfl (ci := 11) rfl at_139 rfl (Nat.le_of_ble_eq_true rfl) (Nat.le_refl _) (Nat.le_refl _) (M_mono (g1 hL1) (fun r2 m2 g2 hn2 => ?_))
  obtain ⟨hL2, er, hk⟩ := g2
  exact G_icmp_eq (pc := 1856) 1979 dL_law_1856 rfl (fun _ => K m2 hL2 hk (fun q hq => (hn2 q hq).trans (hn q hq))) (fun c => absurd er c)
theorem lc_39 {m : jM} {i : Int} {Q : Int → jM → Prop} (hL : Lay m) (i0 : 0 ≤ i) (i1 : i + 7 ≤ m (-2) (-1)) (n1 : m (-2) (-1) ≤ 3584) (hX : ∀ j, -2147483648 ≤ m (-2) j ∧ m (-2) j ≤ 2147483647) (h : allI m) (hs : m 11 5 + 10000 ≤ 20000000) (K : lwK m i Q) : G iL_law SH SH m 1861 [(2, -2), (2, 0), (2, 139), (0, i)] [] Q := by
  refine G_aloadn (pc := 1861) dL_law_1861 rfl ?_
  refine G_callV (pc := 1862) [] [] dL_law_1862 cv_L_179 rfl (Nat.le_of_ble_eq_true rfl) rfl (ci := 10) rfl at_0 rfl (Nat.le_of_ble_eq_true rfl) (Nat.le_refl _) (Nat.le_refl _) (M_mono (L_soonest hL h hs hL) (fun r m1 g hn => ?_))
  obtain ⟨hL1, g1⟩ := g
  have e1 := hn (-2) (by decide)
  refine G_aloadn (pc := 1865) dL_law_1865 rfl ?_
  refine G_callV (pc := 1866) [] [(0, r)] dL_law_1866 cv_L_182 rfl (Nat.le_of_ble_eq_true rfl) rfl (ci := 11) rfl at_139 rfl (Nat.le_of_ble_eq_true rfl) (Nat.le_refl _) (Nat.le_refl _) (M_mono (g1 hL1) (fun r2 m2 g2 hn2 => ?_))
  obtain ⟨hL2, er, hk⟩ := g2
  exact G_icmp_eq (pc := 1869) 1979 dL_law_1869 rfl (fun _ => K m2 hL2 hk (fun q hq => (hn2 q hq).trans (hn q hq))) (fun c => absurd er c)
theorem lc_40 {m : jM} {i : Int} {Q : Int → jM → Prop} (hL : Lay m) (i0 : 0 ≤ i) (i1 : i + 7 ≤ m (-2) (-1)) (n1 : m (-2) (-1) ≤ 3584) (hX : ∀ j, -2147483648 ≤ m (-2) j ∧ m (-2) j ≤ 2147483647) (h : allI m) (hs : m 11 5 + 10000 ≤ 20000000) (K : lwK m i Q) : G iL_law SH SH m 1874 [(2, -2), (2, 0), (2, 139), (0, i)] [] Q := by
  refine G_aloadn (pc := 1874) dL_law_1874 rfl ?_
  refine sc_c (X := m (-2)) (k := 1) (pc := 1875) rfl dL_law_1875 dL_law_1876 dL_law_1877 dL_law_1878 dL_law_1879 (by decide) i0 i1 n1 ?_
  refine G_callV (pc := 1880) [(0, m (-2) (i + 1))] [] dL_law_1880 cv_L_183 rfl (Nat.le_of_ble_eq_true rfl) rfl (ci := 10) rfl at_0 rfl (Nat.le_of_ble_eq_true rfl) (Nat.le_refl _) (Nat.le_refl _) (M_mono (L_lent hL h hs hL) (fun r m1 g hn => ?_))
  obtain ⟨hL1, g1⟩ := g
  have e1 := hn (-2) (by decide)
  refine G_aloadn (pc := 1883) dL_law_1883 rfl ?_
  refine sc_c (X := m (-2)) (k := 1) (pc := 1884) e1 dL_law_1884 dL_law_1885 dL_law_1886 dL_law_1887 dL_law_1888 (by decide) i0 i1 n1 ?_
  refine G_callV (pc := 1889) [(0, m (-2) (i + 1))] [(0, r)] dL_law_1889 cv_L_186 rfl (Nat.le_of_ble_eq_true rfl) rfl (ci := 11) rfl at_139 rfl (Nat.le_of_ble_eq_true rfl) (Nat.le_refl _) (Nat.le_refl _) (M_mono (g1 hL1) (fun r2 m2 g2 hn2 => ?_))
  obtain ⟨hL2, er, hk⟩ := g2
  exact G_icmp_eq (pc := 1892) 1979 dL_law_1892 rfl (fun _ => K m2 hL2 hk (fun q hq => (hn2 q hq).trans (hn q hq))) (fun c => absurd er c)
theorem lc_41_0 {m : jM} {i : Int} {Q : Int → jM → Prop} (hL : Lay m) (i0 : 0 ≤ i) (i1 : i + 7 ≤ m (-2) (-1)) (n1 : m (-2) (-1) ≤ 3584) (hX : ∀ j, -2147483648 ≤ m (-2) j ∧ m (-2) j ≤ 2147483647) (h : allI m) (hs : m 11 5 + 10000 ≤ 20000000) (z : m (-2) (i + 3) = 0) (K : lwK m i Q) : G iL_law SH SH m 1897 [(2, -2), (2, 0), (2, 139), (0, i)] [] Q := by
  refine G_aloadn (pc := 1897) dL_law_1897 rfl ?_
  refine sc_c (X := m (-2)) (k := 1) (pc := 1898) rfl dL_law_1898 dL_law_1899 dL_law_1900 dL_law_1901 dL_law_1902 (by decide) i0 i1 n1 ?_
  refine sc_c (X := m (-2)) (k := 2) (pc := 1903) rfl dL_law_1903 dL_law_1904 dL_law_1905 dL_law_1906 dL_law_1907 (by decide) i0 i1 n1 ?_
  refine sc_c (X := m (-2)) (k := 3) (pc := 1908) rfl dL_law_1908 dL_law_1909 dL_law_1910 dL_law_1911 dL_law_1912 (by decide) i0 i1 n1 ?_
  refine G_if_eq (pc := 1913) 1920 dL_law_1913 rfl (fun _ => ?_) (fun c => absurd z c)
  refine G_iconst (pc := 1920) dL_law_1920 (by decide) ?_
  refine G_callV (pc := 1921) [(0, m (-2) (i + 1)), (0, m (-2) (i + 2)), (0, 0)] [] dL_law_1921 cv_L_187 rfl (Nat.le_of_ble_eq_true rfl) rfl (ci := 10) rfl at_0 rfl (Nat.le_of_ble_eq_true rfl) (Nat.le_refl _) (Nat.le_refl _) (M_mono (L_lentAt hL h hs hL) (fun r m1 g hn => ?_))
  obtain ⟨hL1, g1⟩ := g
  have e1 := hn (-2) (by decide)
  refine G_aloadn (pc := 1924) dL_law_1924 rfl ?_
  refine sc_c (X := m (-2)) (k := 1) (pc := 1925) e1 dL_law_1925 dL_law_1926 dL_law_1927 dL_law_1928 dL_law_1929 (by decide) i0 i1 n1 ?_
  refine sc_c (X := m (-2)) (k := 2) (pc := 1930) e1 dL_law_1930 dL_law_1931 dL_law_1932 dL_law_1933 dL_law_1934 (by decide) i0 i1 n1 ?_
  refine sc_c (X := m (-2)) (k := 3) (pc := 1935) e1 dL_law_1935 dL_law_1936 dL_law_1937 dL_law_1938 dL_law_1939 (by decide) i0 i1 n1 ?_
  refine G_if_eq (pc := 1940) 1947 dL_law_1940 rfl (fun _ => ?_) (fun c => absurd z c)
  refine G_iconst (pc := 1947) dL_law_1947 (by decide) ?_
  refine G_callV (pc := 1948) [(0, m (-2) (i + 1)), (0, m (-2) (i + 2)), (0, 0)] [(0, r)] dL_law_1948 cv_L_191 rfl (Nat.le_of_ble_eq_true rfl) rfl (ci := 11) rfl at_139 rfl (Nat.le_of_ble_eq_true rfl) (Nat.le_refl _) (Nat.le_refl _) (M_mono (g1 hL1) (fun r2 m2 g2 hn2 => ?_))
  obtain ⟨hL2, er, hk⟩ := g2
  exact G_icmp_eq (pc := 1951) 1979 dL_law_1951 rfl (fun _ => K m2 hL2 hk (fun q hq => (hn2 q hq).trans (hn q hq))) (fun c => absurd er c)
theorem lc_41_1 {m : jM} {i : Int} {Q : Int → jM → Prop} (hL : Lay m) (i0 : 0 ≤ i) (i1 : i + 7 ≤ m (-2) (-1)) (n1 : m (-2) (-1) ≤ 3584) (hX : ∀ j, -2147483648 ≤ m (-2) j ∧ m (-2) j ≤ 2147483647) (h : allI m) (hs : m 11 5 + 10000 ≤ 20000000) (z : ¬ m (-2) (i + 3) = 0) (K : lwK m i Q) : G iL_law SH SH m 1897 [(2, -2), (2, 0), (2, 139), (0, i)] [] Q := by
  refine G_aloadn (pc := 1897) dL_law_1897 rfl ?_
  refine sc_c (X := m (-2)) (k := 1) (pc := 1898) rfl dL_law_1898 dL_law_1899 dL_law_1900 dL_law_1901 dL_law_1902 (by decide) i0 i1 n1 ?_
  refine sc_c (X := m (-2)) (k := 2) (pc := 1903) rfl dL_law_1903 dL_law_1904 dL_law_1905 dL_law_1906 dL_law_1907 (by decide) i0 i1 n1 ?_
  refine sc_c (X := m (-2)) (k := 3) (pc := 1908) rfl dL_law_1908 dL_law_1909 dL_law_1910 dL_law_1911 dL_law_1912 (by decide) i0 i1 n1 ?_
  refine G_if_eq (pc := 1913) 1920 dL_law_1913 rfl (fun c => absurd c z) (fun _ => ?_)
  refine G_iconst (pc := 1916) dL_law_1916 (by decide) ?_
  refine G_goto (pc := 1917) 1921 dL_law_1917 rfl ?_
  refine G_callV (pc := 1921) [(0, m (-2) (i + 1)), (0, m (-2) (i + 2)), (0, 1)] [] dL_law_1921 cv_L_187 rfl (Nat.le_of_ble_eq_true rfl) rfl (ci := 10) rfl at_0 rfl (Nat.le_of_ble_eq_true rfl) (Nat.le_refl _) (Nat.le_refl _) (M_mono (L_lentAt hL h hs hL) (fun r m1 g hn => ?_))
  obtain ⟨hL1, g1⟩ := g
  have e1 := hn (-2) (by decide)
  refine G_aloadn (pc := 1924) dL_law_1924 rfl ?_
  refine sc_c (X := m (-2)) (k := 1) (pc := 1925) e1 dL_law_1925 dL_law_1926 dL_law_1927 dL_law_1928 dL_law_1929 (by decide) i0 i1 n1 ?_
  refine sc_c (X := m (-2)) (k := 2) (pc := 1930) e1 dL_law_1930 dL_law_1931 dL_law_1932 dL_law_1933 dL_law_1934 (by decide) i0 i1 n1 ?_
  refine sc_c (X := m (-2)) (k := 3) (pc := 1935) e1 dL_law_1935 dL_law_1936 dL_law_1937 dL_law_1938 dL_law_1939 (by decide) i0 i1 n1 ?_
  refine G_if_eq (pc := 1940) 1947 dL_law_1940 rfl (fun c => absurd c z) (fun _ => ?_)
  refine G_iconst (pc := 1943) dL_law_1943 (by decide) ?_
  refine G_goto (pc := 1944) 1948 dL_law_1944 rfl ?_
  refine G_callV (pc := 1948) [(0, m (-2) (i + 1)), (0, m (-2) (i + 2)), (0, 1)] [(0, r)] dL_law_1948 cv_L_191 rfl (Nat.le_of_ble_eq_true rfl) rfl (ci := 11) rfl at_139 rfl (Nat.le_of_ble_eq_true rfl) (Nat.le_refl _) (Nat.le_refl _) (M_mono (g1 hL1) (fun r2 m2 g2 hn2 => ?_))
  obtain ⟨hL2, er, hk⟩ := g2
  exact G_icmp_eq (pc := 1951) 1979 dL_law_1951 rfl (fun _ => K m2 hL2 hk (fun q hq => (hn2 q hq).trans (hn q hq))) (fun c => absurd er c)
theorem lc_41 {m : jM} {i : Int} {Q : Int → jM → Prop} (hL : Lay m) (i0 : 0 ≤ i) (i1 : i + 7 ≤ m (-2) (-1)) (n1 : m (-2) (-1) ≤ 3584) (hX : ∀ j, -2147483648 ≤ m (-2) j ∧ m (-2) j ≤ 2147483647) (h : allI m) (hs : m 11 5 + 10000 ≤ 20000000) (K : lwK m i Q) : G iL_law SH SH m 1897 [(2, -2), (2, 0), (2, 139), (0, i)] [] Q := by
  by_cases z : m (-2) (i + 3) = 0
  · exact lc_41_0 hL i0 i1 n1 hX h hs z K
  · exact lc_41_1 hL i0 i1 n1 hX h hs z K
theorem lc_42 {m : jM} {i : Int} {Q : Int → jM → Prop} (hL : Lay m) (i0 : 0 ≤ i) (i1 : i + 7 ≤ m (-2) (-1)) (n1 : m (-2) (-1) ≤ 3584) (hX : ∀ j, -2147483648 ≤ m (-2) j ∧ m (-2) j ≤ 2147483647) (h : allI m) (hs : m 11 5 + 10000 ≤ 20000000) (K : lwK m i Q) : G iL_law SH SH m 1956 [(2, -2), (2, 0), (2, 139), (0, i)] [] Q := by
  refine G_aloadn (pc := 1956) dL_law_1956 rfl ?_
  refine sc_c (X := m (-2)) (k := 1) (pc := 1957) rfl dL_law_1957 dL_law_1958 dL_law_1959 dL_law_1960 dL_law_1961 (by decide) i0 i1 n1 ?_
  refine G_callV (pc := 1962) [(0, m (-2) (i + 1))] [] dL_law_1962 cv_L_192 rfl (Nat.le_of_ble_eq_true rfl) rfl (ci := 10) rfl at_0 rfl (Nat.le_of_ble_eq_true rfl) (Nat.le_refl _) (Nat.le_refl _) (M_mono (L_count hL h hs (hX _) hL) (fun r m1 g hn => ?_))
  obtain ⟨hL1, g1⟩ := g
  have e1 := hn (-2) (by decide)
  refine G_aloadn (pc := 1965) dL_law_1965 rfl ?_
  refine sc_c (X := m (-2)) (k := 1) (pc := 1966) e1 dL_law_1966 dL_law_1967 dL_law_1968 dL_law_1969 dL_law_1970 (by decide) i0 i1 n1 ?_
  refine G_callV (pc := 1971) [(0, m (-2) (i + 1))] [(0, r)] dL_law_1971 cv_L_195 rfl (Nat.le_of_ble_eq_true rfl) rfl (ci := 11) rfl at_139 rfl (Nat.le_of_ble_eq_true rfl) (Nat.le_refl _) (Nat.le_refl _) (M_mono (g1 hL1) (fun r2 m2 g2 hn2 => ?_))
  obtain ⟨hL2, er, hk⟩ := g2
  exact G_icmp_eq (pc := 1974) 1979 dL_law_1974 rfl (fun _ => K m2 hL2 hk (fun q hq => (hn2 q hq).trans (hn q hq))) (fun c => absurd er c)
theorem lc_all {m : jM} {i : Int} {Q : Int → jM → Prop} (hL : Lay m) (i0 : 0 ≤ i) (i1 : i + 7 ≤ m (-2) (-1)) (n1 : m (-2) (-1) ≤ 3584) (hX : ∀ j, -2147483648 ≤ m (-2) j ∧ m (-2) j ≤ 2147483647) (h : allI m) (hs : m 11 5 + 10000 ≤ 20000000) (K : lwK m i Q) {x : Int} : G iL_law SH SH m 33 [(2, -2), (2, 0), (2, 139), (0, i)] [(0, x)] Q := by
  by_cases c : x < 0 ∨ 42 < x
  · exact G_swOut (pc := 33) 1979 dL_law_33 c rfl (K m hL (nx_rf h rfl) (fun _ _ => rfl))
  have hx : x = 0 ∨ x = 1 ∨ x = 2 ∨ x = 3 ∨ x = 4 ∨ x = 5 ∨ x = 6 ∨ x = 7 ∨ x = 8 ∨ x = 9 ∨ x = 10 ∨ x = 11 ∨ x = 12 ∨ x = 13 ∨ x = 14 ∨ x = 15 ∨ x = 16 ∨ x = 17 ∨ x = 18 ∨ x = 19 ∨ x = 20 ∨ x = 21 ∨ x = 22 ∨ x = 23 ∨ x = 24 ∨ x = 25 ∨ x = 26 ∨ x = 27 ∨ x = 28 ∨ x = 29 ∨ x = 30 ∨ x = 31 ∨ x = 32 ∨ x = 33 ∨ x = 34 ∨ x = 35 ∨ x = 36 ∨ x = 37 ∨ x = 38 ∨ x = 39 ∨ x = 40 ∨ x = 41 ∨ x = 42 := by omega
  rcases hx with hx | hx | hx | hx | hx | hx | hx | hx | hx | hx | hx | hx | hx | hx | hx | hx | hx | hx | hx | hx | hx | hx | hx | hx | hx | hx | hx | hx | hx | hx | hx | hx | hx | hx | hx | hx | hx | hx | hx | hx | hx | hx | hx
  · subst hx; exact G_swIn (pc := 33) (off := 187) 220 dL_law_33 (by decide) (by decide) rfl rfl (lc_0 hL i0 i1 n1 hX h hs K)
  · subst hx; exact G_swIn (pc := 33) (off := 250) 283 dL_law_33 (by decide) (by decide) rfl rfl (lc_1 hL i0 i1 n1 hX h hs K)
  · subst hx; exact G_swIn (pc := 33) (off := 273) 306 dL_law_33 (by decide) (by decide) rfl rfl (lc_2 hL i0 i1 n1 hX h hs K)
  · subst hx; exact G_swIn (pc := 33) (off := 296) 329 dL_law_33 (by decide) (by decide) rfl rfl (lc_3 hL i0 i1 n1 hX h hs K)
  · subst hx; exact G_swIn (pc := 33) (off := 309) 342 dL_law_33 (by decide) (by decide) rfl rfl (lc_4 hL i0 i1 n1 hX h hs K)
  · subst hx; exact G_swIn (pc := 33) (off := 362) 395 dL_law_33 (by decide) (by decide) rfl rfl (lc_5 hL i0 i1 n1 hX h hs K)
  · subst hx; exact G_swIn (pc := 33) (off := 431) 464 dL_law_33 (by decide) (by decide) rfl rfl (lc_6 hL i0 i1 n1 hX h hs K)
  · subst hx; exact G_swIn (pc := 33) (off := 474) 507 dL_law_33 (by decide) (by decide) rfl rfl (lc_7 hL i0 i1 n1 hX h hs K)
  · subst hx; exact G_swIn (pc := 33) (off := 507) 540 dL_law_33 (by decide) (by decide) rfl rfl (lc_8 hL i0 i1 n1 hX h hs K)
  · subst hx; exact G_swIn (pc := 33) (off := 560) 593 dL_law_33 (by decide) (by decide) rfl rfl (lc_9 hL i0 i1 n1 hX h hs K)
  · subst hx; exact G_swIn (pc := 33) (off := 583) 616 dL_law_33 (by decide) (by decide) rfl rfl (lc_10 hL i0 i1 n1 hX h hs K)
  · subst hx; exact G_swIn (pc := 33) (off := 606) 639 dL_law_33 (by decide) (by decide) rfl rfl (lc_11 hL i0 i1 n1 hX h hs K)
  · subst hx; exact G_swIn (pc := 33) (off := 649) 682 dL_law_33 (by decide) (by decide) rfl rfl (lc_12 hL i0 i1 n1 hX h hs K)
  · subst hx; exact G_swIn (pc := 33) (off := 712) 745 dL_law_33 (by decide) (by decide) rfl rfl (lc_13 hL i0 i1 n1 hX h hs K)
  · subst hx; exact G_swIn (pc := 33) (off := 787) 820 dL_law_33 (by decide) (by decide) rfl rfl (lc_14 hL i0 i1 n1 hX h hs K)
  · subst hx; exact G_swIn (pc := 33) (off := 830) 863 dL_law_33 (by decide) (by decide) rfl rfl (lc_15 hL i0 i1 n1 hX h hs K)
  · subst hx; exact G_swIn (pc := 33) (off := 873) 906 dL_law_33 (by decide) (by decide) rfl rfl (lc_16 hL i0 i1 n1 hX h hs K)
  · subst hx; exact G_swIn (pc := 33) (off := 916) 949 dL_law_33 (by decide) (by decide) rfl rfl (lc_17 hL i0 i1 n1 hX h hs K)
  · subst hx; exact G_swIn (pc := 33) (off := 969) 1002 dL_law_33 (by decide) (by decide) rfl rfl (lc_18 hL i0 i1 n1 hX h hs K)
  · subst hx; exact G_swIn (pc := 33) (off := 1022) 1055 dL_law_33 (by decide) (by decide) rfl rfl (lc_19 hL i0 i1 n1 hX h hs K)
  · subst hx; exact G_swIn (pc := 33) (off := 1085) 1118 dL_law_33 (by decide) (by decide) rfl rfl (lc_20 hL i0 i1 n1 hX h hs K)
  · subst hx; exact G_swIn (pc := 33) (off := 1138) 1171 dL_law_33 (by decide) (by decide) rfl rfl (lc_21 hL i0 i1 n1 hX h hs K)
  · subst hx; exact G_swIn (pc := 33) (off := 1181) 1214 dL_law_33 (by decide) (by decide) rfl rfl (lc_22 hL i0 i1 n1 hX h hs K)
  · subst hx; exact G_swIn (pc := 33) (off := 1224) 1257 dL_law_33 (by decide) (by decide) rfl rfl (lc_23 hL i0 i1 n1 hX h hs K)
  · subst hx; exact G_swIn (pc := 33) (off := 1277) 1310 dL_law_33 (by decide) (by decide) rfl rfl (lc_24 hL i0 i1 n1 hX h hs K)
  · subst hx; exact G_swIn (pc := 33) (off := 1320) 1353 dL_law_33 (by decide) (by decide) rfl rfl (lc_25 hL i0 i1 n1 hX h hs K)
  · subst hx; exact G_swIn (pc := 33) (off := 1363) 1396 dL_law_33 (by decide) (by decide) rfl rfl (lc_26 hL i0 i1 n1 hX h hs K)
  · subst hx; exact G_swIn (pc := 33) (off := 1396) 1429 dL_law_33 (by decide) (by decide) rfl rfl (lc_27 hL i0 i1 n1 hX h hs K)
  · subst hx; exact G_swIn (pc := 33) (off := 1429) 1462 dL_law_33 (by decide) (by decide) rfl rfl (lc_28 hL i0 i1 n1 hX h hs K)
  · subst hx; exact G_swIn (pc := 33) (off := 1472) 1505 dL_law_33 (by decide) (by decide) rfl rfl (lc_29 hL i0 i1 n1 hX h hs K)
  · subst hx; exact G_swIn (pc := 33) (off := 1515) 1548 dL_law_33 (by decide) (by decide) rfl rfl (lc_30 hL i0 i1 n1 hX h hs K)
  · subst hx; exact G_swIn (pc := 33) (off := 1548) 1581 dL_law_33 (by decide) (by decide) rfl rfl (lc_31 hL i0 i1 n1 hX h hs K)
  · subst hx; exact G_swIn (pc := 33) (off := 1591) 1624 dL_law_33 (by decide) (by decide) rfl rfl (lc_32 hL i0 i1 n1 hX h hs K)
  · subst hx; exact G_swIn (pc := 33) (off := 1614) 1647 dL_law_33 (by decide) (by decide) rfl rfl (lc_33 hL i0 i1 n1 hX h hs K)
  · subst hx; exact G_swIn (pc := 33) (off := 1663) 1696 dL_law_33 (by decide) (by decide) rfl rfl (lc_34 hL i0 i1 n1 hX h hs K)
  · subst hx; exact G_swIn (pc := 33) (off := 1696) 1729 dL_law_33 (by decide) (by decide) rfl rfl (lc_35 hL i0 i1 n1 hX h hs K)
  · subst hx; exact G_swIn (pc := 33) (off := 1719) 1752 dL_law_33 (by decide) (by decide) rfl rfl (lc_36 hL i0 i1 n1 hX h hs K)
  · subst hx; exact G_swIn (pc := 33) (off := 1752) 1785 dL_law_33 (by decide) (by decide) rfl rfl (lc_37 hL i0 i1 n1 hX h hs K)
  · subst hx; exact G_swIn (pc := 33) (off := 1795) 1828 dL_law_33 (by decide) (by decide) rfl rfl (lc_38 hL i0 i1 n1 hX h hs K)
  · subst hx; exact G_swIn (pc := 33) (off := 1828) 1861 dL_law_33 (by decide) (by decide) rfl rfl (lc_39 hL i0 i1 n1 hX h hs K)
  · subst hx; exact G_swIn (pc := 33) (off := 1841) 1874 dL_law_33 (by decide) (by decide) rfl rfl (lc_40 hL i0 i1 n1 hX h hs K)
  · subst hx; exact G_swIn (pc := 33) (off := 1864) 1897 dL_law_33 (by decide) (by decide) rfl rfl (lc_41 hL i0 i1 n1 hX h hs K)
  · subst hx; exact G_swIn (pc := 33) (off := 1923) 1956 dL_law_33 (by decide) (by decide) rfl rfl (lc_42 hL i0 i1 n1 hX h hs K)
