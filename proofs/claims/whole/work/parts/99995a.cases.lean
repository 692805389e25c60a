theorem dL_law_220 : decode cL_law 220 = .ok (.aload_n 1, 1) := by decide +kernel
theorem dL_law_221 : decode cL_law 221 = .ok (.aload_n 0, 1) := by decide +kernel
theorem dL_law_222 : decode cL_law 222 = .ok (.iload 4, 2) := by decide +kernel
theorem dL_law_224 : decode cL_law 224 = .ok (.iconst 1, 1) := by decide +kernel
theorem dL_law_225 : decode cL_law 225 = .ok (.iadd, 1) := by decide +kernel
theorem dL_law_226 : decode cL_law 226 = .ok (.iaload, 1) := by decide +kernel
theorem dL_law_227 : decode cL_law 227 = .ok (.aload_n 0, 1) := by decide +kernel
theorem dL_law_228 : decode cL_law 228 = .ok (.iload 4, 2) := by decide +kernel
theorem dL_law_230 : decode cL_law 230 = .ok (.iconst 2, 1) := by decide +kernel
theorem dL_law_231 : decode cL_law 231 = .ok (.iadd, 1) := by decide +kernel
theorem dL_law_232 : decode cL_law 232 = .ok (.iaload, 1) := by decide +kernel
theorem dL_law_233 : decode cL_law 233 = .ok (.aload_n 0, 1) := by decide +kernel
theorem dL_law_234 : decode cL_law 234 = .ok (.iload 4, 2) := by decide +kernel
theorem dL_law_236 : decode cL_law 236 = .ok (.iconst 3, 1) := by decide +kernel
theorem dL_law_237 : decode cL_law 237 = .ok (.iadd, 1) := by decide +kernel
theorem dL_law_238 : decode cL_law 238 = .ok (.iaload, 1) := by decide +kernel
theorem dL_law_239 : decode cL_law 239 = .ok (.aload_n 0, 1) := by decide +kernel
theorem dL_law_240 : decode cL_law 240 = .ok (.iload 4, 2) := by decide +kernel
theorem dL_law_242 : decode cL_law 242 = .ok (.iconst 4, 1) := by decide +kernel
theorem dL_law_243 : decode cL_law 243 = .ok (.iadd, 1) := by decide +kernel
theorem dL_law_244 : decode cL_law 244 = .ok (.iaload, 1) := by decide +kernel
theorem dL_law_245 : decode cL_law 245 = .ok (.aload_n 0, 1) := by decide +kernel
theorem dL_law_246 : decode cL_law 246 = .ok (.iload 4, 2) := by decide +kernel
theorem dL_law_248 : decode cL_law 248 = .ok (.iconst 5, 1) := by decide +kernel
theorem dL_law_249 : decode cL_law 249 = .ok (.iadd, 1) := by decide +kernel
theorem dL_law_250 : decode cL_law 250 = .ok (.iaload, 1) := by decide +kernel
theorem dL_law_251 : decode cL_law 251 = .ok (.invokevirtual 19, 3) := by decide +kernel
theorem dL_law_254 : decode cL_law 254 = .ok (.aload_n 2, 1) := by decide +kernel
theorem dL_law_255 : decode cL_law 255 = .ok (.aload_n 0, 1) := by decide +kernel
theorem dL_law_256 : decode cL_law 256 = .ok (.iload 4, 2) := by decide +kernel
theorem dL_law_258 : decode cL_law 258 = .ok (.iconst 1, 1) := by decide +kernel
theorem dL_law_259 : decode cL_law 259 = .ok (.iadd, 1) := by decide +kernel
theorem dL_law_260 : decode cL_law 260 = .ok (.iaload, 1) := by decide +kernel
theorem dL_law_261 : decode cL_law 261 = .ok (.aload_n 0, 1) := by decide +kernel
theorem dL_law_262 : decode cL_law 262 = .ok (.iload 4, 2) := by decide +kernel
theorem dL_law_264 : decode cL_law 264 = .ok (.iconst 2, 1) := by decide +kernel
theorem dL_law_265 : decode cL_law 265 = .ok (.iadd, 1) := by decide +kernel
theorem dL_law_266 : decode cL_law 266 = .ok (.iaload, 1) := by decide +kernel
theorem dL_law_267 : decode cL_law 267 = .ok (.aload_n 0, 1) := by decide +kernel
theorem dL_law_268 : decode cL_law 268 = .ok (.iload 4, 2) := by decide +kernel
theorem dL_law_270 : decode cL_law 270 = .ok (.iconst 3, 1) := by decide +kernel
theorem dL_law_271 : decode cL_law 271 = .ok (.iadd, 1) := by decide +kernel
theorem dL_law_272 : decode cL_law 272 = .ok (.iaload, 1) := by decide +kernel
theorem dL_law_273 : decode cL_law 273 = .ok (.aload_n 0, 1) := by decide +kernel
theorem dL_law_274 : decode cL_law 274 = .ok (.iload 4, 2) := by decide +kernel
theorem dL_law_276 : decode cL_law 276 = .ok (.iconst 4, 1) := by decide +kernel
theorem dL_law_277 : decode cL_law 277 = .ok (.iadd, 1) := by decide +kernel
theorem dL_law_278 : decode cL_law 278 = .ok (.iaload, 1) := by decide +kernel
theorem dL_law_279 : decode cL_law 279 = .ok (.aload_n 0, 1) := by decide +kernel
theorem dL_law_280 : decode cL_law 280 = .ok (.iload 4, 2) := by decide +kernel
theorem dL_law_282 : decode cL_law 282 = .ok (.iconst 5, 1) := by decide +kernel
theorem dL_law_283 : decode cL_law 283 = .ok (.iadd, 1) := by decide +kernel
theorem dL_law_284 : decode cL_law 284 = .ok (.iaload, 1) := by decide +kernel
theorem dL_law_285 : decode cL_law 285 = .ok (.invokevirtual 23, 3) := by decide +kernel
theorem dL_law_288 : decode cL_law 288 = .ok (.if_icmp .eq 1356, 3) := by decide +kernel
theorem lc_feed {p : Program} {l : Launch} {e : Env} {s : State} {m : MethodId} {below : List Frame} {meth : Method} {c : Code} {K : aw_K} {b L : Nat} {xs : Nat → Int32} {cells slots i : Nat} {w : aw_W} (C : lz_Cx K l p s m meth c b L xs) (hi : i + 6 ≤ L) (hcs : cells ≤ 601024) (hss : slots ≤ 7293034) (hnv : nv w) (hok : aw_okw w) (k : ∀ w2, nv w2 → aw_okw w2 → lz_W p l e s m below meth c K b (cells + 1) (slots + 6) 1644 i [] w2) : lz_W p l e s m below meth c K b cells slots 220 i [] w := by
  obtain ⟨a, w1, w2, e1, e2, h2⟩ := C_feed (N := 10000000) (Nat.le_refl _) hnv (x1 := (xs (i + 1)).toInt) (x2 := (xs (i + 2)).toInt) (x3 := (xs (i + 3)).toInt) (x4 := (xs (i + 4)).toInt) (x5 := (xs (i + 5)).toInt)
  refine lz_x C dL_law_220 ?_
  refine lz_arg (k := 1) rfl C (by omega) dL_law_221 dL_law_222 dL_law_224 dL_law_225 dL_law_226 ?_
  refine lz_arg (k := 2) rfl C (by omega) dL_law_227 dL_law_228 dL_law_230 dL_law_231 dL_law_232 ?_
  refine lz_arg (k := 3) rfl C (by omega) dL_law_233 dL_law_234 dL_law_236 dL_law_237 dL_law_238 ?_
  refine lz_arg (k := 4) rfl C (by omega) dL_law_239 dL_law_240 dL_law_242 dL_law_243 dL_law_244 ?_
  refine lz_arg (k := 5) rfl C (by omega) dL_law_245 dL_law_246 dL_law_248 dL_law_249 dL_law_250 ?_
  refine lz_call (j := 0) (d := 1) (as := [.inl (xs (i + 1)).toInt, .inl (xs (i + 2)).toInt, .inl (xs (i + 3)).toInt, .inl (xs (i + 4)).toInt, .inl (xs (i + 5)).toInt]) (rest := []) C dL_law_251 cv_RL_19 (by decide) rfl rfl rfl rfl (Nat.le_of_ble_eq_true rfl) (Nat.le_of_ble_eq_true rfl) hcs hss hok (lz_oa (lz_oa (lz_oa (lz_oa (lz_oa lz_oa0))))) (w_x_feed _ 1 (by omega) _ _ _ _ _ _ _ _ e1) (fun _ hok1 => ?_)
  refine lz_m C dL_law_254 ?_
  refine lz_arg (k := 1) rfl C (by omega) dL_law_255 dL_law_256 dL_law_258 dL_law_259 dL_law_260 ?_
  refine lz_arg (k := 2) rfl C (by omega) dL_law_261 dL_law_262 dL_law_264 dL_law_265 dL_law_266 ?_
  refine lz_arg (k := 3) rfl C (by omega) dL_law_267 dL_law_268 dL_law_270 dL_law_271 dL_law_272 ?_
  refine lz_arg (k := 4) rfl C (by omega) dL_law_273 dL_law_274 dL_law_276 dL_law_277 dL_law_278 ?_
  refine lz_arg (k := 5) rfl C (by omega) dL_law_279 dL_law_280 dL_law_282 dL_law_283 dL_law_284 ?_
  refine lz_call (j := 49) (d := 1) (as := [.inl (xs (i + 1)).toInt, .inl (xs (i + 2)).toInt, .inl (xs (i + 3)).toInt, .inl (xs (i + 4)).toInt, .inl (xs (i + 5)).toInt]) (rest := [.int (Int32.ofInt a)]) C dL_law_285 cv_RL_23 (by decide) rfl rfl rfl rfl (Nat.le_of_ble_eq_true rfl) (Nat.le_of_ble_eq_true rfl) hcs hss hok1 (lz_oa (lz_oa (lz_oa (lz_oa (lz_oa lz_oa0))))) (w_m_feed _ 1 (by omega) _ _ _ _ _ _ _ _ e2) (fun _ hok2 => ?_)
  exact lz_eq C dL_law_288 (by decide) (k w2 h2 hok2)
theorem dL_law_293 : decode cL_law 293 = .ok (.aload_n 1, 1) := by decide +kernel
theorem dL_law_294 : decode cL_law 294 = .ok (.aload_n 0, 1) := by decide +kernel
theorem dL_law_295 : decode cL_law 295 = .ok (.iload 4, 2) := by decide +kernel
theorem dL_law_297 : decode cL_law 297 = .ok (.iconst 1, 1) := by decide +kernel
theorem dL_law_298 : decode cL_law 298 = .ok (.iadd, 1) := by decide +kernel
theorem dL_law_299 : decode cL_law 299 = .ok (.iaload, 1) := by decide +kernel
theorem dL_law_300 : decode cL_law 300 = .ok (.invokevirtual 24, 3) := by decide +kernel
theorem dL_law_303 : decode cL_law 303 = .ok (.aload_n 2, 1) := by decide +kernel
theorem dL_law_304 : decode cL_law 304 = .ok (.aload_n 0, 1) := by decide +kernel
theorem dL_law_305 : decode cL_law 305 = .ok (.iload 4, 2) := by decide +kernel
theorem dL_law_307 : decode cL_law 307 = .ok (.iconst 1, 1) := by decide +kernel
theorem dL_law_308 : decode cL_law 308 = .ok (.iadd, 1) := by decide +kernel
theorem dL_law_309 : decode cL_law 309 = .ok (.iaload, 1) := by decide +kernel
theorem dL_law_310 : decode cL_law 310 = .ok (.invokevirtual 28, 3) := by decide +kernel
theorem dL_law_313 : decode cL_law 313 = .ok (.if_icmp .eq 1331, 3) := by decide +kernel
theorem lc_end {p : Program} {l : Launch} {e : Env} {s : State} {m : MethodId} {below : List Frame} {meth : Method} {c : Code} {K : aw_K} {b L : Nat} {xs : Nat → Int32} {cells slots i : Nat} {w : aw_W} (C : lz_Cx K l p s m meth c b L xs) (hi : i + 6 ≤ L) (hcs : cells ≤ 601024) (hss : slots ≤ 7293034) (hnv : nv w) (hok : aw_okw w) (k : ∀ w2, nv w2 → aw_okw w2 → lz_W p l e s m below meth c K b (cells + 1) (slots + 6) 1644 i [] w2) : lz_W p l e s m below meth c K b cells slots 293 i [] w := by
  obtain ⟨a, w1, w2, e1, e2, h2⟩ := C_end (N := 10000000) (Nat.le_refl _) hnv (x1 := (xs (i + 1)).toInt)
  refine lz_x C dL_law_293 ?_
  refine lz_arg (k := 1) rfl C (by omega) dL_law_294 dL_law_295 dL_law_297 dL_law_298 dL_law_299 ?_
  refine lz_call (j := 0) (d := 0) (as := [.inl (xs (i + 1)).toInt]) (rest := []) C dL_law_300 cv_RL_24 (by decide) rfl rfl rfl rfl (Nat.le_of_ble_eq_true rfl) (Nat.le_of_ble_eq_true rfl) hcs hss hok (lz_oa lz_oa0) (w_x_end _ 0 (by omega) _ _ _ _ e1) (fun _ hok1 => ?_)
  refine lz_m C dL_law_303 ?_
  refine lz_arg (k := 1) rfl C (by omega) dL_law_304 dL_law_305 dL_law_307 dL_law_308 dL_law_309 ?_
  refine lz_call (j := 49) (d := 0) (as := [.inl (xs (i + 1)).toInt]) (rest := [.int (Int32.ofInt a)]) C dL_law_310 cv_RL_28 (by decide) rfl rfl rfl rfl (Nat.le_of_ble_eq_true rfl) (Nat.le_of_ble_eq_true rfl) hcs hss hok1 (lz_oa lz_oa0) (w_m_end _ 0 (by omega) _ _ _ _ e2) (fun _ hok2 => ?_)
  exact lz_eq C dL_law_313 (by decide) (k w2 h2 hok2)
theorem dL_law_318 : decode cL_law 318 = .ok (.aload_n 1, 1) := by decide +kernel
theorem dL_law_319 : decode cL_law 319 = .ok (.aload_n 0, 1) := by decide +kernel
theorem dL_law_320 : decode cL_law 320 = .ok (.iload 4, 2) := by decide +kernel
theorem dL_law_322 : decode cL_law 322 = .ok (.iconst 1, 1) := by decide +kernel
theorem dL_law_323 : decode cL_law 323 = .ok (.iadd, 1) := by decide +kernel
theorem dL_law_324 : decode cL_law 324 = .ok (.iaload, 1) := by decide +kernel
theorem dL_law_325 : decode cL_law 325 = .ok (.invokevirtual 29, 3) := by decide +kernel
theorem dL_law_328 : decode cL_law 328 = .ok (.aload_n 2, 1) := by decide +kernel
theorem dL_law_329 : decode cL_law 329 = .ok (.aload_n 0, 1) := by decide +kernel
theorem dL_law_330 : decode cL_law 330 = .ok (.iload 4, 2) := by decide +kernel
theorem dL_law_332 : decode cL_law 332 = .ok (.iconst 1, 1) := by decide +kernel
theorem dL_law_333 : decode cL_law 333 = .ok (.iadd, 1) := by decide +kernel
theorem dL_law_334 : decode cL_law 334 = .ok (.iaload, 1) := by decide +kernel
theorem dL_law_335 : decode cL_law 335 = .ok (.invokevirtual 33, 3) := by decide +kernel
theorem dL_law_338 : decode cL_law 338 = .ok (.if_icmp .eq 1306, 3) := by decide +kernel
theorem lc_fault {p : Program} {l : Launch} {e : Env} {s : State} {m : MethodId} {below : List Frame} {meth : Method} {c : Code} {K : aw_K} {b L : Nat} {xs : Nat → Int32} {cells slots i : Nat} {w : aw_W} (C : lz_Cx K l p s m meth c b L xs) (hi : i + 6 ≤ L) (hcs : cells ≤ 601024) (hss : slots ≤ 7293034) (hnv : nv w) (hok : aw_okw w) (k : ∀ w2, nv w2 → aw_okw w2 → lz_W p l e s m below meth c K b (cells + 1) (slots + 6) 1644 i [] w2) : lz_W p l e s m below meth c K b cells slots 318 i [] w := by
  obtain ⟨a, w1, w2, e1, e2, h2⟩ := C_fault (N := 10000000) (Nat.le_refl _) hnv (x1 := (xs (i + 1)).toInt)
  refine lz_x C dL_law_318 ?_
  refine lz_arg (k := 1) rfl C (by omega) dL_law_319 dL_law_320 dL_law_322 dL_law_323 dL_law_324 ?_
  refine lz_call (j := 0) (d := 124) (as := [.inl (xs (i + 1)).toInt]) (rest := []) C dL_law_325 cv_RL_29 (by decide) rfl rfl rfl rfl (Nat.le_of_ble_eq_true rfl) (Nat.le_of_ble_eq_true rfl) hcs hss hok (lz_oa lz_oa0) (w_x_fault _ 124 (by omega) _ _ _ _ e1) (fun _ hok1 => ?_)
  refine lz_m C dL_law_328 ?_
  refine lz_arg (k := 1) rfl C (by omega) dL_law_329 dL_law_330 dL_law_332 dL_law_333 dL_law_334 ?_
  refine lz_call (j := 49) (d := 128) (as := [.inl (xs (i + 1)).toInt]) (rest := [.int (Int32.ofInt a)]) C dL_law_335 cv_RL_33 (by decide) rfl rfl rfl rfl (Nat.le_of_ble_eq_true rfl) (Nat.le_of_ble_eq_true rfl) hcs hss hok1 (lz_oa lz_oa0) (w_m_fault _ 128 (by omega) _ _ _ _ e2) (fun _ hok2 => ?_)
  exact lz_eq C dL_law_338 (by decide) (k w2 h2 hok2)
theorem dL_law_343 : decode cL_law 343 = .ok (.aload_n 1, 1) := by decide +kernel
theorem dL_law_344 : decode cL_law 344 = .ok (.aload_n 0, 1) := by decide +kernel
theorem dL_law_345 : decode cL_law 345 = .ok (.iload 4, 2) := by decide +kernel
theorem dL_law_347 : decode cL_law 347 = .ok (.iconst 1, 1) := by decide +kernel
theorem dL_law_348 : decode cL_law 348 = .ok (.iadd, 1) := by decide +kernel
theorem dL_law_349 : decode cL_law 349 = .ok (.iaload, 1) := by decide +kernel
theorem dL_law_350 : decode cL_law 350 = .ok (.invokevirtual 34, 3) := by decide +kernel
theorem dL_law_353 : decode cL_law 353 = .ok (.aload_n 2, 1) := by decide +kernel
theorem dL_law_354 : decode cL_law 354 = .ok (.aload_n 0, 1) := by decide +kernel
theorem dL_law_355 : decode cL_law 355 = .ok (.iload 4, 2) := by decide +kernel
theorem dL_law_357 : decode cL_law 357 = .ok (.iconst 1, 1) := by decide +kernel
theorem dL_law_358 : decode cL_law 358 = .ok (.iadd, 1) := by decide +kernel
theorem dL_law_359 : decode cL_law 359 = .ok (.iaload, 1) := by decide +kernel
theorem dL_law_360 : decode cL_law 360 = .ok (.invokevirtual 37, 3) := by decide +kernel
theorem dL_law_363 : decode cL_law 363 = .ok (.if_icmp .eq 1281, 3) := by decide +kernel
theorem lc_text {p : Program} {l : Launch} {e : Env} {s : State} {m : MethodId} {below : List Frame} {meth : Method} {c : Code} {K : aw_K} {b L : Nat} {xs : Nat → Int32} {cells slots i : Nat} {w : aw_W} (C : lz_Cx K l p s m meth c b L xs) (hi : i + 6 ≤ L) (hcs : cells ≤ 601024) (hss : slots ≤ 7293034) (hnv : nv w) (hok : aw_okw w) (k : ∀ w2, nv w2 → aw_okw w2 → lz_W p l e s m below meth c K b (cells + 1) (slots + 6) 1644 i [] w2) : lz_W p l e s m below meth c K b cells slots 343 i [] w := by
  obtain ⟨a, w1, w2, e1, e2, h2⟩ := C_text (N := 10000000) (Nat.le_refl _) hnv (x1 := (xs (i + 1)).toInt)
  refine lz_x C dL_law_343 ?_
  refine lz_arg (k := 1) rfl C (by omega) dL_law_344 dL_law_345 dL_law_347 dL_law_348 dL_law_349 ?_
  refine lz_call (j := 0) (d := 124) (as := [.inl (xs (i + 1)).toInt]) (rest := []) C dL_law_350 cv_RL_34 (by decide) rfl rfl rfl rfl (Nat.le_of_ble_eq_true rfl) (Nat.le_of_ble_eq_true rfl) hcs hss hok (lz_oa lz_oa0) (w_x_text _ 124 (by omega) _ _ _ _ e1) (fun _ hok1 => ?_)
  refine lz_m C dL_law_353 ?_
  refine lz_arg (k := 1) rfl C (by omega) dL_law_354 dL_law_355 dL_law_357 dL_law_358 dL_law_359 ?_
  refine lz_call (j := 49) (d := 129) (as := [.inl (xs (i + 1)).toInt]) (rest := [.int (Int32.ofInt a)]) C dL_law_360 cv_RL_37 (by decide) rfl rfl rfl rfl (Nat.le_of_ble_eq_true rfl) (Nat.le_of_ble_eq_true rfl) hcs hss hok1 (lz_oa lz_oa0) (w_m_text _ 129 (by omega) _ _ _ _ e2) (fun _ hok2 => ?_)
  exact lz_eq C dL_law_363 (by decide) (k w2 h2 hok2)
theorem dL_law_436 : decode cL_law 436 = .ok (.aload_n 1, 1) := by decide +kernel
theorem dL_law_437 : decode cL_law 437 = .ok (.aload_n 0, 1) := by decide +kernel
theorem dL_law_438 : decode cL_law 438 = .ok (.iload 4, 2) := by decide +kernel
theorem dL_law_440 : decode cL_law 440 = .ok (.iconst 1, 1) := by decide +kernel
theorem dL_law_441 : decode cL_law 441 = .ok (.iadd, 1) := by decide +kernel
theorem dL_law_442 : decode cL_law 442 = .ok (.iaload, 1) := by decide +kernel
theorem dL_law_443 : decode cL_law 443 = .ok (.invokevirtual 48, 3) := by decide +kernel
theorem dL_law_446 : decode cL_law 446 = .ok (.aload_n 2, 1) := by decide +kernel
theorem dL_law_447 : decode cL_law 447 = .ok (.aload_n 0, 1) := by decide +kernel
theorem dL_law_448 : decode cL_law 448 = .ok (.iload 4, 2) := by decide +kernel
theorem dL_law_450 : decode cL_law 450 = .ok (.iconst 1, 1) := by decide +kernel
theorem dL_law_451 : decode cL_law 451 = .ok (.iadd, 1) := by decide +kernel
theorem dL_law_452 : decode cL_law 452 = .ok (.iaload, 1) := by decide +kernel
theorem dL_law_453 : decode cL_law 453 = .ok (.invokevirtual 51, 3) := by decide +kernel
theorem dL_law_456 : decode cL_law 456 = .ok (.if_icmp .eq 1188, 3) := by decide +kernel
theorem lc_law {p : Program} {l : Launch} {e : Env} {s : State} {m : MethodId} {below : List Frame} {meth : Method} {c : Code} {K : aw_K} {b L : Nat} {xs : Nat → Int32} {cells slots i : Nat} {w : aw_W} (C : lz_Cx K l p s m meth c b L xs) (hi : i + 6 ≤ L) (hcs : cells ≤ 601024) (hss : slots ≤ 7293034) (hnv : nv w) (hok : aw_okw w) (k : ∀ w2, nv w2 → aw_okw w2 → lz_W p l e s m below meth c K b (cells + 1) (slots + 6) 1644 i [] w2) : lz_W p l e s m below meth c K b cells slots 436 i [] w := by
  obtain ⟨a, w1, w2, e1, e2, h2⟩ := C_law (N := 10000000) (Nat.le_refl _) hnv (x1 := (xs (i + 1)).toInt)
  refine lz_x C dL_law_436 ?_
  refine lz_arg (k := 1) rfl C (by omega) dL_law_437 dL_law_438 dL_law_440 dL_law_441 dL_law_442 ?_
  refine lz_call (j := 0) (d := 0) (as := [.inl (xs (i + 1)).toInt]) (rest := []) C dL_law_443 cv_RL_48 (by decide) rfl rfl rfl rfl (Nat.le_of_ble_eq_true rfl) (Nat.le_of_ble_eq_true rfl) hcs hss hok (lz_oa lz_oa0) (w_x_law _ 0 (by omega) _ _ _ _ e1) (fun _ hok1 => ?_)
  refine lz_m C dL_law_446 ?_
  refine lz_arg (k := 1) rfl C (by omega) dL_law_447 dL_law_448 dL_law_450 dL_law_451 dL_law_452 ?_
  refine lz_call (j := 49) (d := 1) (as := [.inl (xs (i + 1)).toInt]) (rest := [.int (Int32.ofInt a)]) C dL_law_453 cv_RL_51 (by decide) rfl rfl rfl rfl (Nat.le_of_ble_eq_true rfl) (Nat.le_of_ble_eq_true rfl) hcs hss hok1 (lz_oa lz_oa0) (w_m_law _ 1 (by omega) _ _ _ _ e2) (fun _ hok2 => ?_)
  exact lz_eq C dL_law_456 (by decide) (k w2 h2 hok2)
