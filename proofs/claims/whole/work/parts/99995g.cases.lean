theorem dL_law_1321 : decode cL_law 1321 = .ok (.aload_n 1, 1) := by decide +kernel
theorem dL_law_1322 : decode cL_law 1322 = .ok (.aload_n 0, 1) := by decide +kernel
theorem dL_law_1323 : decode cL_law 1323 = .ok (.iload 4, 2) := by decide +kernel
theorem dL_law_1325 : decode cL_law 1325 = .ok (.iconst 1, 1) := by decide +kernel
theorem dL_law_1326 : decode cL_law 1326 = .ok (.iadd, 1) := by decide +kernel
theorem dL_law_1327 : decode cL_law 1327 = .ok (.iaload, 1) := by decide +kernel
theorem dL_law_1328 : decode cL_law 1328 = .ok (.invokevirtual 154, 3) := by decide +kernel
theorem dL_law_1331 : decode cL_law 1331 = .ok (.aload_n 2, 1) := by decide +kernel
theorem dL_law_1332 : decode cL_law 1332 = .ok (.aload_n 0, 1) := by decide +kernel
theorem dL_law_1333 : decode cL_law 1333 = .ok (.iload 4, 2) := by decide +kernel
theorem dL_law_1335 : decode cL_law 1335 = .ok (.iconst 1, 1) := by decide +kernel
theorem dL_law_1336 : decode cL_law 1336 = .ok (.iadd, 1) := by decide +kernel
theorem dL_law_1337 : decode cL_law 1337 = .ok (.iaload, 1) := by decide +kernel
theorem dL_law_1338 : decode cL_law 1338 = .ok (.invokevirtual 157, 3) := by decide +kernel
theorem dL_law_1341 : decode cL_law 1341 = .ok (.if_icmp .eq 303, 3) := by decide +kernel
theorem lc_bold {p : Program} {l : Launch} {e : Env} {s : State} {m : MethodId} {below : List Frame} {meth : Method} {c : Code} {K : aw_K} {b L : Nat} {xs : Nat → Int32} {cells slots i : Nat} {w : aw_W} (C : lz_Cx K l p s m meth c b L xs) (hi : i + 6 ≤ L) (hcs : cells ≤ 601024) (hss : slots ≤ 7293034) (hnv : nv w) (hok : aw_okw w) (k : ∀ w2, nv w2 → aw_okw w2 → lz_W p l e s m below meth c K b (cells + 1) (slots + 6) 1644 i [] w2) : lz_W p l e s m below meth c K b cells slots 1321 i [] w := by
  obtain ⟨a, w1, w2, e1, e2, h2⟩ := C_bold (N := 10000000) (Nat.le_refl _) hnv (x1 := (xs (i + 1)).toInt)
  refine lz_x C dL_law_1321 ?_
  refine lz_arg (k := 1) rfl C (by omega) dL_law_1322 dL_law_1323 dL_law_1325 dL_law_1326 dL_law_1327 ?_
  refine lz_call (j := 0) (d := 5) (as := [.inl (xs (i + 1)).toInt]) (rest := []) C dL_law_1328 cv_RL_154 (by decide) rfl rfl rfl rfl (Nat.le_of_ble_eq_true rfl) (Nat.le_of_ble_eq_true rfl) hcs hss hok (lz_oa lz_oa0) (w_x_bold _ 5 (by omega) _ _ _ _ e1) (fun _ hok1 => ?_)
  refine lz_m C dL_law_1331 ?_
  refine lz_arg (k := 1) rfl C (by omega) dL_law_1332 dL_law_1333 dL_law_1335 dL_law_1336 dL_law_1337 ?_
  refine lz_call (j := 49) (d := 65) (as := [.inl (xs (i + 1)).toInt]) (rest := [.int (Int32.ofInt a)]) C dL_law_1338 cv_RL_157 (by decide) rfl rfl rfl rfl (Nat.le_of_ble_eq_true rfl) (Nat.le_of_ble_eq_true rfl) hcs hss hok1 (lz_oa lz_oa0) (w_m_bold _ 65 (by omega) _ _ _ _ e2) (fun _ hok2 => ?_)
  exact lz_eq C dL_law_1341 (by decide) (k w2 h2 hok2)
theorem dL_law_1346 : decode cL_law 1346 = .ok (.aload_n 1, 1) := by decide +kernel
theorem dL_law_1347 : decode cL_law 1347 = .ok (.invokevirtual 158, 3) := by decide +kernel
theorem dL_law_1350 : decode cL_law 1350 = .ok (.aload_n 2, 1) := by decide +kernel
theorem dL_law_1351 : decode cL_law 1351 = .ok (.invokevirtual 161, 3) := by decide +kernel
theorem dL_law_1354 : decode cL_law 1354 = .ok (.if_icmp .eq 290, 3) := by decide +kernel
theorem lc_voids {p : Program} {l : Launch} {e : Env} {s : State} {m : MethodId} {below : List Frame} {meth : Method} {c : Code} {K : aw_K} {b L : Nat} {xs : Nat → Int32} {cells slots i : Nat} {w : aw_W} (C : lz_Cx K l p s m meth c b L xs) (hi : i + 6 ≤ L) (hcs : cells ≤ 601024) (hss : slots ≤ 7293034) (hnv : nv w) (hok : aw_okw w) (k : ∀ w2, nv w2 → aw_okw w2 → lz_W p l e s m below meth c K b (cells + 1) (slots + 6) 1644 i [] w2) : lz_W p l e s m below meth c K b cells slots 1346 i [] w := by
  obtain ⟨a, w1, w2, e1, e2, h2⟩ := C_voids (N := 10000000) (Nat.le_refl _) hnv 
  refine lz_x C dL_law_1346 ?_
  refine lz_call (j := 0) (d := 4) (as := []) (rest := []) C dL_law_1347 cv_RL_158 (by decide) rfl rfl rfl rfl (Nat.le_of_ble_eq_true rfl) (Nat.le_of_ble_eq_true rfl) hcs hss hok lz_oa0 (w_x_voids _ 4 (by omega) _ _ _ e1) (fun _ hok1 => ?_)
  refine lz_m C dL_law_1350 ?_
  refine lz_call (j := 49) (d := 3) (as := []) (rest := [.int (Int32.ofInt a)]) C dL_law_1351 cv_RL_161 (by decide) rfl rfl rfl rfl (Nat.le_of_ble_eq_true rfl) (Nat.le_of_ble_eq_true rfl) hcs hss hok1 lz_oa0 (w_m_voids _ 3 (by omega) _ _ _ e2) (fun _ hok2 => ?_)
  exact lz_eq C dL_law_1354 (by decide) (k w2 h2 hok2)
theorem dL_law_1359 : decode cL_law 1359 = .ok (.aload_n 1, 1) := by decide +kernel
theorem dL_law_1360 : decode cL_law 1360 = .ok (.aload_n 0, 1) := by decide +kernel
theorem dL_law_1361 : decode cL_law 1361 = .ok (.iload 4, 2) := by decide +kernel
theorem dL_law_1363 : decode cL_law 1363 = .ok (.iconst 1, 1) := by decide +kernel
theorem dL_law_1364 : decode cL_law 1364 = .ok (.iadd, 1) := by decide +kernel
theorem dL_law_1365 : decode cL_law 1365 = .ok (.iaload, 1) := by decide +kernel
theorem dL_law_1366 : decode cL_law 1366 = .ok (.aload_n 0, 1) := by decide +kernel
theorem dL_law_1367 : decode cL_law 1367 = .ok (.iload 4, 2) := by decide +kernel
theorem dL_law_1369 : decode cL_law 1369 = .ok (.iconst 2, 1) := by decide +kernel
theorem dL_law_1370 : decode cL_law 1370 = .ok (.iadd, 1) := by decide +kernel
theorem dL_law_1371 : decode cL_law 1371 = .ok (.iaload, 1) := by decide +kernel
theorem dL_law_1372 : decode cL_law 1372 = .ok (.invokevirtual 162, 3) := by decide +kernel
theorem dL_law_1375 : decode cL_law 1375 = .ok (.aload_n 2, 1) := by decide +kernel
theorem dL_law_1376 : decode cL_law 1376 = .ok (.aload_n 0, 1) := by decide +kernel
theorem dL_law_1377 : decode cL_law 1377 = .ok (.iload 4, 2) := by decide +kernel
theorem dL_law_1379 : decode cL_law 1379 = .ok (.iconst 1, 1) := by decide +kernel
theorem dL_law_1380 : decode cL_law 1380 = .ok (.iadd, 1) := by decide +kernel
theorem dL_law_1381 : decode cL_law 1381 = .ok (.iaload, 1) := by decide +kernel
theorem dL_law_1382 : decode cL_law 1382 = .ok (.aload_n 0, 1) := by decide +kernel
theorem dL_law_1383 : decode cL_law 1383 = .ok (.iload 4, 2) := by decide +kernel
theorem dL_law_1385 : decode cL_law 1385 = .ok (.iconst 2, 1) := by decide +kernel
theorem dL_law_1386 : decode cL_law 1386 = .ok (.iadd, 1) := by decide +kernel
theorem dL_law_1387 : decode cL_law 1387 = .ok (.iaload, 1) := by decide +kernel
theorem dL_law_1388 : decode cL_law 1388 = .ok (.invokevirtual 165, 3) := by decide +kernel
theorem dL_law_1391 : decode cL_law 1391 = .ok (.if_icmp .eq 253, 3) := by decide +kernel
theorem lc_near {p : Program} {l : Launch} {e : Env} {s : State} {m : MethodId} {below : List Frame} {meth : Method} {c : Code} {K : aw_K} {b L : Nat} {xs : Nat → Int32} {cells slots i : Nat} {w : aw_W} (C : lz_Cx K l p s m meth c b L xs) (hi : i + 6 ≤ L) (hcs : cells ≤ 601024) (hss : slots ≤ 7293034) (hnv : nv w) (hok : aw_okw w) (k : ∀ w2, nv w2 → aw_okw w2 → lz_W p l e s m below meth c K b (cells + 1) (slots + 6) 1644 i [] w2) : lz_W p l e s m below meth c K b cells slots 1359 i [] w := by
  obtain ⟨a, w1, w2, e1, e2, h2⟩ := C_near (N := 10000000) (Nat.le_refl _) hnv (x1 := (xs (i + 1)).toInt) (x2 := (xs (i + 2)).toInt) (aw_Ii _)
  refine lz_x C dL_law_1359 ?_
  refine lz_arg (k := 1) rfl C (by omega) dL_law_1360 dL_law_1361 dL_law_1363 dL_law_1364 dL_law_1365 ?_
  refine lz_arg (k := 2) rfl C (by omega) dL_law_1366 dL_law_1367 dL_law_1369 dL_law_1370 dL_law_1371 ?_
  refine lz_call (j := 0) (d := 5) (as := [.inl (xs (i + 1)).toInt, .inl (xs (i + 2)).toInt]) (rest := []) C dL_law_1372 cv_RL_162 (by decide) rfl rfl rfl rfl (Nat.le_of_ble_eq_true rfl) (Nat.le_of_ble_eq_true rfl) hcs hss hok (lz_oa (lz_oa lz_oa0)) (w_x_near _ 5 (by omega) _ _ _ _ _ e1) (fun _ hok1 => ?_)
  refine lz_m C dL_law_1375 ?_
  refine lz_arg (k := 1) rfl C (by omega) dL_law_1376 dL_law_1377 dL_law_1379 dL_law_1380 dL_law_1381 ?_
  refine lz_arg (k := 2) rfl C (by omega) dL_law_1382 dL_law_1383 dL_law_1385 dL_law_1386 dL_law_1387 ?_
  refine lz_call (j := 49) (d := 4) (as := [.inl (xs (i + 1)).toInt, .inl (xs (i + 2)).toInt]) (rest := [.int (Int32.ofInt a)]) C dL_law_1388 cv_RL_165 (by decide) rfl rfl rfl rfl (Nat.le_of_ble_eq_true rfl) (Nat.le_of_ble_eq_true rfl) hcs hss hok1 (lz_oa (lz_oa lz_oa0)) (w_m_near _ 4 (by omega) _ _ _ _ _ e2) (fun _ hok2 => ?_)
  exact lz_eq C dL_law_1391 (by decide) (k w2 h2 hok2)
theorem dL_law_1396 : decode cL_law 1396 = .ok (.aload_n 1, 1) := by decide +kernel
theorem dL_law_1397 : decode cL_law 1397 = .ok (.aload_n 0, 1) := by decide +kernel
theorem dL_law_1398 : decode cL_law 1398 = .ok (.iload 4, 2) := by decide +kernel
theorem dL_law_1400 : decode cL_law 1400 = .ok (.iconst 1, 1) := by decide +kernel
theorem dL_law_1401 : decode cL_law 1401 = .ok (.iadd, 1) := by decide +kernel
theorem dL_law_1402 : decode cL_law 1402 = .ok (.iaload, 1) := by decide +kernel
theorem dL_law_1403 : decode cL_law 1403 = .ok (.invokevirtual 166, 3) := by decide +kernel
theorem dL_law_1406 : decode cL_law 1406 = .ok (.aload_n 2, 1) := by decide +kernel
theorem dL_law_1407 : decode cL_law 1407 = .ok (.aload_n 0, 1) := by decide +kernel
theorem dL_law_1408 : decode cL_law 1408 = .ok (.iload 4, 2) := by decide +kernel
theorem dL_law_1410 : decode cL_law 1410 = .ok (.iconst 1, 1) := by decide +kernel
theorem dL_law_1411 : decode cL_law 1411 = .ok (.iadd, 1) := by decide +kernel
theorem dL_law_1412 : decode cL_law 1412 = .ok (.iaload, 1) := by decide +kernel
theorem dL_law_1413 : decode cL_law 1413 = .ok (.invokevirtual 169, 3) := by decide +kernel
theorem dL_law_1416 : decode cL_law 1416 = .ok (.if_icmp .eq 228, 3) := by decide +kernel
theorem lc_changes {p : Program} {l : Launch} {e : Env} {s : State} {m : MethodId} {below : List Frame} {meth : Method} {c : Code} {K : aw_K} {b L : Nat} {xs : Nat → Int32} {cells slots i : Nat} {w : aw_W} (C : lz_Cx K l p s m meth c b L xs) (hi : i + 6 ≤ L) (hcs : cells ≤ 601024) (hss : slots ≤ 7293034) (hnv : nv w) (hok : aw_okw w) (k : ∀ w2, nv w2 → aw_okw w2 → lz_W p l e s m below meth c K b (cells + 1) (slots + 6) 1644 i [] w2) : lz_W p l e s m below meth c K b cells slots 1396 i [] w := by
  obtain ⟨a, w1, w2, e1, e2, h2⟩ := C_changes (N := 10000000) (Nat.le_refl _) hnv (x1 := (xs (i + 1)).toInt) (aw_Ii _)
  refine lz_x C dL_law_1396 ?_
  refine lz_arg (k := 1) rfl C (by omega) dL_law_1397 dL_law_1398 dL_law_1400 dL_law_1401 dL_law_1402 ?_
  refine lz_call (j := 0) (d := 6) (as := [.inl (xs (i + 1)).toInt]) (rest := []) C dL_law_1403 cv_RL_166 (by decide) rfl rfl rfl rfl (Nat.le_of_ble_eq_true rfl) (Nat.le_of_ble_eq_true rfl) hcs hss hok (lz_oa lz_oa0) (w_x_changes _ 6 (by omega) _ _ _ _ e1) (fun _ hok1 => ?_)
  refine lz_m C dL_law_1406 ?_
  refine lz_arg (k := 1) rfl C (by omega) dL_law_1407 dL_law_1408 dL_law_1410 dL_law_1411 dL_law_1412 ?_
  refine lz_call (j := 49) (d := 4) (as := [.inl (xs (i + 1)).toInt]) (rest := [.int (Int32.ofInt a)]) C dL_law_1413 cv_RL_169 (by decide) rfl rfl rfl rfl (Nat.le_of_ble_eq_true rfl) (Nat.le_of_ble_eq_true rfl) hcs hss hok1 (lz_oa lz_oa0) (w_m_changes _ 4 (by omega) _ _ _ _ e2) (fun _ hok2 => ?_)
  exact lz_eq C dL_law_1416 (by decide) (k w2 h2 hok2)
theorem dL_law_1421 : decode cL_law 1421 = .ok (.aload_n 1, 1) := by decide +kernel
theorem dL_law_1422 : decode cL_law 1422 = .ok (.aload_n 0, 1) := by decide +kernel
theorem dL_law_1423 : decode cL_law 1423 = .ok (.iload 4, 2) := by decide +kernel
theorem dL_law_1425 : decode cL_law 1425 = .ok (.iconst 1, 1) := by decide +kernel
theorem dL_law_1426 : decode cL_law 1426 = .ok (.iadd, 1) := by decide +kernel
theorem dL_law_1427 : decode cL_law 1427 = .ok (.iaload, 1) := by decide +kernel
theorem dL_law_1428 : decode cL_law 1428 = .ok (.aload_n 0, 1) := by decide +kernel
theorem dL_law_1429 : decode cL_law 1429 = .ok (.iload 4, 2) := by decide +kernel
theorem dL_law_1431 : decode cL_law 1431 = .ok (.iconst 2, 1) := by decide +kernel
theorem dL_law_1432 : decode cL_law 1432 = .ok (.iadd, 1) := by decide +kernel
theorem dL_law_1433 : decode cL_law 1433 = .ok (.iaload, 1) := by decide +kernel
theorem dL_law_1434 : decode cL_law 1434 = .ok (.aload_n 0, 1) := by decide +kernel
theorem dL_law_1435 : decode cL_law 1435 = .ok (.iload 4, 2) := by decide +kernel
theorem dL_law_1437 : decode cL_law 1437 = .ok (.iconst 3, 1) := by decide +kernel
theorem dL_law_1438 : decode cL_law 1438 = .ok (.iadd, 1) := by decide +kernel
theorem dL_law_1439 : decode cL_law 1439 = .ok (.iaload, 1) := by decide +kernel
theorem dL_law_1440 : decode cL_law 1440 = .ok (.invokevirtual 170, 3) := by decide +kernel
theorem dL_law_1443 : decode cL_law 1443 = .ok (.aload_n 2, 1) := by decide +kernel
theorem dL_law_1444 : decode cL_law 1444 = .ok (.aload_n 0, 1) := by decide +kernel
theorem dL_law_1445 : decode cL_law 1445 = .ok (.iload 4, 2) := by decide +kernel
theorem dL_law_1447 : decode cL_law 1447 = .ok (.iconst 1, 1) := by decide +kernel
theorem dL_law_1448 : decode cL_law 1448 = .ok (.iadd, 1) := by decide +kernel
theorem dL_law_1449 : decode cL_law 1449 = .ok (.iaload, 1) := by decide +kernel
theorem dL_law_1450 : decode cL_law 1450 = .ok (.aload_n 0, 1) := by decide +kernel
theorem dL_law_1451 : decode cL_law 1451 = .ok (.iload 4, 2) := by decide +kernel
theorem dL_law_1453 : decode cL_law 1453 = .ok (.iconst 2, 1) := by decide +kernel
theorem dL_law_1454 : decode cL_law 1454 = .ok (.iadd, 1) := by decide +kernel
theorem dL_law_1455 : decode cL_law 1455 = .ok (.iaload, 1) := by decide +kernel
theorem dL_law_1456 : decode cL_law 1456 = .ok (.aload_n 0, 1) := by decide +kernel
theorem dL_law_1457 : decode cL_law 1457 = .ok (.iload 4, 2) := by decide +kernel
theorem dL_law_1459 : decode cL_law 1459 = .ok (.iconst 3, 1) := by decide +kernel
theorem dL_law_1460 : decode cL_law 1460 = .ok (.iadd, 1) := by decide +kernel
theorem dL_law_1461 : decode cL_law 1461 = .ok (.iaload, 1) := by decide +kernel
theorem dL_law_1462 : decode cL_law 1462 = .ok (.invokevirtual 173, 3) := by decide +kernel
theorem dL_law_1465 : decode cL_law 1465 = .ok (.if_icmp .eq 179, 3) := by decide +kernel
theorem lc_without {p : Program} {l : Launch} {e : Env} {s : State} {m : MethodId} {below : List Frame} {meth : Method} {c : Code} {K : aw_K} {b L : Nat} {xs : Nat → Int32} {cells slots i : Nat} {w : aw_W} (C : lz_Cx K l p s m meth c b L xs) (hi : i + 6 ≤ L) (hcs : cells ≤ 601024) (hss : slots ≤ 7293034) (hnv : nv w) (hok : aw_okw w) (k : ∀ w2, nv w2 → aw_okw w2 → lz_W p l e s m below meth c K b (cells + 1) (slots + 6) 1644 i [] w2) : lz_W p l e s m below meth c K b cells slots 1421 i [] w := by
  obtain ⟨a, w1, w2, e1, e2, h2⟩ := C_without (N := 10000000) (Nat.le_refl _) hnv (x1 := (xs (i + 1)).toInt) (x2 := (xs (i + 2)).toInt) (x3 := (xs (i + 3)).toInt)
  refine lz_x C dL_law_1421 ?_
  refine lz_arg (k := 1) rfl C (by omega) dL_law_1422 dL_law_1423 dL_law_1425 dL_law_1426 dL_law_1427 ?_
  refine lz_arg (k := 2) rfl C (by omega) dL_law_1428 dL_law_1429 dL_law_1431 dL_law_1432 dL_law_1433 ?_
  refine lz_arg (k := 3) rfl C (by omega) dL_law_1434 dL_law_1435 dL_law_1437 dL_law_1438 dL_law_1439 ?_
  refine lz_call (j := 0) (d := 6) (as := [.inl (xs (i + 1)).toInt, .inl (xs (i + 2)).toInt, .inl (xs (i + 3)).toInt]) (rest := []) C dL_law_1440 cv_RL_170 (by decide) rfl rfl rfl rfl (Nat.le_of_ble_eq_true rfl) (Nat.le_of_ble_eq_true rfl) hcs hss hok (lz_oa (lz_oa (lz_oa lz_oa0))) (w_x_without _ 6 (by omega) _ _ _ _ _ _ e1) (fun _ hok1 => ?_)
  refine lz_m C dL_law_1443 ?_
  refine lz_arg (k := 1) rfl C (by omega) dL_law_1444 dL_law_1445 dL_law_1447 dL_law_1448 dL_law_1449 ?_
  refine lz_arg (k := 2) rfl C (by omega) dL_law_1450 dL_law_1451 dL_law_1453 dL_law_1454 dL_law_1455 ?_
  refine lz_arg (k := 3) rfl C (by omega) dL_law_1456 dL_law_1457 dL_law_1459 dL_law_1460 dL_law_1461 ?_
  refine lz_call (j := 49) (d := 130) (as := [.inl (xs (i + 1)).toInt, .inl (xs (i + 2)).toInt, .inl (xs (i + 3)).toInt]) (rest := [.int (Int32.ofInt a)]) C dL_law_1462 cv_RL_173 (by decide) rfl rfl rfl rfl (Nat.le_of_ble_eq_true rfl) (Nat.le_of_ble_eq_true rfl) hcs hss hok1 (lz_oa (lz_oa (lz_oa lz_oa0))) (w_m_without _ 130 (by omega) _ _ _ _ _ _ e2) (fun _ hok2 => ?_)
  exact lz_eq C dL_law_1465 (by decide) (k w2 h2 hok2)
theorem dL_law_1470 : decode cL_law 1470 = .ok (.aload_n 1, 1) := by decide +kernel
theorem dL_law_1471 : decode cL_law 1471 = .ok (.aload_n 0, 1) := by decide +kernel
theorem dL_law_1472 : decode cL_law 1472 = .ok (.iload 4, 2) := by decide +kernel
theorem dL_law_1474 : decode cL_law 1474 = .ok (.iconst 1, 1) := by decide +kernel
theorem dL_law_1475 : decode cL_law 1475 = .ok (.iadd, 1) := by decide +kernel
theorem dL_law_1476 : decode cL_law 1476 = .ok (.iaload, 1) := by decide +kernel
theorem dL_law_1477 : decode cL_law 1477 = .ok (.aload_n 0, 1) := by decide +kernel
theorem dL_law_1478 : decode cL_law 1478 = .ok (.iload 4, 2) := by decide +kernel
theorem dL_law_1480 : decode cL_law 1480 = .ok (.iconst 2, 1) := by decide +kernel
theorem dL_law_1481 : decode cL_law 1481 = .ok (.iadd, 1) := by decide +kernel
theorem dL_law_1482 : decode cL_law 1482 = .ok (.iaload, 1) := by decide +kernel
theorem dL_law_1483 : decode cL_law 1483 = .ok (.aload_n 0, 1) := by decide +kernel
theorem dL_law_1484 : decode cL_law 1484 = .ok (.iload 4, 2) := by decide +kernel
theorem dL_law_1486 : decode cL_law 1486 = .ok (.iconst 3, 1) := by decide +kernel
theorem dL_law_1487 : decode cL_law 1487 = .ok (.iadd, 1) := by decide +kernel
theorem dL_law_1488 : decode cL_law 1488 = .ok (.iaload, 1) := by decide +kernel
theorem dL_law_1489 : decode cL_law 1489 = .ok (.invokevirtual 174, 3) := by decide +kernel
theorem dL_law_1492 : decode cL_law 1492 = .ok (.aload_n 2, 1) := by decide +kernel
theorem dL_law_1493 : decode cL_law 1493 = .ok (.aload_n 0, 1) := by decide +kernel
theorem dL_law_1494 : decode cL_law 1494 = .ok (.iload 4, 2) := by decide +kernel
theorem dL_law_1496 : decode cL_law 1496 = .ok (.iconst 1, 1) := by decide +kernel
theorem dL_law_1497 : decode cL_law 1497 = .ok (.iadd, 1) := by decide +kernel
theorem dL_law_1498 : decode cL_law 1498 = .ok (.iaload, 1) := by decide +kernel
theorem dL_law_1499 : decode cL_law 1499 = .ok (.aload_n 0, 1) := by decide +kernel
theorem dL_law_1500 : decode cL_law 1500 = .ok (.iload 4, 2) := by decide +kernel
theorem dL_law_1502 : decode cL_law 1502 = .ok (.iconst 2, 1) := by decide +kernel
theorem dL_law_1503 : decode cL_law 1503 = .ok (.iadd, 1) := by decide +kernel
theorem dL_law_1504 : decode cL_law 1504 = .ok (.iaload, 1) := by decide +kernel
theorem dL_law_1505 : decode cL_law 1505 = .ok (.aload_n 0, 1) := by decide +kernel
theorem dL_law_1506 : decode cL_law 1506 = .ok (.iload 4, 2) := by decide +kernel
theorem dL_law_1508 : decode cL_law 1508 = .ok (.iconst 3, 1) := by decide +kernel
theorem dL_law_1509 : decode cL_law 1509 = .ok (.iadd, 1) := by decide +kernel
theorem dL_law_1510 : decode cL_law 1510 = .ok (.iaload, 1) := by decide +kernel
theorem dL_law_1511 : decode cL_law 1511 = .ok (.invokevirtual 177, 3) := by decide +kernel
theorem dL_law_1514 : decode cL_law 1514 = .ok (.if_icmp .eq 130, 3) := by decide +kernel
theorem lc_choice {p : Program} {l : Launch} {e : Env} {s : State} {m : MethodId} {below : List Frame} {meth : Method} {c : Code} {K : aw_K} {b L : Nat} {xs : Nat → Int32} {cells slots i : Nat} {w : aw_W} (C : lz_Cx K l p s m meth c b L xs) (hi : i + 6 ≤ L) (hcs : cells ≤ 601024) (hss : slots ≤ 7293034) (hnv : nv w) (hok : aw_okw w) (k : ∀ w2, nv w2 → aw_okw w2 → lz_W p l e s m below meth c K b (cells + 1) (slots + 6) 1644 i [] w2) : lz_W p l e s m below meth c K b cells slots 1470 i [] w := by
  obtain ⟨a, w1, w2, e1, e2, h2⟩ := C_choice (N := 10000000) (Nat.le_refl _) hnv (x1 := (xs (i + 1)).toInt) (x2 := (xs (i + 2)).toInt) (x3 := (xs (i + 3)).toInt)
  refine lz_x C dL_law_1470 ?_
  refine lz_arg (k := 1) rfl C (by omega) dL_law_1471 dL_law_1472 dL_law_1474 dL_law_1475 dL_law_1476 ?_
  refine lz_arg (k := 2) rfl C (by omega) dL_law_1477 dL_law_1478 dL_law_1480 dL_law_1481 dL_law_1482 ?_
  refine lz_arg (k := 3) rfl C (by omega) dL_law_1483 dL_law_1484 dL_law_1486 dL_law_1487 dL_law_1488 ?_
  refine lz_call (j := 0) (d := 6) (as := [.inl (xs (i + 1)).toInt, .inl (xs (i + 2)).toInt, .inl (xs (i + 3)).toInt]) (rest := []) C dL_law_1489 cv_RL_174 (by decide) rfl rfl rfl rfl (Nat.le_of_ble_eq_true rfl) (Nat.le_of_ble_eq_true rfl) hcs hss hok (lz_oa (lz_oa (lz_oa lz_oa0))) (w_x_choice _ 6 (by omega) _ _ _ _ _ _ e1) (fun _ hok1 => ?_)
  refine lz_m C dL_law_1492 ?_
  refine lz_arg (k := 1) rfl C (by omega) dL_law_1493 dL_law_1494 dL_law_1496 dL_law_1497 dL_law_1498 ?_
  refine lz_arg (k := 2) rfl C (by omega) dL_law_1499 dL_law_1500 dL_law_1502 dL_law_1503 dL_law_1504 ?_
  refine lz_arg (k := 3) rfl C (by omega) dL_law_1505 dL_law_1506 dL_law_1508 dL_law_1509 dL_law_1510 ?_
  refine lz_call (j := 49) (d := 130) (as := [.inl (xs (i + 1)).toInt, .inl (xs (i + 2)).toInt, .inl (xs (i + 3)).toInt]) (rest := [.int (Int32.ofInt a)]) C dL_law_1511 cv_RL_177 (by decide) rfl rfl rfl rfl (Nat.le_of_ble_eq_true rfl) (Nat.le_of_ble_eq_true rfl) hcs hss hok1 (lz_oa (lz_oa (lz_oa lz_oa0))) (w_m_choice _ 130 (by omega) _ _ _ _ _ _ e2) (fun _ hok2 => ?_)
  exact lz_eq C dL_law_1514 (by decide) (k w2 h2 hok2)
