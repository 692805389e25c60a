theorem dL_law_1159 : decode cL_law 1159 = .ok (.aload_n 1, 1) := by decide +kernel
theorem dL_law_1160 : decode cL_law 1160 = .ok (.invokevirtual 130, 3) := by decide +kernel
theorem dL_law_1163 : decode cL_law 1163 = .ok (.aload_n 2, 1) := by decide +kernel
theorem dL_law_1164 : decode cL_law 1164 = .ok (.invokevirtual 133, 3) := by decide +kernel
theorem dL_law_1167 : decode cL_law 1167 = .ok (.if_icmp .eq 477, 3) := by decide +kernel
theorem lc_undo {p : Program} {l : Launch} {e : Env} {s : State} {m : MethodId} {below : List Frame} {meth : Method} {c : Code} {K : aw_K} {b L : Nat} {xs : Nat → Int32} {cells slots i : Nat} {w : aw_W} (C : lz_Cx K l p s m meth c b L xs) (hi : i + 6 ≤ L) (hcs : cells ≤ 601024) (hss : slots ≤ 7293034) (hnv : nv w) (hok : aw_okw w) (k : ∀ w2, nv w2 → aw_okw w2 → lz_W p l e s m below meth c K b (cells + 1) (slots + 6) 1644 i [] w2) : lz_W p l e s m below meth c K b cells slots 1159 i [] w := by
  obtain ⟨a, w1, w2, e1, e2, h2⟩ := C_undo (N := 10000000) (Nat.le_refl _) hnv 
  refine lz_x C dL_law_1159 ?_
  refine lz_call (j := 0) (d := 0) (as := []) (rest := []) C dL_law_1160 cv_RL_130 (by decide) rfl rfl rfl rfl (Nat.le_of_ble_eq_true rfl) (Nat.le_of_ble_eq_true rfl) hcs hss hok lz_oa0 (w_x_undo _ 0 (by omega) _ _ _ e1) (fun _ hok1 => ?_)
  refine lz_m C dL_law_1163 ?_
  refine lz_call (j := 49) (d := 0) (as := []) (rest := [.int (Int32.ofInt a)]) C dL_law_1164 cv_RL_133 (by decide) rfl rfl rfl rfl (Nat.le_of_ble_eq_true rfl) (Nat.le_of_ble_eq_true rfl) hcs hss hok1 lz_oa0 (w_m_undo _ 0 (by omega) _ _ _ e2) (fun _ hok2 => ?_)
  exact lz_eq C dL_law_1167 (by decide) (k w2 h2 hok2)
theorem dL_law_1172 : decode cL_law 1172 = .ok (.aload_n 1, 1) := by decide +kernel
theorem dL_law_1173 : decode cL_law 1173 = .ok (.aload_n 0, 1) := by decide +kernel
theorem dL_law_1174 : decode cL_law 1174 = .ok (.iload 4, 2) := by decide +kernel
theorem dL_law_1176 : decode cL_law 1176 = .ok (.iconst 1, 1) := by decide +kernel
theorem dL_law_1177 : decode cL_law 1177 = .ok (.iadd, 1) := by decide +kernel
theorem dL_law_1178 : decode cL_law 1178 = .ok (.iaload, 1) := by decide +kernel
theorem dL_law_1179 : decode cL_law 1179 = .ok (.invokevirtual 134, 3) := by decide +kernel
theorem dL_law_1182 : decode cL_law 1182 = .ok (.aload_n 2, 1) := by decide +kernel
theorem dL_law_1183 : decode cL_law 1183 = .ok (.aload_n 0, 1) := by decide +kernel
theorem dL_law_1184 : decode cL_law 1184 = .ok (.iload 4, 2) := by decide +kernel
theorem dL_law_1186 : decode cL_law 1186 = .ok (.iconst 1, 1) := by decide +kernel
theorem dL_law_1187 : decode cL_law 1187 = .ok (.iadd, 1) := by decide +kernel
theorem dL_law_1188 : decode cL_law 1188 = .ok (.iaload, 1) := by decide +kernel
theorem dL_law_1189 : decode cL_law 1189 = .ok (.invokevirtual 137, 3) := by decide +kernel
theorem dL_law_1192 : decode cL_law 1192 = .ok (.if_icmp .eq 452, 3) := by decide +kernel
theorem lc_often {p : Program} {l : Launch} {e : Env} {s : State} {m : MethodId} {below : List Frame} {meth : Method} {c : Code} {K : aw_K} {b L : Nat} {xs : Nat → Int32} {cells slots i : Nat} {w : aw_W} (C : lz_Cx K l p s m meth c b L xs) (hi : i + 6 ≤ L) (hcs : cells ≤ 601024) (hss : slots ≤ 7293034) (hnv : nv w) (hok : aw_okw w) (k : ∀ w2, nv w2 → aw_okw w2 → lz_W p l e s m below meth c K b (cells + 1) (slots + 6) 1644 i [] w2) : lz_W p l e s m below meth c K b cells slots 1172 i [] w := by
  obtain ⟨a, w1, w2, e1, e2, h2⟩ := C_often (N := 10000000) (Nat.le_refl _) hnv (x1 := (xs (i + 1)).toInt)
  refine lz_x C dL_law_1172 ?_
  refine lz_arg (k := 1) rfl C (by omega) dL_law_1173 dL_law_1174 dL_law_1176 dL_law_1177 dL_law_1178 ?_
  refine lz_call (j := 0) (d := 4) (as := [.inl (xs (i + 1)).toInt]) (rest := []) C dL_law_1179 cv_RL_134 (by decide) rfl rfl rfl rfl (Nat.le_of_ble_eq_true rfl) (Nat.le_of_ble_eq_true rfl) hcs hss hok (lz_oa lz_oa0) (w_x_often _ 4 (by omega) _ _ _ _ e1) (fun _ hok1 => ?_)
  refine lz_m C dL_law_1182 ?_
  refine lz_arg (k := 1) rfl C (by omega) dL_law_1183 dL_law_1184 dL_law_1186 dL_law_1187 dL_law_1188 ?_
  refine lz_call (j := 49) (d := 3) (as := [.inl (xs (i + 1)).toInt]) (rest := [.int (Int32.ofInt a)]) C dL_law_1189 cv_RL_137 (by decide) rfl rfl rfl rfl (Nat.le_of_ble_eq_true rfl) (Nat.le_of_ble_eq_true rfl) hcs hss hok1 (lz_oa lz_oa0) (w_m_often _ 3 (by omega) _ _ _ _ e2) (fun _ hok2 => ?_)
  exact lz_eq C dL_law_1192 (by decide) (k w2 h2 hok2)
theorem dL_law_1197 : decode cL_law 1197 = .ok (.aload_n 1, 1) := by decide +kernel
theorem dL_law_1198 : decode cL_law 1198 = .ok (.aload_n 0, 1) := by decide +kernel
theorem dL_law_1199 : decode cL_law 1199 = .ok (.iload 4, 2) := by decide +kernel
theorem dL_law_1201 : decode cL_law 1201 = .ok (.iconst 1, 1) := by decide +kernel
theorem dL_law_1202 : decode cL_law 1202 = .ok (.iadd, 1) := by decide +kernel
theorem dL_law_1203 : decode cL_law 1203 = .ok (.iaload, 1) := by decide +kernel
theorem dL_law_1204 : decode cL_law 1204 = .ok (.aload_n 0, 1) := by decide +kernel
theorem dL_law_1205 : decode cL_law 1205 = .ok (.iload 4, 2) := by decide +kernel
theorem dL_law_1207 : decode cL_law 1207 = .ok (.iconst 2, 1) := by decide +kernel
theorem dL_law_1208 : decode cL_law 1208 = .ok (.iadd, 1) := by decide +kernel
theorem dL_law_1209 : decode cL_law 1209 = .ok (.iaload, 1) := by decide +kernel
theorem dL_law_1210 : decode cL_law 1210 = .ok (.invokevirtual 138, 3) := by decide +kernel
theorem dL_law_1213 : decode cL_law 1213 = .ok (.aload_n 2, 1) := by decide +kernel
theorem dL_law_1214 : decode cL_law 1214 = .ok (.aload_n 0, 1) := by decide +kernel
theorem dL_law_1215 : decode cL_law 1215 = .ok (.iload 4, 2) := by decide +kernel
theorem dL_law_1217 : decode cL_law 1217 = .ok (.iconst 1, 1) := by decide +kernel
theorem dL_law_1218 : decode cL_law 1218 = .ok (.iadd, 1) := by decide +kernel
theorem dL_law_1219 : decode cL_law 1219 = .ok (.iaload, 1) := by decide +kernel
theorem dL_law_1220 : decode cL_law 1220 = .ok (.aload_n 0, 1) := by decide +kernel
theorem dL_law_1221 : decode cL_law 1221 = .ok (.iload 4, 2) := by decide +kernel
theorem dL_law_1223 : decode cL_law 1223 = .ok (.iconst 2, 1) := by decide +kernel
theorem dL_law_1224 : decode cL_law 1224 = .ok (.iadd, 1) := by decide +kernel
theorem dL_law_1225 : decode cL_law 1225 = .ok (.iaload, 1) := by decide +kernel
theorem dL_law_1226 : decode cL_law 1226 = .ok (.invokevirtual 141, 3) := by decide +kernel
theorem dL_law_1229 : decode cL_law 1229 = .ok (.if_icmp .eq 415, 3) := by decide +kernel
theorem lc_made {p : Program} {l : Launch} {e : Env} {s : State} {m : MethodId} {below : List Frame} {meth : Method} {c : Code} {K : aw_K} {b L : Nat} {xs : Nat → Int32} {cells slots i : Nat} {w : aw_W} (C : lz_Cx K l p s m meth c b L xs) (hi : i + 6 ≤ L) (hcs : cells ≤ 601024) (hss : slots ≤ 7293034) (hnv : nv w) (hok : aw_okw w) (k : ∀ w2, nv w2 → aw_okw w2 → lz_W p l e s m below meth c K b (cells + 1) (slots + 6) 1644 i [] w2) : lz_W p l e s m below meth c K b cells slots 1197 i [] w := by
  obtain ⟨a, w1, w2, e1, e2, h2⟩ := C_made (N := 10000000) (Nat.le_refl _) hnv (x1 := (xs (i + 1)).toInt) (x2 := (xs (i + 2)).toInt)
  refine lz_x C dL_law_1197 ?_
  refine lz_arg (k := 1) rfl C (by omega) dL_law_1198 dL_law_1199 dL_law_1201 dL_law_1202 dL_law_1203 ?_
  refine lz_arg (k := 2) rfl C (by omega) dL_law_1204 dL_law_1205 dL_law_1207 dL_law_1208 dL_law_1209 ?_
  refine lz_call (j := 0) (d := 4) (as := [.inl (xs (i + 1)).toInt, .inl (xs (i + 2)).toInt]) (rest := []) C dL_law_1210 cv_RL_138 (by decide) rfl rfl rfl rfl (Nat.le_of_ble_eq_true rfl) (Nat.le_of_ble_eq_true rfl) hcs hss hok (lz_oa (lz_oa lz_oa0)) (w_x_made _ 4 (by omega) _ _ _ _ _ e1) (fun _ hok1 => ?_)
  refine lz_m C dL_law_1213 ?_
  refine lz_arg (k := 1) rfl C (by omega) dL_law_1214 dL_law_1215 dL_law_1217 dL_law_1218 dL_law_1219 ?_
  refine lz_arg (k := 2) rfl C (by omega) dL_law_1220 dL_law_1221 dL_law_1223 dL_law_1224 dL_law_1225 ?_
  refine lz_call (j := 49) (d := 4) (as := [.inl (xs (i + 1)).toInt, .inl (xs (i + 2)).toInt]) (rest := [.int (Int32.ofInt a)]) C dL_law_1226 cv_RL_141 (by decide) rfl rfl rfl rfl (Nat.le_of_ble_eq_true rfl) (Nat.le_of_ble_eq_true rfl) hcs hss hok1 (lz_oa (lz_oa lz_oa0)) (w_m_made _ 4 (by omega) _ _ _ _ _ e2) (fun _ hok2 => ?_)
  exact lz_eq C dL_law_1229 (by decide) (k w2 h2 hok2)
theorem dL_law_1234 : decode cL_law 1234 = .ok (.aload_n 1, 1) := by decide +kernel
theorem dL_law_1235 : decode cL_law 1235 = .ok (.invokevirtual 142, 3) := by decide +kernel
theorem dL_law_1238 : decode cL_law 1238 = .ok (.aload_n 2, 1) := by decide +kernel
theorem dL_law_1239 : decode cL_law 1239 = .ok (.invokevirtual 145, 3) := by decide +kernel
theorem dL_law_1242 : decode cL_law 1242 = .ok (.if_icmp .eq 402, 3) := by decide +kernel
theorem lc_pair {p : Program} {l : Launch} {e : Env} {s : State} {m : MethodId} {below : List Frame} {meth : Method} {c : Code} {K : aw_K} {b L : Nat} {xs : Nat → Int32} {cells slots i : Nat} {w : aw_W} (C : lz_Cx K l p s m meth c b L xs) (hi : i + 6 ≤ L) (hcs : cells ≤ 601024) (hss : slots ≤ 7293034) (hnv : nv w) (hok : aw_okw w) (k : ∀ w2, nv w2 → aw_okw w2 → lz_W p l e s m below meth c K b (cells + 1) (slots + 6) 1644 i [] w2) : lz_W p l e s m below meth c K b cells slots 1234 i [] w := by
  obtain ⟨a, w1, w2, e1, e2, h2⟩ := C_pair (N := 10000000) (Nat.le_refl _) hnv 
  refine lz_x C dL_law_1234 ?_
  refine lz_call (j := 0) (d := 4) (as := []) (rest := []) C dL_law_1235 cv_RL_142 (by decide) rfl rfl rfl rfl (Nat.le_of_ble_eq_true rfl) (Nat.le_of_ble_eq_true rfl) hcs hss hok lz_oa0 (w_x_pair _ 4 (by omega) _ _ _ e1) (fun _ hok1 => ?_)
  refine lz_m C dL_law_1238 ?_
  refine lz_call (j := 49) (d := 4) (as := []) (rest := [.int (Int32.ofInt a)]) C dL_law_1239 cv_RL_145 (by decide) rfl rfl rfl rfl (Nat.le_of_ble_eq_true rfl) (Nat.le_of_ble_eq_true rfl) hcs hss hok1 lz_oa0 (w_m_pair _ 4 (by omega) _ _ _ e2) (fun _ hok2 => ?_)
  exact lz_eq C dL_law_1242 (by decide) (k w2 h2 hok2)
theorem dL_law_1247 : decode cL_law 1247 = .ok (.aload_n 1, 1) := by decide +kernel
theorem dL_law_1248 : decode cL_law 1248 = .ok (.aload_n 0, 1) := by decide +kernel
theorem dL_law_1249 : decode cL_law 1249 = .ok (.iload 4, 2) := by decide +kernel
theorem dL_law_1251 : decode cL_law 1251 = .ok (.iconst 1, 1) := by decide +kernel
theorem dL_law_1252 : decode cL_law 1252 = .ok (.iadd, 1) := by decide +kernel
theorem dL_law_1253 : decode cL_law 1253 = .ok (.iaload, 1) := by decide +kernel
theorem dL_law_1254 : decode cL_law 1254 = .ok (.invokevirtual 146, 3) := by decide +kernel
theorem dL_law_1257 : decode cL_law 1257 = .ok (.aload_n 2, 1) := by decide +kernel
theorem dL_law_1258 : decode cL_law 1258 = .ok (.aload_n 0, 1) := by decide +kernel
theorem dL_law_1259 : decode cL_law 1259 = .ok (.iload 4, 2) := by decide +kernel
theorem dL_law_1261 : decode cL_law 1261 = .ok (.iconst 1, 1) := by decide +kernel
theorem dL_law_1262 : decode cL_law 1262 = .ok (.iadd, 1) := by decide +kernel
theorem dL_law_1263 : decode cL_law 1263 = .ok (.iaload, 1) := by decide +kernel
theorem dL_law_1264 : decode cL_law 1264 = .ok (.invokevirtual 149, 3) := by decide +kernel
theorem dL_law_1267 : decode cL_law 1267 = .ok (.if_icmp .eq 377, 3) := by decide +kernel
theorem lc_sum {p : Program} {l : Launch} {e : Env} {s : State} {m : MethodId} {below : List Frame} {meth : Method} {c : Code} {K : aw_K} {b L : Nat} {xs : Nat → Int32} {cells slots i : Nat} {w : aw_W} (C : lz_Cx K l p s m meth c b L xs) (hi : i + 6 ≤ L) (hcs : cells ≤ 601024) (hss : slots ≤ 7293034) (hnv : nv w) (hok : aw_okw w) (k : ∀ w2, nv w2 → aw_okw w2 → lz_W p l e s m below meth c K b (cells + 1) (slots + 6) 1644 i [] w2) : lz_W p l e s m below meth c K b cells slots 1247 i [] w := by
  obtain ⟨a, w1, w2, e1, e2, h2⟩ := C_sum (N := 10000000) (Nat.le_refl _) hnv (x1 := (xs (i + 1)).toInt)
  refine lz_x C dL_law_1247 ?_
  refine lz_arg (k := 1) rfl C (by omega) dL_law_1248 dL_law_1249 dL_law_1251 dL_law_1252 dL_law_1253 ?_
  refine lz_call (j := 0) (d := 4) (as := [.inl (xs (i + 1)).toInt]) (rest := []) C dL_law_1254 cv_RL_146 (by decide) rfl rfl rfl rfl (Nat.le_of_ble_eq_true rfl) (Nat.le_of_ble_eq_true rfl) hcs hss hok (lz_oa lz_oa0) (w_x_sum _ 4 (by omega) _ _ _ _ e1) (fun _ hok1 => ?_)
  refine lz_m C dL_law_1257 ?_
  refine lz_arg (k := 1) rfl C (by omega) dL_law_1258 dL_law_1259 dL_law_1261 dL_law_1262 dL_law_1263 ?_
  refine lz_call (j := 49) (d := 4) (as := [.inl (xs (i + 1)).toInt]) (rest := [.int (Int32.ofInt a)]) C dL_law_1264 cv_RL_149 (by decide) rfl rfl rfl rfl (Nat.le_of_ble_eq_true rfl) (Nat.le_of_ble_eq_true rfl) hcs hss hok1 (lz_oa lz_oa0) (w_m_sum_49 _ 4 (by omega) _ _ _ _ e2) (fun _ hok2 => ?_)
  exact lz_eq C dL_law_1267 (by decide) (k w2 h2 hok2)
theorem dL_law_1272 : decode cL_law 1272 = .ok (.aload_n 1, 1) := by decide +kernel
theorem dL_law_1273 : decode cL_law 1273 = .ok (.aload_n 0, 1) := by decide +kernel
theorem dL_law_1274 : decode cL_law 1274 = .ok (.iload 4, 2) := by decide +kernel
theorem dL_law_1276 : decode cL_law 1276 = .ok (.iconst 1, 1) := by decide +kernel
theorem dL_law_1277 : decode cL_law 1277 = .ok (.iadd, 1) := by decide +kernel
theorem dL_law_1278 : decode cL_law 1278 = .ok (.iaload, 1) := by decide +kernel
theorem dL_law_1279 : decode cL_law 1279 = .ok (.aload_n 0, 1) := by decide +kernel
theorem dL_law_1280 : decode cL_law 1280 = .ok (.iload 4, 2) := by decide +kernel
theorem dL_law_1282 : decode cL_law 1282 = .ok (.iconst 2, 1) := by decide +kernel
theorem dL_law_1283 : decode cL_law 1283 = .ok (.iadd, 1) := by decide +kernel
theorem dL_law_1284 : decode cL_law 1284 = .ok (.iaload, 1) := by decide +kernel
theorem dL_law_1285 : decode cL_law 1285 = .ok (.aload_n 0, 1) := by decide +kernel
theorem dL_law_1286 : decode cL_law 1286 = .ok (.iload 4, 2) := by decide +kernel
theorem dL_law_1288 : decode cL_law 1288 = .ok (.iconst 3, 1) := by decide +kernel
theorem dL_law_1289 : decode cL_law 1289 = .ok (.iadd, 1) := by decide +kernel
theorem dL_law_1290 : decode cL_law 1290 = .ok (.iaload, 1) := by decide +kernel
theorem dL_law_1291 : decode cL_law 1291 = .ok (.invokevirtual 150, 3) := by decide +kernel
theorem dL_law_1294 : decode cL_law 1294 = .ok (.aload_n 2, 1) := by decide +kernel
theorem dL_law_1295 : decode cL_law 1295 = .ok (.aload_n 0, 1) := by decide +kernel
theorem dL_law_1296 : decode cL_law 1296 = .ok (.iload 4, 2) := by decide +kernel
theorem dL_law_1298 : decode cL_law 1298 = .ok (.iconst 1, 1) := by decide +kernel
theorem dL_law_1299 : decode cL_law 1299 = .ok (.iadd, 1) := by decide +kernel
theorem dL_law_1300 : decode cL_law 1300 = .ok (.iaload, 1) := by decide +kernel
theorem dL_law_1301 : decode cL_law 1301 = .ok (.aload_n 0, 1) := by decide +kernel
theorem dL_law_1302 : decode cL_law 1302 = .ok (.iload 4, 2) := by decide +kernel
theorem dL_law_1304 : decode cL_law 1304 = .ok (.iconst 2, 1) := by decide +kernel
theorem dL_law_1305 : decode cL_law 1305 = .ok (.iadd, 1) := by decide +kernel
theorem dL_law_1306 : decode cL_law 1306 = .ok (.iaload, 1) := by decide +kernel
theorem dL_law_1307 : decode cL_law 1307 = .ok (.aload_n 0, 1) := by decide +kernel
theorem dL_law_1308 : decode cL_law 1308 = .ok (.iload 4, 2) := by decide +kernel
theorem dL_law_1310 : decode cL_law 1310 = .ok (.iconst 3, 1) := by decide +kernel
theorem dL_law_1311 : decode cL_law 1311 = .ok (.iadd, 1) := by decide +kernel
theorem dL_law_1312 : decode cL_law 1312 = .ok (.iaload, 1) := by decide +kernel
theorem dL_law_1313 : decode cL_law 1313 = .ok (.invokevirtual 153, 3) := by decide +kernel
theorem dL_law_1316 : decode cL_law 1316 = .ok (.if_icmp .eq 328, 3) := by decide +kernel
theorem lc_hope {p : Program} {l : Launch} {e : Env} {s : State} {m : MethodId} {below : List Frame} {meth : Method} {c : Code} {K : aw_K} {b L : Nat} {xs : Nat → Int32} {cells slots i : Nat} {w : aw_W} (C : lz_Cx K l p s m meth c b L xs) (hi : i + 6 ≤ L) (hcs : cells ≤ 601024) (hss : slots ≤ 7293034) (hnv : nv w) (hok : aw_okw w) (k : ∀ w2, nv w2 → aw_okw w2 → lz_W p l e s m below meth c K b (cells + 1) (slots + 6) 1644 i [] w2) : lz_W p l e s m below meth c K b cells slots 1272 i [] w := by
  obtain ⟨a, w1, w2, e1, e2, h2⟩ := C_hope (N := 10000000) (Nat.le_refl _) hnv (x1 := (xs (i + 1)).toInt) (x2 := (xs (i + 2)).toInt) (x3 := (xs (i + 3)).toInt)
  refine lz_x C dL_law_1272 ?_
  refine lz_arg (k := 1) rfl C (by omega) dL_law_1273 dL_law_1274 dL_law_1276 dL_law_1277 dL_law_1278 ?_
  refine lz_arg (k := 2) rfl C (by omega) dL_law_1279 dL_law_1280 dL_law_1282 dL_law_1283 dL_law_1284 ?_
  refine lz_arg (k := 3) rfl C (by omega) dL_law_1285 dL_law_1286 dL_law_1288 dL_law_1289 dL_law_1290 ?_
  refine lz_call (j := 0) (d := 4) (as := [.inl (xs (i + 1)).toInt, .inl (xs (i + 2)).toInt, .inl (xs (i + 3)).toInt]) (rest := []) C dL_law_1291 cv_RL_150 (by decide) rfl rfl rfl rfl (Nat.le_of_ble_eq_true rfl) (Nat.le_of_ble_eq_true rfl) hcs hss hok (lz_oa (lz_oa (lz_oa lz_oa0))) (w_x_hope _ 4 (by omega) _ _ _ _ _ _ e1) (fun _ hok1 => ?_)
  refine lz_m C dL_law_1294 ?_
  refine lz_arg (k := 1) rfl C (by omega) dL_law_1295 dL_law_1296 dL_law_1298 dL_law_1299 dL_law_1300 ?_
  refine lz_arg (k := 2) rfl C (by omega) dL_law_1301 dL_law_1302 dL_law_1304 dL_law_1305 dL_law_1306 ?_
  refine lz_arg (k := 3) rfl C (by omega) dL_law_1307 dL_law_1308 dL_law_1310 dL_law_1311 dL_law_1312 ?_
  refine lz_call (j := 49) (d := 65) (as := [.inl (xs (i + 1)).toInt, .inl (xs (i + 2)).toInt, .inl (xs (i + 3)).toInt]) (rest := [.int (Int32.ofInt a)]) C dL_law_1313 cv_RL_153 (by decide) rfl rfl rfl rfl (Nat.le_of_ble_eq_true rfl) (Nat.le_of_ble_eq_true rfl) hcs hss hok1 (lz_oa (lz_oa (lz_oa lz_oa0))) (w_m_hope _ 65 (by omega) _ _ _ _ _ _ e2) (fun _ hok2 => ?_)
  exact lz_eq C dL_law_1316 (by decide) (k w2 h2 hok2)
