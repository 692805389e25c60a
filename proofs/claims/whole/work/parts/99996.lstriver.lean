set_option maxRecDepth 20000 in
theorem cbX12_striver : aw_CB MX12_striver 2 := ⟨List.mem_of_getElem? (i := 1568) rfl, ⟨by decide, by decide, by decide +kernel⟩, aw_inG (List.mem_of_getElem? (i := 98) (by decide +kernel)) rfl, by decide⟩
theorem ciX12_striver : Cond.instanceMethod MX12_striver.1 ∈ aw_G ∧ Cond.selects MX12_striver.1.cls MX12_striver.1 MX12_striver.1 ∈ aw_G := ⟨aw_inG (List.mem_of_getElem? (i := 1566) (by decide +kernel)) rfl, aw_inG (List.mem_of_getElem? (i := 1567) (by decide +kernel)) rfl⟩
theorem cv_RL_43 : aw_CV RL 43 MX12_striver 2 := ⟨cbX12_striver, aw_inG (List.mem_of_getElem? (i := 1565) (by decide +kernel)) rfl, ciX12_striver.1, ciX12_striver.2⟩
set_option maxRecDepth 20000 in
theorem cbX12_thrown : aw_CB MX12_thrown 0 := ⟨List.mem_of_getElem? (i := 1383) rfl, ⟨by decide, by decide, by decide +kernel⟩, aw_inG (List.mem_of_getElem? (i := 98) (by decide +kernel)) rfl, by decide⟩
theorem ciX12_thrown : Cond.instanceMethod MX12_thrown.1 ∈ aw_G ∧ Cond.selects MX12_thrown.1.cls MX12_thrown.1 MX12_thrown.1 ∈ aw_G := ⟨aw_inG (List.mem_of_getElem? (i := 1381) (by decide +kernel)) rfl, aw_inG (List.mem_of_getElem? (i := 1382) (by decide +kernel)) rfl⟩
theorem cv_RL_44 : aw_CV RL 44 MX12_thrown 0 := ⟨cbX12_thrown, aw_inG (List.mem_of_getElem? (i := 1380) (by decide +kernel)) rfl, ciX12_thrown.1, ciX12_thrown.2⟩
theorem dL_law_368 : decode cL_law 368 = .ok (.aload_n 1, 1) := by decide +kernel
theorem dL_law_369 : decode cL_law 369 = .ok (.aload_n 0, 1) := by decide +kernel
theorem dL_law_370 : decode cL_law 370 = .ok (.iload 4, 2) := by decide +kernel
theorem dL_law_372 : decode cL_law 372 = .ok (.iconst 1, 1) := by decide +kernel
theorem dL_law_373 : decode cL_law 373 = .ok (.iadd, 1) := by decide +kernel
theorem dL_law_374 : decode cL_law 374 = .ok (.iaload, 1) := by decide +kernel
theorem dL_law_375 : decode cL_law 375 = .ok (.aload_n 0, 1) := by decide +kernel
theorem dL_law_376 : decode cL_law 376 = .ok (.iload 4, 2) := by decide +kernel
theorem dL_law_378 : decode cL_law 378 = .ok (.iconst 2, 1) := by decide +kernel
theorem dL_law_379 : decode cL_law 379 = .ok (.iadd, 1) := by decide +kernel
theorem dL_law_380 : decode cL_law 380 = .ok (.iaload, 1) := by decide +kernel
theorem dL_law_381 : decode cL_law 381 = .ok (.aload_n 3, 1) := by decide +kernel
theorem dL_law_382 : decode cL_law 382 = .ok (.invokestatic 38, 3) := by decide +kernel
theorem dL_law_385 : decode cL_law 385 = .ok (.istore 5, 2) := by decide +kernel
theorem dL_law_387 : decode cL_law 387 = .ok (.aload_n 2, 1) := by decide +kernel
theorem dL_law_388 : decode cL_law 388 = .ok (.aload_n 0, 1) := by decide +kernel
theorem dL_law_389 : decode cL_law 389 = .ok (.iload 4, 2) := by decide +kernel
theorem dL_law_391 : decode cL_law 391 = .ok (.iconst 1, 1) := by decide +kernel
theorem dL_law_392 : decode cL_law 392 = .ok (.iadd, 1) := by decide +kernel
theorem dL_law_393 : decode cL_law 393 = .ok (.iaload, 1) := by decide +kernel
theorem dL_law_394 : decode cL_law 394 = .ok (.aload_n 0, 1) := by decide +kernel
theorem dL_law_395 : decode cL_law 395 = .ok (.iload 4, 2) := by decide +kernel
theorem dL_law_397 : decode cL_law 397 = .ok (.iconst 2, 1) := by decide +kernel
theorem dL_law_398 : decode cL_law 398 = .ok (.iadd, 1) := by decide +kernel
theorem dL_law_399 : decode cL_law 399 = .ok (.iaload, 1) := by decide +kernel
theorem dL_law_400 : decode cL_law 400 = .ok (.invokevirtual 43, 3) := by decide +kernel
theorem dL_law_403 : decode cL_law 403 = .ok (.istore 6, 2) := by decide +kernel
theorem dL_law_405 : decode cL_law 405 = .ok (.aload_n 2, 1) := by decide +kernel
theorem dL_law_406 : decode cL_law 406 = .ok (.invokevirtual 44, 3) := by decide +kernel
theorem dL_law_409 : decode cL_law 409 = .ok (.iload 5, 2) := by decide +kernel
theorem dL_law_411 : decode cL_law 411 = .ok (.if_icmp .eq 5, 3) := by decide +kernel
theorem dL_law_416 : decode cL_law 416 = .ok (.iload 5, 2) := by decide +kernel
theorem dL_law_418 : decode cL_law 418 = .ok (.ifCond .ne 15, 3) := by decide +kernel
theorem dL_law_421 : decode cL_law 421 = .ok (.aload_n 3, 1) := by decide +kernel
theorem dL_law_422 : decode cL_law 422 = .ok (.iconst 0, 1) := by decide +kernel
theorem dL_law_423 : decode cL_law 423 = .ok (.laload, 1) := by decide +kernel
theorem dL_law_424 : decode cL_law 424 = .ok (.iload 6, 2) := by decide +kernel
theorem dL_law_426 : decode cL_law 426 = .ok (.i2l, 1) := by decide +kernel
theorem dL_law_427 : decode cL_law 427 = .ok (.lcmp, 1) := by decide +kernel
theorem dL_law_428 : decode cL_law 428 = .ok (.ifCond .eq 5, 3) := by decide +kernel
theorem dL_law_433 : decode cL_law 433 = .ok (.goto 1211, 3) := by decide +kernel
theorem nv_73 {w : aw_W} (x : Int) (h : nv w) : nv (aw_up w 73 0 x) := by
  obtain ⟨n, lw, it, m, r, rl, tp, k, tx, kp, km, kr, kl, ku, hX, hM, hD⟩ := h
  have hf : fr_ [(73, 0)] w (aw_up w 73 0 x) := (fr_r _ w).up rfl
  exact ⟨_, _, _, _, _, _, _, _, _, _, _, _, _, _, hX.fr hf rfl, hM.fr hf rfl, hD⟩
theorem lz_same {w v : aw_W} {n n' : Nat} {lw it rl lw' it' rl' : Nat → Int} {x1 x2 : Int} (h3 : v 3 4 = w 3 4) (h4 : ∀ j, v 4 j = w 4 j) (h6 : ∀ j, v 6 j = w 6 j) (hX : XL w n lw it) (hU : XU w rl) (hX' : XL v n' lw' it') (hU' : XU v rl') : n' = n ∧ (sok n x1 x2 = true → a_str n' it' rl' x1 x2 = a_str n it rl x1 x2) := by
  have e1 : n' = n := by
    have := hX.1
    have := hX'.1
    omega
  subst e1
  refine ⟨rfl, fun hb => ?_⟩
  have hs : 0 ≤ x1 ∧ x1 < (n' : Int) ∧ 0 ≤ x2 ∧ x2 ≤ 4 := of_decide_eq_true hb
  have hn := hX.2.1
  unfold a_str
  by_cases c : x2 = 4
  · rw [if_pos c, if_pos c, ← hU _ (by omega), ← hU' _ (by omega), h6]
  · rw [if_neg c, if_neg c, ← hX.2.2.2.2.1 _ (by omega), ← hX'.2.2.2.2.1 _ (by omega), h4]
section LZS
variable {p : Program} {l : Launch} {e : Env} {s : State} {m : MethodId} {below : List Frame} {meth : Method} {c : Code} {K : aw_K} {b L : Nat} {xs : Nat → Int32} {cells slots pc i : Nat} {st : List Value} {w : aw_W}
theorem lz_argW {R : Room} {Q : State → Prop} {H : Heap} {locs : List Loc} {LS : Array Slot} {lv : List (Nat × Value)} {k qb qi : Nat} {kI : Int} (hkI : kI = (k : Int)) (C : lz_Cx K l p s m meth c b L xs) (hi : i + k < L) (hS : va_S (aw_A K) s.heap H locs) (hL : lv_has LS 7 lv) (hqb : lv[qb]? = some (0, .ref b)) (hqi : lv[qi]? = some (4, .int (Int32.ofInt (i : Int)))) (d0 : decode cL_law pc = .ok (.aload_n 0, 1)) (d1 : decode cL_law (pc + 1) = .ok (.iload 4, 2)) (d3 : decode cL_law (pc + 3) = .ok (.iconst kI, 1)) (d4 : decode cL_law (pc + 4) = .ok (.iadd, 1)) (d5 : decode cL_law (pc + 5) = .ok (.iaload, 1))
    (kk : W p l e R s m #[Value.ref b] below meth c H locs cells slots Q (F0 m (pc + 6) LS (.int (Int32.ofInt (xs (i + k)).toInt) :: st))) : W p l e R s m #[Value.ref b] below meth c H locs cells slots Q (F0 m pc LS st) := by
  subst hkI
  have hn := lz_notA C
  obtain ⟨⟨hx, hb, -⟩, -, -, hX, hbl, -, -, -, hLe⟩ := id C
  refine lv_aload_n hx hb d0 rfl (hL.2.2 _ (List.mem_of_getElem? hqb)) ?_
  refine lv_iload hx hb d1 (hL.2.2 _ (List.mem_of_getElem? hqi)) ?_
  refine lv_iconst (v := Int32.ofInt (k : Int)) hx hb d3 rfl ?_
  refine lv_iadd hx hb d4 ?_
  have hI : aw_I ((i : Int) + (k : Int)) := ⟨by omega, by omega⟩
  rw [aw_add32, aw_id hI]
  have hc : (Int32.ofInt ((i : Int) + (k : Int))).toNatClampNeg = i + k := by rw [aw_clamp hI]; omega
  refine va_sld hx hb hX hbl hn hS (aw_in hI (by omega) (by omega)) d5 ?_
  rw [hc, ← aw_bck (xs (i + k))]
  exact kk
theorem az_afterG {R : Room} {args : Array Value} {Q : State → Prop} {H : Heap} {locs : List Loc} {LS : Array Slot} {mc ms : Nat} {st0 rest : List Value} {a : Array Value} {r1 : Option aw_V × aw_W}
    (hr : va_Run p l e R s m args below meth c H locs cells slots mc ms (F0 m pc LS st0) rest (aw_Qc K r1 a) (aw_A K)) (hS : va_S (aw_A K) s.heap H locs)
    (kk : ∀ (H1 : Heap) (locs1 : List Loc), aw_Hp K r1.2 H1 → va_S (aw_A K) s.heap H1 locs1 → W p l e R s m args below meth c H1 locs1 (cells + mc) (slots + ms) Q (F0 m (pc + 3) LS ((r1.1.map (aw_cv K)).toList ++ rest))) : W p l e R s m args below meth c H locs cells slots Q (F0 m pc LS st0) := by
  intro T hT X
  obtain ⟨v, st₀, t, T', L', h0, X', hL, e1, e2, ⟨hv, hP, hz, hk⟩, stp⟩ := hr T hT X
  have hv' : v = r1.1.map (aw_cv K) := Outcome.returned.inj hv
  subst hv'
  rw [h0] at hz hk
  obtain ⟨t2, a1, b1⟩ := kk T'.heap (locs ++ L') (by rw [e1]; exact hP)
    ⟨Nat.le_trans hS.1 (by rw [e1]; exact hz), fun q h1 h2 => by rw [e1, hk q (Nat.lt_of_lt_of_le h1 hS.1) h2]; exact hS.2.1 q h1 h2, fun q hq => by
      rcases List.mem_append.mp hq with h | h
      · exact hS.2.2 q h
      · exact hL q h⟩ T' rfl X'
  exact ⟨t2, stp t2 a1, b1⟩
theorem lz_wsS : GoodIn aw_G (va_wsS RL 38 yL_striver ax_wl) := by
  have key : ∀ w ∈ aw_G, w ∈ aw_G ∧ ((w.onTables && w.keeps) = true ∨ ∃ ty, w = .arrayClass ty) := fun w h => ⟨h, good_of_word (List.mem_filter.mp h).2⟩
  intro w h
  unfold va_wsS at h
  rcases List.mem_append.mp h with h | h
  · rcases List.mem_cons.mp h with rfl | h
    · exact key _ ax_ms.1
    rcases List.mem_cons.mp h with rfl | h
    · exact key _ ax_ms.2.1
    rcases List.mem_cons.mp h with rfl | h
    · exact key _ ax_ms.2.2
    · cases h
  · exact ax_wl_good w h
theorem lz_cmp (x : Int64) : lg_cmp x x = 0 := by
  unfold lg_cmp
  rw [if_neg (by simp), if_pos rfl]
set_option maxHeartbeats 2000000 in
theorem lc_striver (C : lz_Cx K l p s m meth c b L xs) (hi : i + 6 ≤ L) (hcs : cells + 1 ≤ 601024) (hss : slots + 6 ≤ 7293034) (hnv : nv w) (hok : aw_okw w) (k : ∀ w2, nv w2 → aw_okw w2 → lz_W p l e s m below meth c K b (cells + 1) (slots + 6) 1644 i [] w2) : lz_W p l e s m below meth c K b cells slots 368 i [] w := by
  obtain ⟨n, lw, it, rl, hX, hU, -⟩ := C_striver (N := 10000000) hnv (x1 := (xs (i + 1)).toInt) (x2 := (xs (i + 2)).toInt)
  generalize hx1e : (xs (i + 1)).toInt = x1 at hX hU
  generalize hx2e : (xs (i + 2)).toInt = x2 at hX hU
  have hI1 : aw_I x1 := by rw [← hx1e]; exact aw_Ii _
  have hI2 : aw_I x2 := by rw [← hx2e]; exact aw_Ii _
  have hw1 : nv (ax_r n it rl x1 x2 w).2 := by
    show nv (if sok n x1 x2 then aw_up w 73 0 (a_str n it rl x1 x2) else w)
    cases sok n x1 x2 with
    | false => exact hnv
    | true => exact nv_73 _ hnv
  have hr1 := ax_r_ok (x1 := x1) (x2 := x2) hok hX hU
  have hr2 : ∀ (a j : Nat), a ≠ 73 → (ax_r n it rl x1 x2 w).2 a j = w a j := by
    intro a j ha
    show (if sok n x1 x2 then aw_up w 73 0 (a_str n it rl x1 x2) else w) a j = w a j
    cases sok n x1 x2 with
    | false => rfl
    | true =>
      show aw_up w 73 0 (a_str n it rl x1 x2) a j = w a j
      rw [aw_up_ne ha]
  have hr3 : sok n x1 x2 = true → (ax_r n it rl x1 x2 w).2 73 0 = a_str n it rl x1 x2 := by
    intro hb
    show (if sok n x1 x2 then aw_up w 73 0 (a_str n it rl x1 x2) else w) 73 0 = _
    rw [hb]
    exact (aw_up_self w 73 0 _ 0).trans (if_pos rfl)
  have hfst : (ax_r n it rl x1 x2 w).1 = some (.inl (b2i (!(sok n x1 x2)))) := rfl
  generalize hre : ax_r n it rl x1 x2 w = rr at hw1 hr1 hr2 hr3 hfst
  obtain ⟨n', lw', it', rl', hX', hU', w2, em, ht, hnv2⟩ := C_striver (N := 10000000) hw1 (x1 := x1) (x2 := x2)
  obtain ⟨hnn, hyy⟩ := lz_same (x1 := x1) (x2 := x2) (hr2 3 4 (by decide)) (fun j => hr2 4 j (by decide)) (fun j => hr2 6 j (by decide)) hX hU hX' hU'
  subst hnn
  have f2 := f_m_striver 10000000 _ _ _ _ _ em
  have h73 : w2 73 0 = rr.2 73 0 := f2 73 0 rfl
  have et : m_thrown 10000000 w2 = some (b2i (!(sok n' x1 x2)), w2) := by rw [← ht]; rfl
  refine lz_x C dL_law_368 ?_
  refine lz_arg (k := 1) rfl C (by omega) dL_law_369 dL_law_370 dL_law_372 dL_law_373 dL_law_374 ?_
  refine lz_arg (k := 2) rfl C (by omega) dL_law_375 dL_law_376 dL_law_378 dL_law_379 dL_law_380 ?_
  rw [hx1e, hx2e]
  intro H locs LS hP hS hL
  obtain ⟨⟨hx, hb, hml, hown, hts, hK, hSt, hKok, hbs⟩, hret, hlk, hXs, hbl, hKb, hA, hl, hLe⟩ := id C
  refine lv_aload_n hx hb dL_law_381 rfl (lv_at hL 4 rfl) ?_
  have cw : vx_CSW room_1 s #[Value.ref b] RL 38 yL_striver cL_striver 5 (some .int) [(0, 10, 13, 13)] ax_wl ax_rl 1 6 4 := vx_cwSW 4 hts lz_wsS rfl rfl rfl ⟨by decide, by decide, by decide +kernel⟩ ⟨by decide, by decide⟩
  have hrun := vx_runSW (hh := [(0, 10, 13, 13)]) (As := [.ref (K.2.2.1 0), .int (Int32.ofInt x1), .int (Int32.ofInt x2), .ref (K.2.2.1 73)]) (rest := []) (g := F0 m 382 LS [.ref (K.2.2.1 73), .int (Int32.ofInt x2), .int (Int32.ofInt x1), .ref (K.2.2.1 0)]) (H := H) (locs := locs) (cells := cells) (slots := slots) (e := e) (below := below) (meth := meth) (free := aw_A K) (Ts := aw_G) (R := room_1) ⟨hx, hb, hml, hown, hts⟩ (ax_law (K := K) hl hok hI1 hI2 hX hU) cw ⟨ax_blind _ w, fun U hU hW => ⟨az_pcU C.1 hP hS hU hW [.inr (.inr 0), .inl x1, .inl x2, .inr (.inr 73)], hA.go hW hU hS⟩⟩ rfl rfl hL.1 rfl (lv_room (Nat.le_of_ble_eq_true rfl)) dL_law_382 ⟨hcs, hss⟩
  rw [hre] at hrun
  refine az_afterG hrun hS (fun H1 locs1 hP1 hS1 => ?_)
  rw [hfst]
  have hL : lv_has LS 7 [(4, .int (Int32.ofInt (i : Int))), (0, .ref b), (1, .ref (K.2.2.1 0)), (2, .ref (K.2.2.1 49)), (3, .ref (K.2.2.1 73))] := hL
  refine lv_istore (x := Int32.ofInt (b2i (!(sok n' x1 x2)))) (lv' := [(5, .int (Int32.ofInt (b2i (!(sok n' x1 x2))))), (4, .int (Int32.ofInt (i : Int))), (0, .ref b), (1, .ref (K.2.2.1 0)), (2, .ref (K.2.2.1 49)), (3, .ref (K.2.2.1 73))]) hx hb dL_law_385 hL (by decide) rfl (fun LS hL => ?_)
  refine lv_aload_n hx hb dL_law_387 rfl (lv_at hL 4 rfl) ?_
  refine lz_argW (k := 1) (qb := 2) (qi := 1) rfl C (by omega) hS1 hL rfl rfl dL_law_388 dL_law_389 dL_law_391 dL_law_392 dL_law_393 ?_
  refine lz_argW (k := 2) (qb := 2) (qi := 1) rfl C (by omega) hS1 hL rfl rfl dL_law_394 dL_law_395 dL_law_397 dL_law_398 dL_law_399 ?_
  rw [hx1e, hx2e]
  refine az_callV (d := 1) (i := 49) (as := [.inl x1, .inl x2]) (rest := []) C.1 dL_law_400 cv_RL_43 (by decide) rfl rfl rfl hL.1 rfl (Nat.le_of_ble_eq_true rfl) (by decide) (by decide) hcs hss hr1.2 (aw_ok1 (aw_ok1 lz_oa0 hI2) hI1) (w_m_striver 10000000 1 (by omega) _ _ _ _ _ em) hP1 hS1 (fun hr4 H2 locs2 hP2 hS2 => ?_)
  generalize hye : (if sok n' x1 x2 = true then a_str n' it' rl' x1 x2 else 0) = y at hr4
  have hyI : aw_I y := hr4.1 _ rfl
  refine lv_istore (x := Int32.ofInt y) (lv' := [(6, .int (Int32.ofInt y)), (5, .int (Int32.ofInt (b2i (!(sok n' x1 x2))))), (4, .int (Int32.ofInt (i : Int))), (0, .ref b), (1, .ref (K.2.2.1 0)), (2, .ref (K.2.2.1 49)), (3, .ref (K.2.2.1 73))]) hx hb dL_law_403 hL (by decide) rfl (fun LS hL => ?_)
  refine lv_aload_n hx hb dL_law_405 rfl (lv_at hL 5 rfl) ?_
  refine az_callV (d := 0) (i := 49) (as := []) (rest := []) C.1 dL_law_406 cv_RL_44 (by decide) rfl rfl rfl hL.1 rfl (Nat.le_of_ble_eq_true rfl) (by decide) (by decide) hcs hss hr4.2 lz_oa0 (w_m_thrown 10000000 0 (by omega) _ _ _ et) hP2 hS2 (fun hr5 H3 locs3 hP3 hS3 => ?_)
  have hend : ∀ LS : Array Slot, lv_has LS 7 [(6, .int (Int32.ofInt y)), (5, .int (Int32.ofInt (b2i (!(sok n' x1 x2))))), (4, .int (Int32.ofInt (i : Int))), (0, .ref b), (1, .ref (K.2.2.1 0)), (2, .ref (K.2.2.1 49)), (3, .ref (K.2.2.1 73))] → W p l e room_1 s m #[Value.ref b] below meth c H3 locs3 (cells + 1) (slots + 6) (lz_Q below #[Value.ref b] s) (F0 m 433 LS []) := by
    intro LS hL
    refine lv_goto (tgt := 1644) hx hb dL_law_433 (by decide) ?_
    exact k w2 hnv2 hr4.2 H3 locs3 LS hP3 hS3 (lv_sub hL [2, 3, 4, 5, 6] rfl)
  refine lv_iload hx hb dL_law_409 (lv_at hL 1 rfl) ?_
  refine lv_icmp_eq (tgt := 416) hx hb dL_law_411 (by decide) (fun _ => ?_) (fun z => absurd rfl z)
  refine lv_iload hx hb dL_law_416 (lv_at hL 1 rfl) ?_
  refine lv_if_ne (tgt := 433) hx hb dL_law_418 (by decide) (fun _ => hend LS hL) (fun z => ?_)
  have hs : sok n' x1 x2 = true := by
    cases hq : sok n' x1 x2 with
    | true => rfl
    | false =>
      rw [hq] at z
      exact absurd z (by decide)
  refine lv_aload_n hx hb dL_law_421 rfl (lv_at hL 6 rfl) ?_
  refine lv_iconst (v := Int32.ofInt 0) hx hb dL_law_422 rfl ?_
  have he73 : (aw_cz K w2)[73]? = some (K.2.2.1 73, .inl (K.2.1 3, 1, .inr (.inl (fun j => Int64.ofInt (w2 73 j))))) := by rw [aw_cz_at (by decide), aw_clL rfl]
  refine va_lald hx hb hK hP3 73 3 he73 rfl (aw_in aw_I0 (by decide) (by decide)) dL_law_423 ?_
  refine lv_iload hx hb dL_law_424 (lv_at hL 0 rfl) ?_
  refine lv_i2l (v := Int64.ofInt y) hx hb dL_law_426 (aw_wide hyI) ?_
  have e73 : w2 73 (Int32.ofInt 0).toNatClampNeg = y := by
    rw [aw_clamp aw_I0]
    show w2 73 0 = y
    rw [h73, hr3 hs, ← hye, if_pos hs, hyy hs]
  refine W.lcmp hx hb dL_law_427 ?_
  rw [e73, lz_cmp]
  refine lv_if_eq (tgt := 433) hx hb dL_law_428 (by decide) (fun _ => hend LS hL) (fun z => absurd rfl z)
end LZS
