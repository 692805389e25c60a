theorem dL_law_23 : decode cL_law 23 = .ok (.iload 4, 2) := by decide +kernel
theorem dL_law_25 : decode cL_law 25 = .ok (.aload_n 0, 1) := by decide +kernel
theorem dL_law_26 : decode cL_law 26 = .ok (.arraylength, 1) := by decide +kernel
theorem dL_law_27 : decode cL_law 27 = .ok (.bipush 6, 2) := by decide +kernel
theorem dL_law_29 : decode cL_law 29 = .ok (.isub, 1) := by decide +kernel
theorem dL_law_30 : decode cL_law 30 = .ok (.if_icmp .gt 1620, 3) := by decide +kernel
theorem dL_law_33 : decode cL_law 33 = .ok (.aload_n 0, 1) := by decide +kernel
theorem dL_law_34 : decode cL_law 34 = .ok (.iload 4, 2) := by decide +kernel
theorem dL_law_36 : decode cL_law 36 = .ok (.iaload, 1) := by decide +kernel
theorem dL_law_37 : decode cL_law 37 = .ok (.bipush 63, 2) := by decide +kernel
theorem dL_law_39 : decode cL_law 39 = .ok (.iand, 1) := by decide +kernel
theorem dL_law_40 : decode cL_law 40 = .ok (.tableswitch 1604 0 40 #[180, 253, 278, 303, 328, 396, 421, 458, 495, 544, 593, 654, 691, 728, 753, 778, 815, 852, 901, 938, 975, 1000, 1025, 1050, 1119, 1132, 1157, 1194, 1207, 1232, 1281, 1306, 1319, 1356, 1381, 1430, 1479, 1504, 1553, 1566, 1579], 180) := by decide +kernel
theorem dL_law_1644 : decode cL_law 1644 = .ok (.iinc 4 6, 3) := by decide +kernel
theorem dL_law_1647 : decode cL_law 1647 = .ok (.goto (-1624), 3) := by decide +kernel
theorem dL_law_1650 : decode cL_law 1650 = .ok (.iconst 1, 1) := by decide +kernel
theorem dL_law_1651 : decode cL_law 1651 = .ok (.ireturn, 1) := by decide +kernel
theorem lz_ret {p : Program} {l : Launch} {e : Env} {s : State} {m : MethodId} {below : List Frame} {meth : Method} {c : Code} {b : Nat} (hx : p.tables.exec = Jvm.exec) (hb : c.code = cL_law) (hr : meth.sig.returnType = ret) (hlocks : meth.locks = false) {pc : Nat} {H : Heap} {ls : Array Slot} (hdg : decode cL_law pc = .ok (.ireturn, 1)) : W p l e room_1 s m #[Value.ref b] below meth c H [] 601024 7293034 (lz_Q below #[Value.ref b] s) (F0 m pc ls [.int 1]) := by
  intro T hT X
  obtain ⟨fs, hret, hrun, hended, hW, hframe⟩ := X.leave (v := some (.int 1)) (hlocks := hlocks) (fun h => by rw [hr] at h; cases h)
  have hmeth' : T.vm.method? m = some meth := X.method'
  refine ⟨T.setFrames fs, ?_, .returned (some (.int 1)), hrun, hended, rfl, ⟨⟨_, rfl⟩, hW, hframe⟩⟩
  jvm_step X.here [X.here.top, hx, hb, hdg, hmeth', hr, ret, narrow_b1]
  (try refine ⟨rfl, ?_⟩); (try refine ⟨rfl, ?_⟩)
  first | (intro acts; rw [hret _ acts rfl rfl rfl]) | rw [hret _ _ rfl rfl rfl]
  exact Steps.refl _
set_option maxHeartbeats 4000000 in
set_option maxRecDepth 100000 in
theorem lz_loop {p : Program} {l : Launch} {e : Env} {s : State} {m : MethodId} {below : List Frame} {meth : Method} {c : Code} {K : aw_K} {b L : Nat} {xs : Nat → Int32} (C : lz_Cx K l p s m meth c b L xs) : ∀ (t i cells slots : Nat) (w : aw_W), i ≤ L → L < i + 6 * t + 6 → cells ≤ 100 + i → slots ≤ 40000 + i → nv w → aw_okw w → lz_W p l e s m below meth c K b cells slots 23 i [] w := by
  intro t
  induction t with
  | zero =>
    intro i cells slots w hiL hm hcs hss hnv hok H locs LS hP hS hL
    have hn := lz_notA C
    obtain ⟨⟨hx, hb, hml, hown, hts, hK, hSt, hKok, hbs⟩, hret, hlk, hXs, hbl, hKb, hA, hl, hLe⟩ := id C
    refine lv_iload hx hb dL_law_23 (lv_at hL 0 rfl) ?_
    refine lv_aload_n hx hb dL_law_25 rfl (lv_at hL 1 rfl) ?_
    refine va_slen hx hb hXs hbl hn hS dL_law_26 ?_
    refine lv_bipush (v := Int32.ofInt 6) hx hb dL_law_27 (by decide) ?_
    refine lv_isub hx hb dL_law_29 ?_
    rw [show Int32.ofNat L - Int32.ofInt 6 = Int32.ofInt ((L : Int) - 6) from by rw [show Int32.ofNat L = Int32.ofInt (L : Int) from rfl, aw_sub32, aw_id ⟨by omega, by omega⟩]]
    refine lv_icmp_gt (tgt := 1650) hx hb dL_law_30 (by decide) (fun _ => ?_) (fun z => ?_)
    · refine lv_iconst (v := 1) hx hb dL_law_1650 rfl ?_
      refine va_forget (fun q hq => by have := hS.2.2 q hq; show s.heap.size ≤ q.base; rw [← hKb]; exact this) ?_
      refine W.widen (k := 601024) (n := 7293034) (by omega) (by omega) ?_
      exact lz_ret hx hb hret hlk dL_law_1651
    · exact absurd ((aw_lt (x := (L : Int) - 6) (y := (i : Int)) ⟨by omega, by omega⟩ ⟨by omega, by omega⟩).mpr (by omega)) z
  | succ t ih =>
    intro i cells slots w hiL hm hcs hss hnv hok H locs LS hP hS hL
    have hn := lz_notA C
    obtain ⟨⟨hx, hb, hml, hown, hts, hK, hSt, hKok, hbs⟩, hret, hlk, hXs, hbl, hKb, hA, hl, hLe⟩ := id C
    refine lv_iload hx hb dL_law_23 (lv_at hL 0 rfl) ?_
    refine lv_aload_n hx hb dL_law_25 rfl (lv_at hL 1 rfl) ?_
    refine va_slen hx hb hXs hbl hn hS dL_law_26 ?_
    refine lv_bipush (v := Int32.ofInt 6) hx hb dL_law_27 (by decide) ?_
    refine lv_isub hx hb dL_law_29 ?_
    rw [show Int32.ofNat L - Int32.ofInt 6 = Int32.ofInt ((L : Int) - 6) from by rw [show Int32.ofNat L = Int32.ofInt (L : Int) from rfl, aw_sub32, aw_id ⟨by omega, by omega⟩]]
    refine lv_icmp_gt (tgt := 1650) hx hb dL_law_30 (by decide) (fun _ => ?_) (fun z => ?_)
    · refine lv_iconst (v := 1) hx hb dL_law_1650 rfl ?_
      refine va_forget (fun q hq => by have := hS.2.2 q hq; show s.heap.size ≤ q.base; rw [← hKb]; exact this) ?_
      refine W.widen (k := 601024) (n := 7293034) (by omega) (by omega) ?_
      exact lz_ret hx hb hret hlk dL_law_1651
    · have hi6 : i + 6 ≤ L := by
        rcases Nat.lt_or_ge L (i + 6) with q | q
        · exact absurd ((aw_lt (x := (L : Int) - 6) (y := (i : Int)) ⟨by omega, by omega⟩ ⟨by omega, by omega⟩).mpr (by omega)) z
        · exact q
      have hIi : aw_I (i : Int) := ⟨by omega, by omega⟩
      have kk : ∀ w2, nv w2 → aw_okw w2 → lz_W p l e s m below meth c K b (cells + 1) (slots + 6) 1644 i [] w2 := by
        intro w2 hnv2 hok2 H2 locs2 LS2 hP2 hS2 hL2
        have hL2 : lv_has LS2 7 [(4, .int (Int32.ofInt (i : Int))), (0, .ref b), (1, .ref (K.2.2.1 0)), (2, .ref (K.2.2.1 49)), (3, .ref (K.2.2.1 73))] := hL2
        refine lv_iinc (v := Int32.ofInt ((i + 6 : Nat) : Int)) (lv' := [(4, .int (Int32.ofInt ((i + 6 : Nat) : Int))), (0, .ref b), (1, .ref (K.2.2.1 0)), (2, .ref (K.2.2.1 49)), (3, .ref (K.2.2.1 73))]) hx hb dL_law_1644 hL2 (k := 0) rfl (by rw [aw_add32, aw_id ⟨by omega, by omega⟩]; rfl) (by decide) rfl (fun LS3 hL3 => ?_)
        refine lv_goto (tgt := 23) hx hb dL_law_1647 (by decide) ?_
        exact ih (i + 6) (cells + 1) (slots + 6) w2 (by omega) (by omega) (by omega) (by omega) hnv2 hok2 H2 locs2 LS3 hP2 hS2 hL3
      refine lv_aload_n hx hb dL_law_33 rfl (lv_at hL 1 rfl) ?_
      refine lv_iload hx hb dL_law_34 (lv_at hL 0 rfl) ?_
      refine va_sld hx hb hXs hbl hn hS (aw_in hIi (by omega) (by omega)) dL_law_36 ?_
      refine lv_bipush (v := Int32.ofInt 63) hx hb dL_law_37 (by decide) ?_
      refine lv_iand hx hb dL_law_39 ?_
      generalize xs (Int32.ofInt (i : Int)).toNatClampNeg &&& Int32.ofInt 63 = v
      have hc1 : cells ≤ 601024 := by omega
      have hs1 : slots ≤ 7293034 := by omega
      have hc2 : cells + 1 ≤ 601024 := by omega
      have hs2 : slots + 6 ≤ 7293034 := by omega
      by_cases ho : v.toInt < 0 ∨ 40 < v.toInt
      · exact lv_tableOut (tgt := 1644) hx hb dL_law_40 ho (by decide) (W.widen (by omega) (by omega) (kk w hnv hok H locs LS hP hS hL))
      · have h1 : ¬ v.toInt < 0 := fun q => ho (Or.inl q)
        have h2 : ¬ 40 < v.toInt := fun q => ho (Or.inr q)
        obtain ⟨z, hz⟩ : ∃ z : Nat, v.toInt = z := ⟨v.toInt.toNat, by omega⟩
        have hk : z = 0 ∨ z = 1 ∨ z = 2 ∨ z = 3 ∨ z = 4 ∨ z = 5 ∨ z = 6 ∨ z = 7 ∨ z = 8 ∨ z = 9 ∨ z = 10 ∨ z = 11 ∨ z = 12 ∨ z = 13 ∨ z = 14 ∨ z = 15 ∨ z = 16 ∨ z = 17 ∨ z = 18 ∨ z = 19 ∨ z = 20 ∨ z = 21 ∨ z = 22 ∨ z = 23 ∨ z = 24 ∨ z = 25 ∨ z = 26 ∨ z = 27 ∨ z = 28 ∨ z = 29 ∨ z = 30 ∨ z = 31 ∨ z = 32 ∨ z = 33 ∨ z = 34 ∨ z = 35 ∨ z = 36 ∨ z = 37 ∨ z = 38 ∨ z = 39 ∨ z = 40 := by omega
        rcases hk with rfl | rfl | rfl | rfl | rfl | rfl | rfl | rfl | rfl | rfl | rfl | rfl | rfl | rfl | rfl | rfl | rfl | rfl | rfl | rfl | rfl | rfl | rfl | rfl | rfl | rfl | rfl | rfl | rfl | rfl | rfl | rfl | rfl | rfl | rfl | rfl | rfl | rfl | rfl | rfl | rfl
        · exact lv_tableIn (off := 180) (tgt := 220) hx hb dL_law_40 h1 h2 (by rw [hz]; rfl) (by decide) (lc_feed C hi6 hc1 hs1 hnv hok kk H locs LS hP hS hL)
        · exact lv_tableIn (off := 253) (tgt := 293) hx hb dL_law_40 h1 h2 (by rw [hz]; rfl) (by decide) (lc_end C hi6 hc1 hs1 hnv hok kk H locs LS hP hS hL)
        · exact lv_tableIn (off := 278) (tgt := 318) hx hb dL_law_40 h1 h2 (by rw [hz]; rfl) (by decide) (lc_fault C hi6 hc1 hs1 hnv hok kk H locs LS hP hS hL)
        · exact lv_tableIn (off := 303) (tgt := 343) hx hb dL_law_40 h1 h2 (by rw [hz]; rfl) (by decide) (lc_text C hi6 hc1 hs1 hnv hok kk H locs LS hP hS hL)
        · exact lv_tableIn (off := 328) (tgt := 368) hx hb dL_law_40 h1 h2 (by rw [hz]; rfl) (by decide) (lc_striver C hi6 hc2 hs2 hnv hok kk H locs LS hP hS hL)
        · exact lv_tableIn (off := 396) (tgt := 436) hx hb dL_law_40 h1 h2 (by rw [hz]; rfl) (by decide) (lc_law C hi6 hc1 hs1 hnv hok kk H locs LS hP hS hL)
        · exact lv_tableIn (off := 421) (tgt := 461) hx hb dL_law_40 h1 h2 (by rw [hz]; rfl) (by decide) (lc_change C hi6 hc1 hs1 hnv hok kk H locs LS hP hS hL)
        · exact lv_tableIn (off := 458) (tgt := 498) hx hb dL_law_40 h1 h2 (by rw [hz]; rfl) (by decide) (lc_rule C hi6 hc1 hs1 hnv hok kk H locs LS hP hS hL)
        · exact lv_tableIn (off := 495) (tgt := 535) hx hb dL_law_40 h1 h2 (by rw [hz]; rfl) (by decide) (lc_race C hi6 hc1 hs1 hnv hok kk H locs LS hP hS hL)
        · exact lv_tableIn (off := 544) (tgt := 584) hx hb dL_law_40 h1 h2 (by rw [hz]; rfl) (by decide) (lc_came C hi6 hc1 hs1 hnv hok kk H locs LS hP hS hL)
        · exact lv_tableIn (off := 593) (tgt := 633) hx hb dL_law_40 h1 h2 (by rw [hz]; rfl) (by decide) (lc_step C hi6 hc1 hs1 hnv hok kk H locs LS hP hS hL)
        · exact lv_tableIn (off := 654) (tgt := 694) hx hb dL_law_40 h1 h2 (by rw [hz]; rfl) (by decide) (lc_bids C hi6 hc1 hs1 hnv hok kk H locs LS hP hS hL)
        · exact lv_tableIn (off := 691) (tgt := 731) hx hb dL_law_40 h1 h2 (by rw [hz]; rfl) (by decide) (lc_gain C hi6 hc1 hs1 hnv hok kk H locs LS hP hS hL)
        · exact lv_tableIn (off := 728) (tgt := 768) hx hb dL_law_40 h1 h2 (by rw [hz]; rfl) (by decide) (lc_rests C hi6 hc1 hs1 hnv hok kk H locs LS hP hS hL)
        · exact lv_tableIn (off := 753) (tgt := 793) hx hb dL_law_40 h1 h2 (by rw [hz]; rfl) (by decide) (lc_seller C hi6 hc1 hs1 hnv hok kk H locs LS hP hS hL)
        · exact lv_tableIn (off := 778) (tgt := 818) hx hb dL_law_40 h1 h2 (by rw [hz]; rfl) (by decide) (lc_cure C hi6 hc1 hs1 hnv hok kk H locs LS hP hS hL)
        · exact lv_tableIn (off := 815) (tgt := 855) hx hb dL_law_40 h1 h2 (by rw [hz]; rfl) (by decide) (lc_firm C hi6 hc1 hs1 hnv hok kk H locs LS hP hS hL)
        · exact lv_tableIn (off := 852) (tgt := 892) hx hb dL_law_40 h1 h2 (by rw [hz]; rfl) (by decide) (lc_together C hi6 hc1 hs1 hnv hok kk H locs LS hP hS hL)
        · exact lv_tableIn (off := 901) (tgt := 941) hx hb dL_law_40 h1 h2 (by rw [hz]; rfl) (by decide) (lc_treason C hi6 hc1 hs1 hnv hok kk H locs LS hP hS hL)
        · exact lv_tableIn (off := 938) (tgt := 978) hx hb dL_law_40 h1 h2 (by rw [hz]; rfl) (by decide) (lc_waits C hi6 hc1 hs1 hnv hok kk H locs LS hP hS hL)
        · exact lv_tableIn (off := 975) (tgt := 1015) hx hb dL_law_40 h1 h2 (by rw [hz]; rfl) (by decide) (lc_spur C hi6 hc1 hs1 hnv hok kk H locs LS hP hS hL)
        · exact lv_tableIn (off := 1000) (tgt := 1040) hx hb dL_law_40 h1 h2 (by rw [hz]; rfl) (by decide) (lc_rounds C hi6 hc1 hs1 hnv hok kk H locs LS hP hS hL)
        · exact lv_tableIn (off := 1025) (tgt := 1065) hx hb dL_law_40 h1 h2 (by rw [hz]; rfl) (by decide) (lc_honour C hi6 hc1 hs1 hnv hok kk H locs LS hP hS hL)
        · exact lv_tableIn (off := 1050) (tgt := 1090) hx hb dL_law_40 h1 h2 (by rw [hz]; rfl) (by decide) (lc_years C hi6 hc1 hs1 hnv hok kk H locs LS hP hS hL)
        · exact lv_tableIn (off := 1119) (tgt := 1159) hx hb dL_law_40 h1 h2 (by rw [hz]; rfl) (by decide) (lc_undo C hi6 hc1 hs1 hnv hok kk H locs LS hP hS hL)
        · exact lv_tableIn (off := 1132) (tgt := 1172) hx hb dL_law_40 h1 h2 (by rw [hz]; rfl) (by decide) (lc_often C hi6 hc1 hs1 hnv hok kk H locs LS hP hS hL)
        · exact lv_tableIn (off := 1157) (tgt := 1197) hx hb dL_law_40 h1 h2 (by rw [hz]; rfl) (by decide) (lc_made C hi6 hc1 hs1 hnv hok kk H locs LS hP hS hL)
        · exact lv_tableIn (off := 1194) (tgt := 1234) hx hb dL_law_40 h1 h2 (by rw [hz]; rfl) (by decide) (lc_pair C hi6 hc1 hs1 hnv hok kk H locs LS hP hS hL)
        · exact lv_tableIn (off := 1207) (tgt := 1247) hx hb dL_law_40 h1 h2 (by rw [hz]; rfl) (by decide) (lc_sum C hi6 hc1 hs1 hnv hok kk H locs LS hP hS hL)
        · exact lv_tableIn (off := 1232) (tgt := 1272) hx hb dL_law_40 h1 h2 (by rw [hz]; rfl) (by decide) (lc_hope C hi6 hc1 hs1 hnv hok kk H locs LS hP hS hL)
        · exact lv_tableIn (off := 1281) (tgt := 1321) hx hb dL_law_40 h1 h2 (by rw [hz]; rfl) (by decide) (lc_bold C hi6 hc1 hs1 hnv hok kk H locs LS hP hS hL)
        · exact lv_tableIn (off := 1306) (tgt := 1346) hx hb dL_law_40 h1 h2 (by rw [hz]; rfl) (by decide) (lc_voids C hi6 hc1 hs1 hnv hok kk H locs LS hP hS hL)
        · exact lv_tableIn (off := 1319) (tgt := 1359) hx hb dL_law_40 h1 h2 (by rw [hz]; rfl) (by decide) (lc_near C hi6 hc1 hs1 hnv hok kk H locs LS hP hS hL)
        · exact lv_tableIn (off := 1356) (tgt := 1396) hx hb dL_law_40 h1 h2 (by rw [hz]; rfl) (by decide) (lc_changes C hi6 hc1 hs1 hnv hok kk H locs LS hP hS hL)
        · exact lv_tableIn (off := 1381) (tgt := 1421) hx hb dL_law_40 h1 h2 (by rw [hz]; rfl) (by decide) (lc_without C hi6 hc1 hs1 hnv hok kk H locs LS hP hS hL)
        · exact lv_tableIn (off := 1430) (tgt := 1470) hx hb dL_law_40 h1 h2 (by rw [hz]; rfl) (by decide) (lc_choice C hi6 hc1 hs1 hnv hok kk H locs LS hP hS hL)
        · exact lv_tableIn (off := 1479) (tgt := 1519) hx hb dL_law_40 h1 h2 (by rw [hz]; rfl) (by decide) (lc_latest C hi6 hc1 hs1 hnv hok kk H locs LS hP hS hL)
        · exact lv_tableIn (off := 1504) (tgt := 1544) hx hb dL_law_40 h1 h2 (by rw [hz]; rfl) (by decide) (lc_medal C hi6 hc1 hs1 hnv hok kk H locs LS hP hS hL)
        · exact lv_tableIn (off := 1553) (tgt := 1593) hx hb dL_law_40 h1 h2 (by rw [hz]; rfl) (by decide) (lc_image C hi6 hc1 hs1 hnv hok kk H locs LS hP hS hL)
        · exact lv_tableIn (off := 1566) (tgt := 1606) hx hb dL_law_40 h1 h2 (by rw [hz]; rfl) (by decide) (lc_back C hi6 hc1 hs1 hnv hok kk H locs LS hP hS hL)
        · exact lv_tableIn (off := 1579) (tgt := 1619) hx hb dL_law_40 h1 h2 (by rw [hz]; rfl) (by decide) (lc_count C hi6 hc1 hs1 hnv hok kk H locs LS hP hS hL)
