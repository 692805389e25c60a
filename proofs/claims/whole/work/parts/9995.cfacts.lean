theorem co_code : Cond.code Lib.objectInit ⟨#[0xb1]⟩ 1 none ∈ aw_G := aw_inG (List.mem_of_getElem? (i := 119) (by first | rfl | decide +kernel)) rfl
theorem ca_int : Cond.arrayClass .int ∈ aw_G := aw_inG (List.mem_of_getElem? (i := 139) (by decide +kernel)) rfl
theorem ca_byte : Cond.arrayClass .byte ∈ aw_G := aw_inG (List.mem_of_getElem? (i := 1379) (by decide +kernel)) rfl
theorem ca_boolean : Cond.arrayClass .boolean ∈ aw_G := aw_inG (List.mem_of_getElem? (i := 410) (by decide +kernel)) rfl
theorem ca_long : Cond.arrayClass .long ∈ aw_G := aw_inG (List.mem_of_getElem? (i := 346) (by decide +kernel)) rfl
abbrev ac_a (K : aw_K) (t n q : Nat) : Nat × va_E := (q, .inl (K.2.1 t, n, .inl (fun _ => 0)))
abbrev ac_l (K : aw_K) (n q : Nat) : Nat × va_E := (q, .inl (K.2.1 3, n, .inr (.inl (fun _ => 0))))
abbrev MX9_init : aw_M := (yX9_init, cX9_init, 1, none)
theorem co_RX9_3 : ac_CO RX9 3 := ⟨aw_inG (List.mem_of_getElem? (i := 125) (by decide +kernel)) rfl, aw_inG (List.mem_of_getElem? (i := 118) (by decide +kernel)) rfl, co_code⟩
theorem ff_RX9_9 : ac_FF RX9 9 9 0 (.array .int) := ⟨RX9, TX9, 3, tyX9, rfl, by decide, fG_9, aw_inG (List.mem_of_getElem? (i := 126) (by decide +kernel)) rfl, tyX9_ok, nmX9, rfl, rfl, rfl⟩
abbrev MX1_init : aw_M := (yX1_init, cX1_init, 1, none)
theorem co_RX1_3 : ac_CO RX1 3 := ⟨aw_inG (List.mem_of_getElem? (i := 145) (by decide +kernel)) rfl, aw_inG (List.mem_of_getElem? (i := 118) (by decide +kernel)) rfl, co_code⟩
theorem ff_RX1_9 : ac_FF RX1 9 1 0 (.array .int) := ⟨RX1, TX1, 5, tyX1, rfl, by decide, fG_1, aw_inG (List.mem_of_getElem? (i := 146) (by decide +kernel)) rfl, tyX1_ok, nmX1, rfl, rfl, rfl⟩
theorem ff_RX1_15 : ac_FF RX1 15 1 1 (.array .int) := ⟨RX1, TX1, 5, tyX1, rfl, by decide, fG_1, aw_inG (List.mem_of_getElem? (i := 147) (by decide +kernel)) rfl, tyX1_ok, nmX1, rfl, rfl, rfl⟩
theorem ff_RX1_18 : ac_FF RX1 18 1 2 (.array .int) := ⟨RX1, TX1, 5, tyX1, rfl, by decide, fG_1, aw_inG (List.mem_of_getElem? (i := 156) (by decide +kernel)) rfl, tyX1_ok, nmX1, rfl, rfl, rfl⟩
abbrev MX7_init : aw_M := (yX7_init, cX7_init, 1, none)
theorem co_RX7_3 : ac_CO RX7 3 := ⟨aw_inG (List.mem_of_getElem? (i := 185) (by decide +kernel)) rfl, aw_inG (List.mem_of_getElem? (i := 118) (by decide +kernel)) rfl, co_code⟩
theorem ff_RX7_11 : ac_FF RX7 11 7 0 (.array .int) := ⟨RX7, TX7, 7, tyX7, rfl, by decide, fG_7, aw_inG (List.mem_of_getElem? (i := 188) (by decide +kernel)) rfl, tyX7_ok, nmX7, rfl, rfl, rfl⟩
theorem ff_RX7_15 : ac_FF RX7 15 7 1 (.array .int) := ⟨RX7, TX7, 7, tyX7, rfl, by decide, fG_7, aw_inG (List.mem_of_getElem? (i := 189) (by decide +kernel)) rfl, tyX7_ok, nmX7, rfl, rfl, rfl⟩
theorem ff_RX7_18 : ac_FF RX7 18 7 2 (.array .int) := ⟨RX7, TX7, 7, tyX7, rfl, by decide, fG_7, aw_inG (List.mem_of_getElem? (i := 190) (by decide +kernel)) rfl, tyX7_ok, nmX7, rfl, rfl, rfl⟩
theorem ff_RX7_21 : ac_FF RX7 21 7 3 (.array .int) := ⟨RX7, TX7, 7, tyX7, rfl, by decide, fG_7, aw_inG (List.mem_of_getElem? (i := 191) (by decide +kernel)) rfl, tyX7_ok, nmX7, rfl, rfl, rfl⟩
theorem ff_RX7_27 : ac_FF RX7 27 7 4 (.array .int) := ⟨RX7, TX7, 7, tyX7, rfl, by decide, fG_7, aw_inG (List.mem_of_getElem? (i := 192) (by decide +kernel)) rfl, tyX7_ok, nmX7, rfl, rfl, rfl⟩
abbrev MX2_init : aw_M := (yX2_init, cX2_init, 1, none)
theorem co_RX2_3 : ac_CO RX2 3 := ⟨aw_inG (List.mem_of_getElem? (i := 223) (by decide +kernel)) rfl, aw_inG (List.mem_of_getElem? (i := 118) (by decide +kernel)) rfl, co_code⟩
theorem ff_RX2_9 : ac_FF RX2 9 2 0 (.array .int) := ⟨RX2, TX2, 3, tyX2, rfl, by decide, fG_2, aw_inG (List.mem_of_getElem? (i := 224) (by decide +kernel)) rfl, tyX2_ok, nmX2, rfl, rfl, rfl⟩
theorem ff_RX2_15 : ac_FF RX2 15 2 1 (.array .int) := ⟨RX2, TX2, 3, tyX2, rfl, by decide, fG_2, aw_inG (List.mem_of_getElem? (i := 225) (by decide +kernel)) rfl, tyX2_ok, nmX2, rfl, rfl, rfl⟩
abbrev MX8_init : aw_M := (yX8_init, cX8_init, 2, none)
theorem co_RX8_3 : ac_CO RX8 3 := ⟨aw_inG (List.mem_of_getElem? (i := 217) (by decide +kernel)) rfl, aw_inG (List.mem_of_getElem? (i := 118) (by decide +kernel)) rfl, co_code⟩
theorem ce_RX8_9 : ac_CL RX8 9 2 [.null, .null, .int 0] 3 := ⟨RX2, TX2, tyX2, rfl, fG_2, tyX2_ok, aw_inG (List.mem_of_getElem? (i := 218) (by decide +kernel)) rfl, aw_inG (List.mem_of_getElem? (i := 219) (by decide +kernel)) rfl, aw_inG (List.mem_of_getElem? (i := 91) (by decide +kernel)) rfl, by decide +kernel⟩
set_option maxRecDepth 20000 in
theorem cbX2_init : aw_CB MX2_init 0 := ⟨List.mem_of_getElem? (i := 222) rfl, ⟨by decide, by decide, by decide +kernel⟩, aw_inG (List.mem_of_getElem? (i := 91) (by decide +kernel)) rfl, by decide⟩
theorem ck_RX8_11 : ac_CI RX8 11 MX2_init 0 := ⟨⟨cbX2_init, rfl, rfl, aw_inG (List.mem_of_getElem? (i := 221) (by decide +kernel)) rfl⟩, Or.inr ⟨"SecondHas", aw_inN (List.mem_of_getElem? (i := 220) (by decide +kernel)) rfl⟩⟩
theorem ff_RX8_12 : ac_FF RX8 12 8 1 (.object "SecondHas$Order") := ⟨RX8, TX8, 8, tyX8, rfl, by decide, fG_8, aw_inG (List.mem_of_getElem? (i := 235) (by decide +kernel)) rfl, tyX8_ok, nmX8, rfl, rfl, rfl⟩
theorem ff_RX8_18 : ac_FF RX8 18 8 2 (.array .int) := ⟨RX8, TX8, 8, tyX8, rfl, by decide, fG_8, aw_inG (List.mem_of_getElem? (i := 236) (by decide +kernel)) rfl, tyX8_ok, nmX8, rfl, rfl, rfl⟩
theorem ff_RX8_22 : ac_FF RX8 22 8 0 (.object "SecondHas$Land") := ⟨RX8, TX8, 8, tyX8, rfl, by decide, fG_8, aw_inG (List.mem_of_getElem? (i := 234) (by decide +kernel)) rfl, tyX8_ok, nmX8, rfl, rfl, rfl⟩
abbrev MX4_init : aw_M := (yX4_init, cX4_init, 3, none)
theorem co_RX4_3 : ac_CO RX4 3 := ⟨aw_inG (List.mem_of_getElem? (i := 275) (by decide +kernel)) rfl, aw_inG (List.mem_of_getElem? (i := 118) (by decide +kernel)) rfl, co_code⟩
theorem ff_RX4_9 : ac_FF RX4 9 4 0 (.object "SecondHas$Land") := ⟨RX4, TX4, 9, tyX4, rfl, by decide, fG_4, aw_inG (List.mem_of_getElem? (i := 276) (by decide +kernel)) rfl, tyX4_ok, nmX4, rfl, rfl, rfl⟩
theorem ff_RX4_15 : ac_FF RX4 15 4 1 (.object "SecondHas$Sale") := ⟨RX4, TX4, 9, tyX4, rfl, by decide, fG_4, aw_inG (List.mem_of_getElem? (i := 277) (by decide +kernel)) rfl, tyX4_ok, nmX4, rfl, rfl, rfl⟩
abbrev MX5_init : aw_M := (yX5_init, cX5_init, 3, none)
theorem co_RX5_3 : ac_CO RX5 3 := ⟨aw_inG (List.mem_of_getElem? (i := 316) (by decide +kernel)) rfl, aw_inG (List.mem_of_getElem? (i := 118) (by decide +kernel)) rfl, co_code⟩
theorem ff_RX5_11 : ac_FF RX5 11 5 2 (.array .long) := ⟨RX5, TX5, 8, tyX5, rfl, by decide, fG_5, aw_inG (List.mem_of_getElem? (i := 319) (by decide +kernel)) rfl, tyX5_ok, nmX5, rfl, rfl, rfl⟩
theorem ff_RX5_15 : ac_FF RX5 15 5 3 (.array .int) := ⟨RX5, TX5, 8, tyX5, rfl, by decide, fG_5, aw_inG (List.mem_of_getElem? (i := 320) (by decide +kernel)) rfl, tyX5_ok, nmX5, rfl, rfl, rfl⟩
theorem ff_RX5_19 : ac_FF RX5 19 5 0 (.object "SecondHas$Land") := ⟨RX5, TX5, 8, tyX5, rfl, by decide, fG_5, aw_inG (List.mem_of_getElem? (i := 317) (by decide +kernel)) rfl, tyX5_ok, nmX5, rfl, rfl, rfl⟩
theorem ff_RX5_23 : ac_FF RX5 23 5 1 (.object "SecondHas$Sale") := ⟨RX5, TX5, 8, tyX5, rfl, by decide, fG_5, aw_inG (List.mem_of_getElem? (i := 318) (by decide +kernel)) rfl, tyX5_ok, nmX5, rfl, rfl, rfl⟩
abbrev MX3_init : aw_M := (yX3_init, cX3_init, 3, none)
theorem co_RX3_3 : ac_CO RX3 3 := ⟨aw_inG (List.mem_of_getElem? (i := 352) (by decide +kernel)) rfl, aw_inG (List.mem_of_getElem? (i := 118) (by decide +kernel)) rfl, co_code⟩
theorem ce_RX3_9 : ac_CL RX3 9 2 [.null, .null, .int 0] 3 := ⟨RX2, TX2, tyX2, rfl, fG_2, tyX2_ok, aw_inG (List.mem_of_getElem? (i := 353) (by decide +kernel)) rfl, aw_inG (List.mem_of_getElem? (i := 219) (by decide +kernel)) rfl, aw_inG (List.mem_of_getElem? (i := 91) (by decide +kernel)) rfl, by decide +kernel⟩
theorem ck_RX3_11 : ac_CI RX3 11 MX2_init 0 := ⟨⟨cbX2_init, rfl, rfl, aw_inG (List.mem_of_getElem? (i := 221) (by decide +kernel)) rfl⟩, Or.inr ⟨"SecondHas", aw_inN (List.mem_of_getElem? (i := 354) (by decide +kernel)) rfl⟩⟩
theorem ff_RX3_12 : ac_FF RX3 12 3 2 (.object "SecondHas$Order") := ⟨RX3, TX3, 9, tyX3, rfl, by decide, fG_3, aw_inG (List.mem_of_getElem? (i := 357) (by decide +kernel)) rfl, tyX3_ok, nmX3, rfl, rfl, rfl⟩
theorem ff_RX3_18 : ac_FF RX3 18 3 3 (.array .int) := ⟨RX3, TX3, 9, tyX3, rfl, by decide, fG_3, aw_inG (List.mem_of_getElem? (i := 358) (by decide +kernel)) rfl, tyX3_ok, nmX3, rfl, rfl, rfl⟩
theorem ff_RX3_22 : ac_FF RX3 22 3 4 (.array .int) := ⟨RX3, TX3, 9, tyX3, rfl, by decide, fG_3, aw_inG (List.mem_of_getElem? (i := 360) (by decide +kernel)) rfl, tyX3_ok, nmX3, rfl, rfl, rfl⟩
theorem ff_RX3_25 : ac_FF RX3 25 3 5 (.array .int) := ⟨RX3, TX3, 9, tyX3, rfl, by decide, fG_3, aw_inG (List.mem_of_getElem? (i := 362) (by decide +kernel)) rfl, tyX3_ok, nmX3, rfl, rfl, rfl⟩
theorem ff_RX3_28 : ac_FF RX3 28 3 6 (.array .int) := ⟨RX3, TX3, 9, tyX3, rfl, by decide, fG_3, aw_inG (List.mem_of_getElem? (i := 364) (by decide +kernel)) rfl, tyX3_ok, nmX3, rfl, rfl, rfl⟩
theorem ff_RX3_31 : ac_FF RX3 31 3 0 (.object "SecondHas$Land") := ⟨RX3, TX3, 9, tyX3, rfl, by decide, fG_3, aw_inG (List.mem_of_getElem? (i := 355) (by decide +kernel)) rfl, tyX3_ok, nmX3, rfl, rfl, rfl⟩
theorem ff_RX3_35 : ac_FF RX3 35 3 1 (.object "SecondHas$Rules") := ⟨RX3, TX3, 9, tyX3, rfl, by decide, fG_3, aw_inG (List.mem_of_getElem? (i := 356) (by decide +kernel)) rfl, tyX3_ok, nmX3, rfl, rfl, rfl⟩
abbrev MX10_init : aw_M := (yX10_init, cX10_init, 2, none)
theorem co_RX10_3 : ac_CO RX10 3 := ⟨aw_inG (List.mem_of_getElem? (i := 393) (by decide +kernel)) rfl, aw_inG (List.mem_of_getElem? (i := 118) (by decide +kernel)) rfl, co_code⟩
theorem ff_RX10_9 : ac_FF RX10 9 10 1 (.array .int) := ⟨RX10, TX10, 5, tyX10, rfl, by decide, fG_10, aw_inG (List.mem_of_getElem? (i := 395) (by decide +kernel)) rfl, tyX10_ok, nmX10, rfl, rfl, rfl⟩
theorem ff_RX10_15 : ac_FF RX10 15 10 2 (.array .long) := ⟨RX10, TX10, 5, tyX10, rfl, by decide, fG_10, aw_inG (List.mem_of_getElem? (i := 396) (by decide +kernel)) rfl, tyX10_ok, nmX10, rfl, rfl, rfl⟩
theorem ff_RX10_19 : ac_FF RX10 19 10 3 (.array .int) := ⟨RX10, TX10, 5, tyX10, rfl, by decide, fG_10, aw_inG (List.mem_of_getElem? (i := 397) (by decide +kernel)) rfl, tyX10_ok, nmX10, rfl, rfl, rfl⟩
theorem ff_RX10_22 : ac_FF RX10 22 10 4 (.array .boolean) := ⟨RX10, TX10, 5, tyX10, rfl, by decide, fG_10, aw_inG (List.mem_of_getElem? (i := 398) (by decide +kernel)) rfl, tyX10_ok, nmX10, rfl, rfl, rfl⟩
theorem ff_RX10_26 : ac_FF RX10 26 10 0 (.object "SecondHas$Land") := ⟨RX10, TX10, 5, tyX10, rfl, by decide, fG_10, aw_inG (List.mem_of_getElem? (i := 394) (by decide +kernel)) rfl, tyX10_ok, nmX10, rfl, rfl, rfl⟩
abbrev MX6_init : aw_M := (yX6_init, cX6_init, 3, none)
theorem co_RX6_3 : ac_CO RX6 3 := ⟨aw_inG (List.mem_of_getElem? (i := 416) (by decide +kernel)) rfl, aw_inG (List.mem_of_getElem? (i := 118) (by decide +kernel)) rfl, co_code⟩
theorem ff_RX6_9 : ac_FF RX6 9 6 2 (.array .int) := ⟨RX6, TX6, 5, tyX6, rfl, by decide, fG_6, aw_inG (List.mem_of_getElem? (i := 419) (by decide +kernel)) rfl, tyX6_ok, nmX6, rfl, rfl, rfl⟩
theorem ff_RX6_15 : ac_FF RX6 15 6 0 (.object "SecondHas$Land") := ⟨RX6, TX6, 5, tyX6, rfl, by decide, fG_6, aw_inG (List.mem_of_getElem? (i := 417) (by decide +kernel)) rfl, tyX6_ok, nmX6, rfl, rfl, rfl⟩
theorem ff_RX6_19 : ac_FF RX6 19 6 1 (.object "SecondHas$Sale") := ⟨RX6, TX6, 5, tyX6, rfl, by decide, fG_6, aw_inG (List.mem_of_getElem? (i := 418) (by decide +kernel)) rfl, tyX6_ok, nmX6, rfl, rfl, rfl⟩
abbrev MX0_init : aw_M := (yX0_init, cX0_init, 3, none)
theorem co_RX0_3 : ac_CO RX0 3 := ⟨aw_inG (List.mem_of_getElem? (i := 440) (by decide +kernel)) rfl, aw_inG (List.mem_of_getElem? (i := 118) (by decide +kernel)) rfl, co_code⟩
theorem ff_RX0_9 : ac_FF RX0 9 0 2 (.array .int) := ⟨RX0, TX0, 5, tyX0, rfl, by decide, fG_0, aw_inG (List.mem_of_getElem? (i := 443) (by decide +kernel)) rfl, tyX0_ok, nmX0, rfl, rfl, rfl⟩
theorem ff_RX0_15 : ac_FF RX0 15 0 3 (.array .int) := ⟨RX0, TX0, 5, tyX0, rfl, by decide, fG_0, aw_inG (List.mem_of_getElem? (i := 444) (by decide +kernel)) rfl, tyX0_ok, nmX0, rfl, rfl, rfl⟩
theorem ff_RX0_18 : ac_FF RX0 18 0 0 (.object "SecondHas$Land") := ⟨RX0, TX0, 5, tyX0, rfl, by decide, fG_0, aw_inG (List.mem_of_getElem? (i := 441) (by decide +kernel)) rfl, tyX0_ok, nmX0, rfl, rfl, rfl⟩
theorem ff_RX0_22 : ac_FF RX0 22 0 1 (.object "SecondHas$Sale") := ⟨RX0, TX0, 5, tyX0, rfl, by decide, fG_0, aw_inG (List.mem_of_getElem? (i := 442) (by decide +kernel)) rfl, tyX0_ok, nmX0, rfl, rfl, rfl⟩
abbrev MX11_init : aw_M := (yX11_init, cX11_init, 1, none)
theorem co_RX11_1 : ac_CO RX11 1 := ⟨aw_inG (List.mem_of_getElem? (i := 117) (by decide +kernel)) rfl, aw_inG (List.mem_of_getElem? (i := 118) (by decide +kernel)) rfl, co_code⟩
theorem ce_RX11_7 : ac_CL RX11 7 9 [.null, .int 0, .int 0] 3 := ⟨RX9, TX9, tyX9, rfl, fG_9, tyX9_ok, aw_inG (List.mem_of_getElem? (i := 120) (by decide +kernel)) rfl, aw_inG (List.mem_of_getElem? (i := 121) (by decide +kernel)) rfl, aw_inG (List.mem_of_getElem? (i := 87) (by decide +kernel)) rfl, by decide +kernel⟩
set_option maxRecDepth 20000 in
theorem cbX9_init : aw_CB MX9_init 0 := ⟨List.mem_of_getElem? (i := 124) rfl, ⟨by decide, by decide, by decide +kernel⟩, aw_inG (List.mem_of_getElem? (i := 87) (by decide +kernel)) rfl, by decide⟩
theorem ck_RX11_9 : ac_CI RX11 9 MX9_init 0 := ⟨⟨cbX9_init, rfl, rfl, aw_inG (List.mem_of_getElem? (i := 123) (by decide +kernel)) rfl⟩, Or.inr ⟨"SecondHas", aw_inN (List.mem_of_getElem? (i := 122) (by decide +kernel)) rfl⟩⟩
theorem ff_RX11_10 : ac_FF RX11 10 11 0 (.object "SecondHas$Tape") := ⟨RX11, TX11, 15, tyX11, rfl, by decide, fG_11, aw_inG (List.mem_of_getElem? (i := 458) (by decide +kernel)) rfl, tyX11_ok, nmX11, rfl, rfl, rfl⟩
theorem ce_RX11_16 : ac_CL RX11 16 1 [.null, .null, .null, .int 0, .int 0] 5 := ⟨RX1, TX1, tyX1, rfl, fG_1, tyX1_ok, aw_inG (List.mem_of_getElem? (i := 140) (by decide +kernel)) rfl, aw_inG (List.mem_of_getElem? (i := 141) (by decide +kernel)) rfl, aw_inG (List.mem_of_getElem? (i := 88) (by decide +kernel)) rfl, by decide +kernel⟩
set_option maxRecDepth 20000 in
theorem cbX1_init : aw_CB MX1_init 0 := ⟨List.mem_of_getElem? (i := 144) rfl, ⟨by decide, by decide, by decide +kernel⟩, aw_inG (List.mem_of_getElem? (i := 88) (by decide +kernel)) rfl, by decide⟩
theorem ck_RX11_18 : ac_CI RX11 18 MX1_init 0 := ⟨⟨cbX1_init, rfl, rfl, aw_inG (List.mem_of_getElem? (i := 143) (by decide +kernel)) rfl⟩, Or.inr ⟨"SecondHas", aw_inN (List.mem_of_getElem? (i := 142) (by decide +kernel)) rfl⟩⟩
theorem ff_RX11_19 : ac_FF RX11 19 11 1 (.object "SecondHas$Land") := ⟨RX11, TX11, 15, tyX11, rfl, by decide, fG_11, aw_inG (List.mem_of_getElem? (i := 459) (by decide +kernel)) rfl, tyX11_ok, nmX11, rfl, rfl, rfl⟩
theorem ff_RX11_23 : ac_FF RX11 23 11 2 (.object "SecondHas$Land") := ⟨RX11, TX11, 15, tyX11, rfl, by decide, fG_11, aw_inG (List.mem_of_getElem? (i := 460) (by decide +kernel)) rfl, tyX11_ok, nmX11, rfl, rfl, rfl⟩
theorem ce_RX11_26 : ac_CL RX11 26 7 [.null, .null, .null, .null, .null, .int 0, .int 0] 7 := ⟨RX7, TX7, tyX7, rfl, fG_7, tyX7_ok, aw_inG (List.mem_of_getElem? (i := 180) (by decide +kernel)) rfl, aw_inG (List.mem_of_getElem? (i := 181) (by decide +kernel)) rfl, aw_inG (List.mem_of_getElem? (i := 89) (by decide +kernel)) rfl, by decide +kernel⟩
set_option maxRecDepth 20000 in
theorem cbX7_init : aw_CB MX7_init 0 := ⟨List.mem_of_getElem? (i := 184) rfl, ⟨by decide, by decide, by decide +kernel⟩, aw_inG (List.mem_of_getElem? (i := 89) (by decide +kernel)) rfl, by decide⟩
theorem ck_RX11_28 : ac_CI RX11 28 MX7_init 0 := ⟨⟨cbX7_init, rfl, rfl, aw_inG (List.mem_of_getElem? (i := 183) (by decide +kernel)) rfl⟩, Or.inr ⟨"SecondHas", aw_inN (List.mem_of_getElem? (i := 182) (by decide +kernel)) rfl⟩⟩
theorem ff_RX11_29 : ac_FF RX11 29 11 3 (.object "SecondHas$Rules") := ⟨RX11, TX11, 15, tyX11, rfl, by decide, fG_11, aw_inG (List.mem_of_getElem? (i := 461) (by decide +kernel)) rfl, tyX11_ok, nmX11, rfl, rfl, rfl⟩
theorem ce_RX11_33 : ac_CL RX11 33 8 [.null, .null, .null, .int 0, .int 0, .int 0, .int 0, .int 0] 8 := ⟨RX8, TX8, tyX8, rfl, fG_8, tyX8_ok, aw_inG (List.mem_of_getElem? (i := 212) (by decide +kernel)) rfl, aw_inG (List.mem_of_getElem? (i := 213) (by decide +kernel)) rfl, aw_inG (List.mem_of_getElem? (i := 90) (by decide +kernel)) rfl, by decide +kernel⟩
set_option maxRecDepth 20000 in
theorem cbX8_init : aw_CB MX8_init 1 := ⟨List.mem_of_getElem? (i := 216) rfl, ⟨by decide, by decide, by decide +kernel⟩, aw_inG (List.mem_of_getElem? (i := 90) (by decide +kernel)) rfl, by decide⟩
theorem ck_RX11_35 : ac_CI RX11 35 MX8_init 1 := ⟨⟨cbX8_init, rfl, rfl, aw_inG (List.mem_of_getElem? (i := 215) (by decide +kernel)) rfl⟩, Or.inl (aw_inG (List.mem_of_getElem? (i := 214) (by decide +kernel)) rfl)⟩
theorem ff_RX11_38 : ac_FF RX11 38 11 4 (.object "SecondHas$Sale") := ⟨RX11, TX11, 15, tyX11, rfl, by decide, fG_11, aw_inG (List.mem_of_getElem? (i := 462) (by decide +kernel)) rfl, tyX11_ok, nmX11, rfl, rfl, rfl⟩
theorem ce_RX11_42 : ac_CL RX11 42 4 [.null, .null, .int 0, .int 0, .int 0, .int 0, .int 0, .int 0, .int 0] 9 := ⟨RX4, TX4, tyX4, rfl, fG_4, tyX4_ok, aw_inG (List.mem_of_getElem? (i := 270) (by decide +kernel)) rfl, aw_inG (List.mem_of_getElem? (i := 271) (by decide +kernel)) rfl, aw_inG (List.mem_of_getElem? (i := 92) (by decide +kernel)) rfl, by decide +kernel⟩
set_option maxRecDepth 20000 in
theorem cbX4_init : aw_CB MX4_init 2 := ⟨List.mem_of_getElem? (i := 274) rfl, ⟨by decide, by decide, by decide +kernel⟩, aw_inG (List.mem_of_getElem? (i := 92) (by decide +kernel)) rfl, by decide⟩
theorem ck_RX11_44 : ac_CI RX11 44 MX4_init 2 := ⟨⟨cbX4_init, rfl, rfl, aw_inG (List.mem_of_getElem? (i := 273) (by decide +kernel)) rfl⟩, Or.inl (aw_inG (List.mem_of_getElem? (i := 272) (by decide +kernel)) rfl)⟩
theorem ff_RX11_47 : ac_FF RX11 47 11 5 (.object "SecondHas$Replies") := ⟨RX11, TX11, 15, tyX11, rfl, by decide, fG_11, aw_inG (List.mem_of_getElem? (i := 463) (by decide +kernel)) rfl, tyX11_ok, nmX11, rfl, rfl, rfl⟩
theorem ce_RX11_51 : ac_CL RX11 51 5 [.null, .null, .null, .null, .int 0, .int 0, .int 0, .int 0] 8 := ⟨RX5, TX5, tyX5, rfl, fG_5, tyX5_ok, aw_inG (List.mem_of_getElem? (i := 311) (by decide +kernel)) rfl, aw_inG (List.mem_of_getElem? (i := 312) (by decide +kernel)) rfl, aw_inG (List.mem_of_getElem? (i := 93) (by decide +kernel)) rfl, by decide +kernel⟩
set_option maxRecDepth 20000 in
theorem cbX5_init : aw_CB MX5_init 2 := ⟨List.mem_of_getElem? (i := 315) rfl, ⟨by decide, by decide, by decide +kernel⟩, aw_inG (List.mem_of_getElem? (i := 93) (by decide +kernel)) rfl, by decide⟩
theorem ck_RX11_53 : ac_CI RX11 53 MX5_init 2 := ⟨⟨cbX5_init, rfl, rfl, aw_inG (List.mem_of_getElem? (i := 314) (by decide +kernel)) rfl⟩, Or.inl (aw_inG (List.mem_of_getElem? (i := 313) (by decide +kernel)) rfl)⟩
theorem ff_RX11_54 : ac_FF RX11 54 11 6 (.object "SecondHas$Rests") := ⟨RX11, TX11, 15, tyX11, rfl, by decide, fG_11, aw_inG (List.mem_of_getElem? (i := 464) (by decide +kernel)) rfl, tyX11_ok, nmX11, rfl, rfl, rfl⟩
theorem ce_RX11_58 : ac_CL RX11 58 3 [.null, .null, .null, .null, .null, .null, .null, .int 0, .int 0] 9 := ⟨RX3, TX3, tyX3, rfl, fG_3, tyX3_ok, aw_inG (List.mem_of_getElem? (i := 347) (by decide +kernel)) rfl, aw_inG (List.mem_of_getElem? (i := 348) (by decide +kernel)) rfl, aw_inG (List.mem_of_getElem? (i := 94) (by decide +kernel)) rfl, by decide +kernel⟩
set_option maxRecDepth 20000 in
theorem cbX3_init : aw_CB MX3_init 2 := ⟨List.mem_of_getElem? (i := 351) rfl, ⟨by decide, by decide, by decide +kernel⟩, aw_inG (List.mem_of_getElem? (i := 94) (by decide +kernel)) rfl, by decide⟩
theorem ck_RX11_60 : ac_CI RX11 60 MX3_init 2 := ⟨⟨cbX3_init, rfl, rfl, aw_inG (List.mem_of_getElem? (i := 350) (by decide +kernel)) rfl⟩, Or.inl (aw_inG (List.mem_of_getElem? (i := 349) (by decide +kernel)) rfl)⟩
theorem ff_RX11_63 : ac_FF RX11 63 11 7 (.object "SecondHas$Race") := ⟨RX11, TX11, 15, tyX11, rfl, by decide, fG_11, aw_inG (List.mem_of_getElem? (i := 465) (by decide +kernel)) rfl, tyX11_ok, nmX11, rfl, rfl, rfl⟩
theorem ce_RX11_67 : ac_CL RX11 67 10 [.null, .null, .null, .null, .null] 5 := ⟨RX10, TX10, tyX10, rfl, fG_10, tyX10_ok, aw_inG (List.mem_of_getElem? (i := 388) (by decide +kernel)) rfl, aw_inG (List.mem_of_getElem? (i := 389) (by decide +kernel)) rfl, aw_inG (List.mem_of_getElem? (i := 95) (by decide +kernel)) rfl, by decide +kernel⟩
set_option maxRecDepth 20000 in
theorem cbX10_init : aw_CB MX10_init 1 := ⟨List.mem_of_getElem? (i := 392) rfl, ⟨by decide, by decide, by decide +kernel⟩, aw_inG (List.mem_of_getElem? (i := 95) (by decide +kernel)) rfl, by decide⟩
theorem ck_RX11_69 : ac_CI RX11 69 MX10_init 1 := ⟨⟨cbX10_init, rfl, rfl, aw_inG (List.mem_of_getElem? (i := 391) (by decide +kernel)) rfl⟩, Or.inl (aw_inG (List.mem_of_getElem? (i := 390) (by decide +kernel)) rfl)⟩
theorem ff_RX11_70 : ac_FF RX11 70 11 8 (.object "SecondHas$Waiting") := ⟨RX11, TX11, 15, tyX11, rfl, by decide, fG_11, aw_inG (List.mem_of_getElem? (i := 466) (by decide +kernel)) rfl, tyX11_ok, nmX11, rfl, rfl, rfl⟩
theorem ce_RX11_74 : ac_CL RX11 74 6 [.null, .null, .null, .int 0, .int 0] 5 := ⟨RX6, TX6, tyX6, rfl, fG_6, tyX6_ok, aw_inG (List.mem_of_getElem? (i := 411) (by decide +kernel)) rfl, aw_inG (List.mem_of_getElem? (i := 412) (by decide +kernel)) rfl, aw_inG (List.mem_of_getElem? (i := 96) (by decide +kernel)) rfl, by decide +kernel⟩
set_option maxRecDepth 20000 in
theorem cbX6_init : aw_CB MX6_init 2 := ⟨List.mem_of_getElem? (i := 415) rfl, ⟨by decide, by decide, by decide +kernel⟩, aw_inG (List.mem_of_getElem? (i := 96) (by decide +kernel)) rfl, by decide⟩
theorem ck_RX11_76 : ac_CI RX11 76 MX6_init 2 := ⟨⟨cbX6_init, rfl, rfl, aw_inG (List.mem_of_getElem? (i := 414) (by decide +kernel)) rfl⟩, Or.inl (aw_inG (List.mem_of_getElem? (i := 413) (by decide +kernel)) rfl)⟩
theorem ff_RX11_77 : ac_FF RX11 77 11 9 (.object "SecondHas$Rounds") := ⟨RX11, TX11, 15, tyX11, rfl, by decide, fG_11, aw_inG (List.mem_of_getElem? (i := 467) (by decide +kernel)) rfl, tyX11_ok, nmX11, rfl, rfl, rfl⟩
theorem ce_RX11_81 : ac_CL RX11 81 0 [.null, .null, .null, .null, .int 0] 5 := ⟨RX0, TX0, tyX0, rfl, fG_0, tyX0_ok, aw_inG (List.mem_of_getElem? (i := 435) (by decide +kernel)) rfl, aw_inG (List.mem_of_getElem? (i := 436) (by decide +kernel)) rfl, aw_inG (List.mem_of_getElem? (i := 97) (by decide +kernel)) rfl, by decide +kernel⟩
set_option maxRecDepth 20000 in
theorem cbX0_init : aw_CB MX0_init 2 := ⟨List.mem_of_getElem? (i := 439) rfl, ⟨by decide, by decide, by decide +kernel⟩, aw_inG (List.mem_of_getElem? (i := 97) (by decide +kernel)) rfl, by decide⟩
theorem ck_RX11_83 : ac_CI RX11 83 MX0_init 2 := ⟨⟨cbX0_init, rfl, rfl, aw_inG (List.mem_of_getElem? (i := 438) (by decide +kernel)) rfl⟩, Or.inl (aw_inG (List.mem_of_getElem? (i := 437) (by decide +kernel)) rfl)⟩
theorem ff_RX11_84 : ac_FF RX11 84 11 10 (.object "SecondHas$Book") := ⟨RX11, TX11, 15, tyX11, rfl, by decide, fG_11, aw_inG (List.mem_of_getElem? (i := 468) (by decide +kernel)) rfl, tyX11_ok, nmX11, rfl, rfl, rfl⟩
theorem ff_RX11_88 : ac_FF RX11 88 11 11 (.object "SecondHas$Book") := ⟨RX11, TX11, 15, tyX11, rfl, by decide, fG_11, aw_inG (List.mem_of_getElem? (i := 469) (by decide +kernel)) rfl, tyX11_ok, nmX11, rfl, rfl, rfl⟩
theorem ff_RX11_91 : ac_FF RX11 91 11 12 (.array .int) := ⟨RX11, TX11, 15, tyX11, rfl, by decide, fG_11, aw_inG (List.mem_of_getElem? (i := 470) (by decide +kernel)) rfl, tyX11_ok, nmX11, rfl, rfl, rfl⟩
theorem ff_RX11_95 : ac_FF RX11 95 11 13 (.array .int) := ⟨RX11, TX11, 15, tyX11, rfl, by decide, fG_11, aw_inG (List.mem_of_getElem? (i := 471) (by decide +kernel)) rfl, tyX11_ok, nmX11, rfl, rfl, rfl⟩
abbrev MX12_init : aw_M := (yX12_init, cX12_init, 1, none)
theorem co_RX12_1 : ac_CO RX12 1 := ⟨aw_inG (List.mem_of_getElem? (i := 1219) (by decide +kernel)) rfl, aw_inG (List.mem_of_getElem? (i := 118) (by decide +kernel)) rfl, co_code⟩
theorem ff_RX12_9 : ac_FF RX12 9 12 1 (.array .byte) := ⟨RX12, TX12, 52, tyX12, rfl, by decide, fG_12, aw_inG (List.mem_of_getElem? (i := 1223) (by decide +kernel)) rfl, tyX12_ok, nmX12, rfl, rfl, rfl⟩
theorem ff_RX12_13 : ac_FF RX12 13 12 2 (.array .byte) := ⟨RX12, TX12, 52, tyX12, rfl, by decide, fG_12, aw_inG (List.mem_of_getElem? (i := 1224) (by decide +kernel)) rfl, tyX12_ok, nmX12, rfl, rfl, rfl⟩
theorem ff_RX12_16 : ac_FF RX12 16 12 3 (.array .int) := ⟨RX12, TX12, 52, tyX12, rfl, by decide, fG_12, aw_inG (List.mem_of_getElem? (i := 1225) (by decide +kernel)) rfl, tyX12_ok, nmX12, rfl, rfl, rfl⟩
theorem ff_RX12_20 : ac_FF RX12 20 12 4 (.array .int) := ⟨RX12, TX12, 52, tyX12, rfl, by decide, fG_12, aw_inG (List.mem_of_getElem? (i := 1226) (by decide +kernel)) rfl, tyX12_ok, nmX12, rfl, rfl, rfl⟩
theorem ff_RX12_28 : ac_FF RX12 28 12 15 (.object "java/lang/String") := ⟨RX12, TX12, 52, tyX12, rfl, by decide, fG_12, aw_inG (List.mem_of_getElem? (i := 1237) (by decide +kernel)) rfl, tyX12_ok, nmX12, rfl, rfl, rfl⟩
theorem ff_RX12_34 : ac_FF RX12 34 12 16 (.object "java/lang/String") := ⟨RX12, TX12, 52, tyX12, rfl, by decide, fG_12, aw_inG (List.mem_of_getElem? (i := 1238) (by decide +kernel)) rfl, tyX12_ok, nmX12, rfl, rfl, rfl⟩
theorem ff_RX12_37 : ac_FF RX12 37 12 18 (.array .int) := ⟨RX12, TX12, 52, tyX12, rfl, by decide, fG_12, aw_inG (List.mem_of_getElem? (i := 1240) (by decide +kernel)) rfl, tyX12_ok, nmX12, rfl, rfl, rfl⟩
theorem ff_RX12_40 : ac_FF RX12 40 12 19 (.array .int) := ⟨RX12, TX12, 52, tyX12, rfl, by decide, fG_12, aw_inG (List.mem_of_getElem? (i := 1241) (by decide +kernel)) rfl, tyX12_ok, nmX12, rfl, rfl, rfl⟩
theorem ff_RX12_43 : ac_FF RX12 43 12 20 (.array .int) := ⟨RX12, TX12, 52, tyX12, rfl, by decide, fG_12, aw_inG (List.mem_of_getElem? (i := 1242) (by decide +kernel)) rfl, tyX12_ok, nmX12, rfl, rfl, rfl⟩
theorem ff_RX12_46 : ac_FF RX12 46 12 21 (.array .int) := ⟨RX12, TX12, 52, tyX12, rfl, by decide, fG_12, aw_inG (List.mem_of_getElem? (i := 1243) (by decide +kernel)) rfl, tyX12_ok, nmX12, rfl, rfl, rfl⟩
theorem ff_RX12_49 : ac_FF RX12 49 12 25 (.array .int) := ⟨RX12, TX12, 52, tyX12, rfl, by decide, fG_12, aw_inG (List.mem_of_getElem? (i := 1247) (by decide +kernel)) rfl, tyX12_ok, nmX12, rfl, rfl, rfl⟩
theorem ff_RX12_52 : ac_FF RX12 52 12 26 (.array .int) := ⟨RX12, TX12, 52, tyX12, rfl, by decide, fG_12, aw_inG (List.mem_of_getElem? (i := 1248) (by decide +kernel)) rfl, tyX12_ok, nmX12, rfl, rfl, rfl⟩
theorem ff_RX12_55 : ac_FF RX12 55 12 27 (.array .boolean) := ⟨RX12, TX12, 52, tyX12, rfl, by decide, fG_12, aw_inG (List.mem_of_getElem? (i := 1249) (by decide +kernel)) rfl, tyX12_ok, nmX12, rfl, rfl, rfl⟩
theorem ff_RX12_59 : ac_FF RX12 59 12 28 (.array .int) := ⟨RX12, TX12, 52, tyX12, rfl, by decide, fG_12, aw_inG (List.mem_of_getElem? (i := 1250) (by decide +kernel)) rfl, tyX12_ok, nmX12, rfl, rfl, rfl⟩
theorem ff_RX12_62 : ac_FF RX12 62 12 29 (.array .int) := ⟨RX12, TX12, 52, tyX12, rfl, by decide, fG_12, aw_inG (List.mem_of_getElem? (i := 1251) (by decide +kernel)) rfl, tyX12_ok, nmX12, rfl, rfl, rfl⟩
theorem ff_RX12_65 : ac_FF RX12 65 12 30 (.array .int) := ⟨RX12, TX12, 52, tyX12, rfl, by decide, fG_12, aw_inG (List.mem_of_getElem? (i := 1252) (by decide +kernel)) rfl, tyX12_ok, nmX12, rfl, rfl, rfl⟩
theorem ff_RX12_72 : ac_FF RX12 72 12 33 (.array .int) := ⟨RX12, TX12, 52, tyX12, rfl, by decide, fG_12, aw_inG (List.mem_of_getElem? (i := 1255) (by decide +kernel)) rfl, tyX12_ok, nmX12, rfl, rfl, rfl⟩
theorem ff_RX12_75 : ac_FF RX12 75 12 38 (.array .int) := ⟨RX12, TX12, 52, tyX12, rfl, by decide, fG_12, aw_inG (List.mem_of_getElem? (i := 1260) (by decide +kernel)) rfl, tyX12_ok, nmX12, rfl, rfl, rfl⟩
theorem ff_RX12_78 : ac_FF RX12 78 12 39 (.array .boolean) := ⟨RX12, TX12, 52, tyX12, rfl, by decide, fG_12, aw_inG (List.mem_of_getElem? (i := 1261) (by decide +kernel)) rfl, tyX12_ok, nmX12, rfl, rfl, rfl⟩
theorem ff_RX12_81 : ac_FF RX12 81 12 40 (.array .int) := ⟨RX12, TX12, 52, tyX12, rfl, by decide, fG_12, aw_inG (List.mem_of_getElem? (i := 1262) (by decide +kernel)) rfl, tyX12_ok, nmX12, rfl, rfl, rfl⟩
theorem ff_RX12_84 : ac_FF RX12 84 12 41 (.array .int) := ⟨RX12, TX12, 52, tyX12, rfl, by decide, fG_12, aw_inG (List.mem_of_getElem? (i := 1263) (by decide +kernel)) rfl, tyX12_ok, nmX12, rfl, rfl, rfl⟩
theorem ff_RX12_87 : ac_FF RX12 87 12 42 (.array .int) := ⟨RX12, TX12, 52, tyX12, rfl, by decide, fG_12, aw_inG (List.mem_of_getElem? (i := 1264) (by decide +kernel)) rfl, tyX12_ok, nmX12, rfl, rfl, rfl⟩
theorem ff_RX12_90 : ac_FF RX12 90 12 47 (.array .int) := ⟨RX12, TX12, 52, tyX12, rfl, by decide, fG_12, aw_inG (List.mem_of_getElem? (i := 1269) (by decide +kernel)) rfl, tyX12_ok, nmX12, rfl, rfl, rfl⟩
theorem ff_RX12_93 : ac_FF RX12 93 12 48 (.array .int) := ⟨RX12, TX12, 52, tyX12, rfl, by decide, fG_12, aw_inG (List.mem_of_getElem? (i := 1270) (by decide +kernel)) rfl, tyX12_ok, nmX12, rfl, rfl, rfl⟩
theorem ff_RX12_96 : ac_FF RX12 96 12 49 (.array .int) := ⟨RX12, TX12, 52, tyX12, rfl, by decide, fG_12, aw_inG (List.mem_of_getElem? (i := 1271) (by decide +kernel)) rfl, tyX12_ok, nmX12, rfl, rfl, rfl⟩
