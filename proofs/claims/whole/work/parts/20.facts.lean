theorem fG_11 : ∀ w ∈ u_ws RX11 TX11 15, w ∈ aw_G := aw_in_all [473, 475, 477, 479, 481, 483, 485, 487, 489, 491, 493, 495, 497, 499, 501] (by decide +kernel) (by decide +kernel)
theorem fl_RX11_98 : aw_FL RX11 98 11 14 := ⟨RX11, TX11, 15, rfl, by decide, fG_11, aw_inG (List.mem_of_getElem? (i := 472) (by decide +kernel)) rfl⟩
theorem fl_RX11_84 : aw_FL RX11 84 11 10 := ⟨RX11, TX11, 15, rfl, by decide, fG_11, aw_inG (List.mem_of_getElem? (i := 468) (by decide +kernel)) rfl⟩
theorem fl_RX11_88 : aw_FL RX11 88 11 11 := ⟨RX11, TX11, 15, rfl, by decide, fG_11, aw_inG (List.mem_of_getElem? (i := 469) (by decide +kernel)) rfl⟩
abbrev MX0_become : aw_M := (yX0_become, cX0_become, 2, none)
set_option maxRecDepth 20000 in
theorem cbX0_become : aw_CB MX0_become 1 := ⟨List.mem_of_getElem? (i := 1133) rfl, ⟨by decide, by decide, by decide +kernel⟩, aw_inG (List.mem_of_getElem? (i := 97) (by decide +kernel)) rfl, by decide⟩
theorem ciX0_become : Cond.instanceMethod MX0_become.1 ∈ aw_G ∧ Cond.selects MX0_become.1.cls MX0_become.1 MX0_become.1 ∈ aw_G := ⟨aw_inG (List.mem_of_getElem? (i := 1131) (by decide +kernel)) rfl, aw_inG (List.mem_of_getElem? (i := 1132) (by decide +kernel)) rfl⟩
theorem cv_RX11_329 : aw_CV RX11 329 MX0_become 1 := ⟨cbX0_become, aw_inG (List.mem_of_getElem? (i := 1130) (by decide +kernel)) rfl, ciX0_become.1, ciX0_become.2⟩
theorem fG_0 : ∀ w ∈ u_ws RX0 TX0 5, w ∈ aw_G := aw_in_all [447, 449, 451, 453, 455] (by decide +kernel) (by decide +kernel)
theorem fl_RX0_9 : aw_FL RX0 9 0 2 := ⟨RX0, TX0, 5, rfl, by decide, fG_0, aw_inG (List.mem_of_getElem? (i := 443) (by decide +kernel)) rfl⟩
theorem cc_RX0_26 : aw_CC RX0 26 := ⟨aw_inG (List.mem_of_getElem? (i := 1134) (by decide +kernel)) rfl, aw_inG (List.mem_of_getElem? (i := 531) (by decide +kernel)) rfl, aw_inG (List.mem_of_getElem? (i := 530) (by decide +kernel)) rfl, aw_inG (List.mem_of_getElem? (i := 99) (by decide +kernel)) rfl⟩
theorem fl_RX0_32 : aw_FL RX0 32 0 4 := ⟨RX0, TX0, 5, rfl, by decide, fG_0, aw_inG (List.mem_of_getElem? (i := 445) (by decide +kernel)) rfl⟩
theorem fp_RX0_32 : aw_FP RX0 32 0 4 .int := ⟨RX0, TX0, 5, tyX0, rfl, by decide, fG_0, aw_inG (List.mem_of_getElem? (i := 445) (by decide +kernel)) rfl, tyX0_ok, nmX0, rfl, rfl⟩
theorem fl_RX11_91 : aw_FL RX11 91 11 12 := ⟨RX11, TX11, 15, rfl, by decide, fG_11, aw_inG (List.mem_of_getElem? (i := 470) (by decide +kernel)) rfl⟩
theorem fl_RX11_19 : aw_FL RX11 19 11 1 := ⟨RX11, TX11, 15, rfl, by decide, fG_11, aw_inG (List.mem_of_getElem? (i := 459) (by decide +kernel)) rfl⟩
theorem fG_1 : ∀ w ∈ u_ws RX1 TX1 5, w ∈ aw_G := aw_in_all [169, 171, 173, 175, 177] (by decide +kernel) (by decide +kernel)
theorem fl_RX11_151 : aw_FL RX11 151 1 1 := ⟨RX1, TX1, 5, rfl, by decide, fG_1, aw_inG (List.mem_of_getElem? (i := 155) (by decide +kernel)) rfl⟩
theorem cc_RX11_332 : aw_CC RX11 332 := ⟨aw_inG (List.mem_of_getElem? (i := 1135) (by decide +kernel)) rfl, aw_inG (List.mem_of_getElem? (i := 531) (by decide +kernel)) rfl, aw_inG (List.mem_of_getElem? (i := 530) (by decide +kernel)) rfl, aw_inG (List.mem_of_getElem? (i := 99) (by decide +kernel)) rfl⟩
theorem fl_RX11_95 : aw_FL RX11 95 11 13 := ⟨RX11, TX11, 15, rfl, by decide, fG_11, aw_inG (List.mem_of_getElem? (i := 471) (by decide +kernel)) rfl⟩
theorem fl_RX11_144 : aw_FL RX11 144 1 2 := ⟨RX1, TX1, 5, rfl, by decide, fG_1, aw_inG (List.mem_of_getElem? (i := 158) (by decide +kernel)) rfl⟩
theorem fl_RX11_54 : aw_FL RX11 54 11 6 := ⟨RX11, TX11, 15, rfl, by decide, fG_11, aw_inG (List.mem_of_getElem? (i := 464) (by decide +kernel)) rfl⟩
theorem fG_5 : ∀ w ∈ u_ws RX5 TX5 8, w ∈ aw_G := aw_in_all [329, 331, 333, 335, 337, 339, 341, 343] (by decide +kernel) (by decide +kernel)
theorem fp_RX11_133 : aw_FP RX11 133 5 4 .boolean := ⟨RX5, TX5, 8, tyX5, rfl, by decide, fG_5, aw_inG (List.mem_of_getElem? (i := 322) (by decide +kernel)) rfl, tyX5_ok, nmX5, rfl, rfl⟩
theorem fl_RX11_132 : aw_FL RX11 132 0 4 := ⟨RX0, TX0, 5, rfl, by decide, fG_0, aw_inG (List.mem_of_getElem? (i := 446) (by decide +kernel)) rfl⟩
theorem cn_RX11_165 : Cond.constant RX11 165 (Int32.ofInt (-1000000)) ∈ aw_G := aw_inG (List.mem_of_getElem? (i := 657) (by decide +kernel)) rfl
theorem fl_RX11_38 : aw_FL RX11 38 11 4 := ⟨RX11, TX11, 15, rfl, by decide, fG_11, aw_inG (List.mem_of_getElem? (i := 462) (by decide +kernel)) rfl⟩
abbrev MX8_take : aw_M := (yX8_take, cX8_take, 3, some .boolean)
set_option maxRecDepth 20000 in
theorem cbX8_take : aw_CB MX8_take 1 := ⟨List.mem_of_getElem? (i := 746) rfl, ⟨by decide, by decide, by decide +kernel⟩, aw_inG (List.mem_of_getElem? (i := 90) (by decide +kernel)) rfl, by decide⟩
theorem ciX8_take : Cond.instanceMethod MX8_take.1 ∈ aw_G ∧ Cond.selects MX8_take.1.cls MX8_take.1 MX8_take.1 ∈ aw_G := ⟨aw_inG (List.mem_of_getElem? (i := 744) (by decide +kernel)) rfl, aw_inG (List.mem_of_getElem? (i := 745) (by decide +kernel)) rfl⟩
theorem cv_RX11_188 : aw_CV RX11 188 MX8_take 1 := ⟨cbX8_take, aw_inG (List.mem_of_getElem? (i := 743) (by decide +kernel)) rfl, ciX8_take.1, ciX8_take.2⟩
theorem fG_8 : ∀ w ∈ u_ws RX8 TX8 8, w ∈ aw_G := aw_in_all [253, 255, 257, 259, 261, 263, 265, 267] (by decide +kernel) (by decide +kernel)
theorem fl_RX8_22 : aw_FL RX8 22 8 0 := ⟨RX8, TX8, 8, rfl, by decide, fG_8, aw_inG (List.mem_of_getElem? (i := 234) (by decide +kernel)) rfl⟩
theorem fl_RX8_26 : aw_FL RX8 26 1 4 := ⟨RX1, TX1, 5, rfl, by decide, fG_1, aw_inG (List.mem_of_getElem? (i := 160) (by decide +kernel)) rfl⟩
abbrev MX8_put : aw_M := (yX8_put, cX8_put, 4, some .int)
set_option maxRecDepth 20000 in
theorem cbX8_put : aw_CB MX8_put 1 := ⟨List.mem_of_getElem? (i := 750) rfl, ⟨by decide, by decide, by decide +kernel⟩, aw_inG (List.mem_of_getElem? (i := 90) (by decide +kernel)) rfl, by decide⟩
theorem ciX8_put : Cond.instanceMethod MX8_put.1 ∈ aw_G ∧ Cond.selects MX8_put.1.cls MX8_put.1 MX8_put.1 ∈ aw_G := ⟨aw_inG (List.mem_of_getElem? (i := 748) (by decide +kernel)) rfl, aw_inG (List.mem_of_getElem? (i := 749) (by decide +kernel)) rfl⟩
theorem cv_RX8_32 : aw_CV RX8 32 MX8_put 1 := ⟨cbX8_put, aw_inG (List.mem_of_getElem? (i := 747) (by decide +kernel)) rfl, ciX8_put.1, ciX8_put.2⟩
theorem fl_RX8_18 : aw_FL RX8 18 8 2 := ⟨RX8, TX8, 8, rfl, by decide, fG_8, aw_inG (List.mem_of_getElem? (i := 236) (by decide +kernel)) rfl⟩
theorem fl_RX8_36 : aw_FL RX8 36 1 1 := ⟨RX1, TX1, 5, rfl, by decide, fG_1, aw_inG (List.mem_of_getElem? (i := 148) (by decide +kernel)) rfl⟩
abbrev MX8_settle : aw_M := (yX8_settle, cX8_settle, 2, none)
set_option maxRecDepth 20000 in
theorem cbX8_settle : aw_CB MX8_settle 0 := ⟨List.mem_of_getElem? (i := 754) rfl, ⟨by decide, by decide, by decide +kernel⟩, aw_inG (List.mem_of_getElem? (i := 90) (by decide +kernel)) rfl, by decide⟩
theorem ciX8_settle : Cond.instanceMethod MX8_settle.1 ∈ aw_G ∧ Cond.selects MX8_settle.1.cls MX8_settle.1 MX8_settle.1 ∈ aw_G := ⟨aw_inG (List.mem_of_getElem? (i := 752) (by decide +kernel)) rfl, aw_inG (List.mem_of_getElem? (i := 753) (by decide +kernel)) rfl⟩
theorem cv_RX11_191 : aw_CV RX11 191 MX8_settle 0 := ⟨cbX8_settle, aw_inG (List.mem_of_getElem? (i := 751) (by decide +kernel)) rfl, ciX8_settle.1, ciX8_settle.2⟩
theorem fl_RX8_12 : aw_FL RX8 12 8 1 := ⟨RX8, TX8, 8, rfl, by decide, fG_8, aw_inG (List.mem_of_getElem? (i := 235) (by decide +kernel)) rfl⟩
abbrev MX2_clear : aw_M := (yX2_clear, cX2_clear, 1, none)
set_option maxRecDepth 20000 in
theorem cbX2_clear : aw_CB MX2_clear 0 := ⟨List.mem_of_getElem? (i := 718) rfl, ⟨by decide, by decide, by decide +kernel⟩, aw_inG (List.mem_of_getElem? (i := 91) (by decide +kernel)) rfl, by decide⟩
theorem ciX2_clear : Cond.instanceMethod MX2_clear.1 ∈ aw_G ∧ Cond.selects MX2_clear.1.cls MX2_clear.1 MX2_clear.1 ∈ aw_G := ⟨aw_inG (List.mem_of_getElem? (i := 716) (by decide +kernel)) rfl, aw_inG (List.mem_of_getElem? (i := 717) (by decide +kernel)) rfl⟩
theorem cv_RX8_39 : aw_CV RX8 39 MX2_clear 0 := ⟨cbX2_clear, aw_inG (List.mem_of_getElem? (i := 755) (by decide +kernel)) rfl, ciX2_clear.1, ciX2_clear.2⟩
theorem fG_2 : ∀ w ∈ u_ws RX2 TX2 3, w ∈ aw_G := aw_in_all [227, 229, 231] (by decide +kernel) (by decide +kernel)
theorem fp_RX2_18 : aw_FP RX2 18 2 2 .int := ⟨RX2, TX2, 3, tyX2, rfl, by decide, fG_2, aw_inG (List.mem_of_getElem? (i := 226) (by decide +kernel)) rfl, tyX2_ok, nmX2, rfl, rfl⟩
abbrev MX2_holder : aw_M := (yX2_holder, cX2_holder, 4, some .int)
set_option maxRecDepth 20000 in
theorem cbX2_holder : aw_CB MX2_holder 2 := ⟨List.mem_of_getElem? (i := 726) rfl, ⟨by decide, by decide, by decide +kernel⟩, aw_inG (List.mem_of_getElem? (i := 91) (by decide +kernel)) rfl, by decide⟩
theorem ciX2_holder : Cond.instanceMethod MX2_holder.1 ∈ aw_G ∧ Cond.selects MX2_holder.1.cls MX2_holder.1 MX2_holder.1 ∈ aw_G := ⟨aw_inG (List.mem_of_getElem? (i := 724) (by decide +kernel)) rfl, aw_inG (List.mem_of_getElem? (i := 725) (by decide +kernel)) rfl⟩
theorem cv_RX8_46 : aw_CV RX8 46 MX2_holder 2 := ⟨cbX2_holder, aw_inG (List.mem_of_getElem? (i := 757) (by decide +kernel)) rfl, ciX2_holder.1, ciX2_holder.2⟩
theorem fl_RX2_18 : aw_FL RX2 18 2 2 := ⟨RX2, TX2, 3, rfl, by decide, fG_2, aw_inG (List.mem_of_getElem? (i := 226) (by decide +kernel)) rfl⟩
theorem fl_RX2_9 : aw_FL RX2 9 2 0 := ⟨RX2, TX2, 3, rfl, by decide, fG_2, aw_inG (List.mem_of_getElem? (i := 224) (by decide +kernel)) rfl⟩
abbrev MX2_alike : aw_M := (yX2_alike, cX2_alike, 3, some .boolean)
set_option maxRecDepth 20000 in
theorem cbX2_alike : aw_CB MX2_alike 2 := ⟨List.mem_of_getElem? (i := 730) rfl, ⟨by decide, by decide, by decide +kernel⟩, aw_inG (List.mem_of_getElem? (i := 91) (by decide +kernel)) rfl, by decide⟩
theorem ciX2_alike : Cond.instanceMethod MX2_alike.1 ∈ aw_G ∧ Cond.selects MX2_alike.1.cls MX2_alike.1 MX2_alike.1 ∈ aw_G := ⟨aw_inG (List.mem_of_getElem? (i := 729) (by decide +kernel)) rfl, aw_inG (List.mem_of_getElem? (i := 13) (by decide +kernel)) rfl⟩
theorem cv_RX2_22 : aw_CV RX2 22 MX2_alike 2 := ⟨cbX2_alike, aw_inG (List.mem_of_getElem? (i := 727) (by decide +kernel)) rfl, ciX2_alike.1, ciX2_alike.2⟩
theorem fl_RX2_15 : aw_FL RX2 15 2 1 := ⟨RX2, TX2, 3, rfl, by decide, fG_2, aw_inG (List.mem_of_getElem? (i := 225) (by decide +kernel)) rfl⟩
theorem fp_RX8_50 : aw_FP RX8 50 8 3 .int := ⟨RX8, TX8, 8, tyX8, rfl, by decide, fG_8, aw_inG (List.mem_of_getElem? (i := 241) (by decide +kernel)) rfl, tyX8_ok, nmX8, rfl, rfl⟩
abbrev MX2_firsts : aw_M := (yX2_firsts, cX2_firsts, 4, some .int)
set_option maxRecDepth 20000 in
theorem cbX2_firsts : aw_CB MX2_firsts 1 := ⟨List.mem_of_getElem? (i := 761) rfl, ⟨by decide, by decide, by decide +kernel⟩, aw_inG (List.mem_of_getElem? (i := 91) (by decide +kernel)) rfl, by decide⟩
theorem ciX2_firsts : Cond.instanceMethod MX2_firsts.1 ∈ aw_G ∧ Cond.selects MX2_firsts.1.cls MX2_firsts.1 MX2_firsts.1 ∈ aw_G := ⟨aw_inG (List.mem_of_getElem? (i := 759) (by decide +kernel)) rfl, aw_inG (List.mem_of_getElem? (i := 760) (by decide +kernel)) rfl⟩
theorem cv_RX8_52 : aw_CV RX8 52 MX2_firsts 1 := ⟨cbX2_firsts, aw_inG (List.mem_of_getElem? (i := 758) (by decide +kernel)) rfl, ciX2_firsts.1, ciX2_firsts.2⟩
theorem fp_RX8_55 : aw_FP RX8 55 8 5 .int := ⟨RX8, TX8, 8, tyX8, rfl, by decide, fG_8, aw_inG (List.mem_of_getElem? (i := 247) (by decide +kernel)) rfl, tyX8_ok, nmX8, rfl, rfl⟩
theorem fl_RX8_55 : aw_FL RX8 55 8 5 := ⟨RX8, TX8, 8, rfl, by decide, fG_8, aw_inG (List.mem_of_getElem? (i := 247) (by decide +kernel)) rfl⟩
abbrev MJ6_bitCount_0f7a4 : aw_M := (yJ6_bitCount_0f7a4, cJ6_bitCount_0f7a4, 1, some .int)
set_option maxRecDepth 20000 in
theorem cbJ6_bitCount_0f7a4 : aw_CB MJ6_bitCount_0f7a4 1 := ⟨List.mem_of_getElem? (i := 764) rfl, ⟨by decide, by decide, by decide +kernel⟩, aw_inG (List.mem_of_getElem? (i := 110) (by decide +kernel)) rfl, by decide⟩
theorem cs_RX8_57 : aw_CS RX8 57 MJ6_bitCount_0f7a4 1 := ⟨cbJ6_bitCount_0f7a4, aw_inG (List.mem_of_getElem? (i := 762) (by decide +kernel)) rfl, aw_inG (List.mem_of_getElem? (i := 763) (by decide +kernel)) rfl⟩
theorem cn_RJ6_265 : Cond.constant RJ6 265 (Int32.ofInt 1431655765) ∈ aw_G := aw_inG (List.mem_of_getElem? (i := 765) (by decide +kernel)) rfl
theorem cn_RJ6_266 : Cond.constant RJ6 266 (Int32.ofInt 858993459) ∈ aw_G := aw_inG (List.mem_of_getElem? (i := 766) (by decide +kernel)) rfl
theorem cn_RJ6_267 : Cond.constant RJ6 267 (Int32.ofInt 252645135) ∈ aw_G := aw_inG (List.mem_of_getElem? (i := 767) (by decide +kernel)) rfl
theorem fp_RX8_65 : aw_FP RX8 65 8 6 .int := ⟨RX8, TX8, 8, tyX8, rfl, by decide, fG_8, aw_inG (List.mem_of_getElem? (i := 249) (by decide +kernel)) rfl, tyX8_ok, nmX8, rfl, rfl⟩
theorem fl_RX8_50 : aw_FL RX8 50 8 3 := ⟨RX8, TX8, 8, rfl, by decide, fG_8, aw_inG (List.mem_of_getElem? (i := 241) (by decide +kernel)) rfl⟩
abbrev MX8_price : aw_M := (yX8_price, cX8_price, 3, some .int)
set_option maxRecDepth 20000 in
theorem cbX8_price : aw_CB MX8_price 1 := ⟨List.mem_of_getElem? (i := 775) rfl, ⟨by decide, by decide, by decide +kernel⟩, aw_inG (List.mem_of_getElem? (i := 90) (by decide +kernel)) rfl, by decide⟩
theorem ciX8_price : Cond.instanceMethod MX8_price.1 ∈ aw_G ∧ Cond.selects MX8_price.1.cls MX8_price.1 MX8_price.1 ∈ aw_G := ⟨aw_inG (List.mem_of_getElem? (i := 774) (by decide +kernel)) rfl, aw_inG (List.mem_of_getElem? (i := 14) (by decide +kernel)) rfl⟩
theorem cv_RX8_68 : aw_CV RX8 68 MX8_price 1 := ⟨cbX8_price, aw_inG (List.mem_of_getElem? (i := 772) (by decide +kernel)) rfl, ciX8_price.1, ciX8_price.2⟩
abbrev MX2_scoreAt : aw_M := (yX2_scoreAt, cX2_scoreAt, 3, some .int)
set_option maxRecDepth 20000 in
theorem cbX2_scoreAt : aw_CB MX2_scoreAt 2 := ⟨List.mem_of_getElem? (i := 779) rfl, ⟨by decide, by decide, by decide +kernel⟩, aw_inG (List.mem_of_getElem? (i := 91) (by decide +kernel)) rfl, by decide⟩
theorem ciX2_scoreAt : Cond.instanceMethod MX2_scoreAt.1 ∈ aw_G ∧ Cond.selects MX2_scoreAt.1.cls MX2_scoreAt.1 MX2_scoreAt.1 ∈ aw_G := ⟨aw_inG (List.mem_of_getElem? (i := 777) (by decide +kernel)) rfl, aw_inG (List.mem_of_getElem? (i := 778) (by decide +kernel)) rfl⟩
theorem cv_RX8_74 : aw_CV RX8 74 MX2_scoreAt 2 := ⟨cbX2_scoreAt, aw_inG (List.mem_of_getElem? (i := 776) (by decide +kernel)) rfl, ciX2_scoreAt.1, ciX2_scoreAt.2⟩
theorem fp_RX8_71 : aw_FP RX8 71 8 4 .int := ⟨RX8, TX8, 8, tyX8, rfl, by decide, fG_8, aw_inG (List.mem_of_getElem? (i := 245) (by decide +kernel)) rfl, tyX8_ok, nmX8, rfl, rfl⟩
abbrev MX2_whoAt : aw_M := (yX2_whoAt, cX2_whoAt, 2, some .int)
set_option maxRecDepth 20000 in
theorem cbX2_whoAt : aw_CB MX2_whoAt 1 := ⟨List.mem_of_getElem? (i := 771) rfl, ⟨by decide, by decide, by decide +kernel⟩, aw_inG (List.mem_of_getElem? (i := 91) (by decide +kernel)) rfl, by decide⟩
theorem ciX2_whoAt : Cond.instanceMethod MX2_whoAt.1 ∈ aw_G ∧ Cond.selects MX2_whoAt.1.cls MX2_whoAt.1 MX2_whoAt.1 ∈ aw_G := ⟨aw_inG (List.mem_of_getElem? (i := 769) (by decide +kernel)) rfl, aw_inG (List.mem_of_getElem? (i := 770) (by decide +kernel)) rfl⟩
theorem cv_RX8_62 : aw_CV RX8 62 MX2_whoAt 1 := ⟨cbX2_whoAt, aw_inG (List.mem_of_getElem? (i := 768) (by decide +kernel)) rfl, ciX2_whoAt.1, ciX2_whoAt.2⟩
abbrev MX2_enter : aw_M := (yX2_enter, cX2_enter, 4, none)
set_option maxRecDepth 20000 in
theorem cbX2_enter : aw_CB MX2_enter 2 := ⟨List.mem_of_getElem? (i := 722) rfl, ⟨by decide, by decide, by decide +kernel⟩, aw_inG (List.mem_of_getElem? (i := 91) (by decide +kernel)) rfl, by decide⟩
theorem ciX2_enter : Cond.instanceMethod MX2_enter.1 ∈ aw_G ∧ Cond.selects MX2_enter.1.cls MX2_enter.1 MX2_enter.1 ∈ aw_G := ⟨aw_inG (List.mem_of_getElem? (i := 720) (by decide +kernel)) rfl, aw_inG (List.mem_of_getElem? (i := 721) (by decide +kernel)) rfl⟩
theorem cv_RX8_42 : aw_CV RX8 42 MX2_enter 2 := ⟨cbX2_enter, aw_inG (List.mem_of_getElem? (i := 756) (by decide +kernel)) rfl, ciX2_enter.1, ciX2_enter.2⟩
abbrev MX8_takings : aw_M := (yX8_takings, cX8_takings, 1, some .int)
set_option maxRecDepth 20000 in
theorem cbX8_takings : aw_CB MX8_takings 0 := ⟨List.mem_of_getElem? (i := 783) rfl, ⟨by decide, by decide, by decide +kernel⟩, aw_inG (List.mem_of_getElem? (i := 90) (by decide +kernel)) rfl, by decide⟩
theorem ciX8_takings : Cond.instanceMethod MX8_takings.1 ∈ aw_G ∧ Cond.selects MX8_takings.1.cls MX8_takings.1 MX8_takings.1 ∈ aw_G := ⟨aw_inG (List.mem_of_getElem? (i := 781) (by decide +kernel)) rfl, aw_inG (List.mem_of_getElem? (i := 782) (by decide +kernel)) rfl⟩
theorem cv_RX11_202 : aw_CV RX11 202 MX8_takings 0 := ⟨cbX8_takings, aw_inG (List.mem_of_getElem? (i := 780) (by decide +kernel)) rfl, ciX8_takings.1, ciX8_takings.2⟩
theorem fl_RX8_71 : aw_FL RX8 71 8 4 := ⟨RX8, TX8, 8, rfl, by decide, fG_8, aw_inG (List.mem_of_getElem? (i := 245) (by decide +kernel)) rfl⟩
theorem fl_RX11_199 : aw_FL RX11 199 8 5 := ⟨RX8, TX8, 8, rfl, by decide, fG_8, aw_inG (List.mem_of_getElem? (i := 248) (by decide +kernel)) rfl⟩
theorem fl_RX11_196 : aw_FL RX11 196 8 4 := ⟨RX8, TX8, 8, rfl, by decide, fG_8, aw_inG (List.mem_of_getElem? (i := 246) (by decide +kernel)) rfl⟩
theorem fl_RX11_194 : aw_FL RX11 194 8 3 := ⟨RX8, TX8, 8, rfl, by decide, fG_8, aw_inG (List.mem_of_getElem? (i := 244) (by decide +kernel)) rfl⟩
abbrev MX11_isSmall : aw_M := (yX11_isSmall, cX11_isSmall, 1, some .boolean)
set_option maxRecDepth 20000 in
theorem cbX11_isSmall : aw_CB MX11_isSmall 0 := ⟨List.mem_of_getElem? (i := 800) rfl, ⟨by decide, by decide, by decide +kernel⟩, aw_inG (List.mem_of_getElem? (i := 86) (by decide +kernel)) rfl, by decide⟩
theorem ciX11_isSmall : Cond.instanceMethod MX11_isSmall.1 ∈ aw_G ∧ Cond.selects MX11_isSmall.1.cls MX11_isSmall.1 MX11_isSmall.1 ∈ aw_G := ⟨aw_inG (List.mem_of_getElem? (i := 799) (by decide +kernel)) rfl, aw_inG (List.mem_of_getElem? (i := 15) (by decide +kernel)) rfl⟩
theorem cv_RX11_208 : aw_CV RX11 208 MX11_isSmall 0 := ⟨cbX11_isSmall, aw_inG (List.mem_of_getElem? (i := 797) (by decide +kernel)) rfl, ciX11_isSmall.1, ciX11_isSmall.2⟩
theorem fl_RX11_136 : aw_FL RX11 136 1 4 := ⟨RX1, TX1, 5, rfl, by decide, fG_1, aw_inG (List.mem_of_getElem? (i := 168) (by decide +kernel)) rfl⟩
abbrev MX1_holds : aw_M := (yX1_holds, cX1_holds, 2, some .boolean)
set_option maxRecDepth 20000 in
theorem cbX1_holds : aw_CB MX1_holds 1 := ⟨List.mem_of_getElem? (i := 645) rfl, ⟨by decide, by decide, by decide +kernel⟩, aw_inG (List.mem_of_getElem? (i := 88) (by decide +kernel)) rfl, by decide⟩
theorem ciX1_holds : Cond.instanceMethod MX1_holds.1 ∈ aw_G ∧ Cond.selects MX1_holds.1.cls MX1_holds.1 MX1_holds.1 ∈ aw_G := ⟨aw_inG (List.mem_of_getElem? (i := 643) (by decide +kernel)) rfl, aw_inG (List.mem_of_getElem? (i := 644) (by decide +kernel)) rfl⟩
theorem cv_RX11_137 : aw_CV RX11 137 MX1_holds 1 := ⟨cbX1_holds, aw_inG (List.mem_of_getElem? (i := 642) (by decide +kernel)) rfl, ciX1_holds.1, ciX1_holds.2⟩
theorem fl_RX1_21 : aw_FL RX1 21 1 4 := ⟨RX1, TX1, 5, rfl, by decide, fG_1, aw_inG (List.mem_of_getElem? (i := 161) (by decide +kernel)) rfl⟩
theorem fl_RX11_47 : aw_FL RX11 47 11 5 := ⟨RX11, TX11, 15, rfl, by decide, fG_11, aw_inG (List.mem_of_getElem? (i := 463) (by decide +kernel)) rfl⟩
abbrev MX4_boldest : aw_M := (yX4_boldest, cX4_boldest, 5, some .int)
set_option maxRecDepth 20000 in
theorem cbX4_boldest : aw_CB MX4_boldest 1 := ⟨List.mem_of_getElem? (i := 1068) rfl, ⟨by decide, by decide, by decide +kernel⟩, aw_inG (List.mem_of_getElem? (i := 92) (by decide +kernel)) rfl, by decide⟩
theorem ciX4_boldest : Cond.instanceMethod MX4_boldest.1 ∈ aw_G ∧ Cond.selects MX4_boldest.1.cls MX4_boldest.1 MX4_boldest.1 ∈ aw_G := ⟨aw_inG (List.mem_of_getElem? (i := 1066) (by decide +kernel)) rfl, aw_inG (List.mem_of_getElem? (i := 1067) (by decide +kernel)) rfl⟩
theorem cv_RX11_310 : aw_CV RX11 310 MX4_boldest 1 := ⟨cbX4_boldest, aw_inG (List.mem_of_getElem? (i := 1065) (by decide +kernel)) rfl, ciX4_boldest.1, ciX4_boldest.2⟩
theorem fG_4 : ∀ w ∈ u_ws RX4 TX4 9, w ∈ aw_G := aw_in_all [292, 294, 296, 298, 300, 302, 304, 306, 308] (by decide +kernel) (by decide +kernel)
theorem fl_RX4_9 : aw_FL RX4 9 4 0 := ⟨RX4, TX4, 9, rfl, by decide, fG_4, aw_inG (List.mem_of_getElem? (i := 276) (by decide +kernel)) rfl⟩
theorem fl_RX4_92 : aw_FL RX4 92 1 1 := ⟨RX1, TX1, 5, rfl, by decide, fG_1, aw_inG (List.mem_of_getElem? (i := 153) (by decide +kernel)) rfl⟩
abbrev MX4_against : aw_M := (yX4_against, cX4_against, 6, none)
set_option maxRecDepth 20000 in
theorem cbX4_against : aw_CB MX4_against 2 := ⟨List.mem_of_getElem? (i := 1059) rfl, ⟨by decide, by decide, by decide +kernel⟩, aw_inG (List.mem_of_getElem? (i := 92) (by decide +kernel)) rfl, by decide⟩
theorem ciX4_against : Cond.instanceMethod MX4_against.1 ∈ aw_G ∧ Cond.selects MX4_against.1.cls MX4_against.1 MX4_against.1 ∈ aw_G := ⟨aw_inG (List.mem_of_getElem? (i := 1057) (by decide +kernel)) rfl, aw_inG (List.mem_of_getElem? (i := 1058) (by decide +kernel)) rfl⟩
theorem cv_RX4_95 : aw_CV RX4 95 MX4_against 2 := ⟨cbX4_against, aw_inG (List.mem_of_getElem? (i := 1069) (by decide +kernel)) rfl, ciX4_against.1, ciX4_against.2⟩
theorem fp_RX4_80 : aw_FP RX4 80 4 7 .int := ⟨RX4, TX4, 9, tyX4, rfl, by decide, fG_4, aw_inG (List.mem_of_getElem? (i := 288) (by decide +kernel)) rfl, tyX4_ok, nmX4, rfl, rfl⟩
theorem fp_RX4_83 : aw_FP RX4 83 4 8 .int := ⟨RX4, TX4, 9, tyX4, rfl, by decide, fG_4, aw_inG (List.mem_of_getElem? (i := 290) (by decide +kernel)) rfl, tyX4_ok, nmX4, rfl, rfl⟩
abbrev MX1_all : aw_M := (yX1_all, cX1_all, 1, some .int)
set_option maxRecDepth 20000 in
theorem cbX1_all : aw_CB MX1_all 0 := ⟨List.mem_of_getElem? (i := 815) rfl, ⟨by decide, by decide, by decide +kernel⟩, aw_inG (List.mem_of_getElem? (i := 88) (by decide +kernel)) rfl, by decide⟩
theorem ciX1_all : Cond.instanceMethod MX1_all.1 ∈ aw_G ∧ Cond.selects MX1_all.1.cls MX1_all.1 MX1_all.1 ∈ aw_G := ⟨aw_inG (List.mem_of_getElem? (i := 813) (by decide +kernel)) rfl, aw_inG (List.mem_of_getElem? (i := 814) (by decide +kernel)) rfl⟩
theorem cv_RX4_86 : aw_CV RX4 86 MX1_all 0 := ⟨cbX1_all, aw_inG (List.mem_of_getElem? (i := 1060) (by decide +kernel)) rfl, ciX1_all.1, ciX1_all.2⟩
theorem fl_RX4_15 : aw_FL RX4 15 4 1 := ⟨RX4, TX4, 9, rfl, by decide, fG_4, aw_inG (List.mem_of_getElem? (i := 277) (by decide +kernel)) rfl⟩
abbrev MX8_lowest : aw_M := (yX8_lowest, cX8_lowest, 3, none)
set_option maxRecDepth 20000 in
theorem cbX8_lowest : aw_CB MX8_lowest 1 := ⟨List.mem_of_getElem? (i := 819) rfl, ⟨by decide, by decide, by decide +kernel⟩, aw_inG (List.mem_of_getElem? (i := 90) (by decide +kernel)) rfl, by decide⟩
theorem ciX8_lowest : Cond.instanceMethod MX8_lowest.1 ∈ aw_G ∧ Cond.selects MX8_lowest.1.cls MX8_lowest.1 MX8_lowest.1 ∈ aw_G := ⟨aw_inG (List.mem_of_getElem? (i := 817) (by decide +kernel)) rfl, aw_inG (List.mem_of_getElem? (i := 818) (by decide +kernel)) rfl⟩
theorem cv_RX4_51 : aw_CV RX4 51 MX8_lowest 1 := ⟨cbX8_lowest, aw_inG (List.mem_of_getElem? (i := 910) (by decide +kernel)) rfl, ciX8_lowest.1, ciX8_lowest.2⟩
theorem fl_RX4_34 : aw_FL RX4 34 8 2 := ⟨RX8, TX8, 8, rfl, by decide, fG_8, aw_inG (List.mem_of_getElem? (i := 238) (by decide +kernel)) rfl⟩
abbrev MX8_rowsOf : aw_M := (yX8_rowsOf, cX8_rowsOf, 4, some .int)
set_option maxRecDepth 20000 in
theorem cbX8_rowsOf : aw_CB MX8_rowsOf 1 := ⟨List.mem_of_getElem? (i := 823) rfl, ⟨by decide, by decide, by decide +kernel⟩, aw_inG (List.mem_of_getElem? (i := 90) (by decide +kernel)) rfl, by decide⟩
theorem ciX8_rowsOf : Cond.instanceMethod MX8_rowsOf.1 ∈ aw_G ∧ Cond.selects MX8_rowsOf.1.cls MX8_rowsOf.1 MX8_rowsOf.1 ∈ aw_G := ⟨aw_inG (List.mem_of_getElem? (i := 821) (by decide +kernel)) rfl, aw_inG (List.mem_of_getElem? (i := 822) (by decide +kernel)) rfl⟩
theorem cv_RX4_55 : aw_CV RX4 55 MX8_rowsOf 1 := ⟨cbX8_rowsOf, aw_inG (List.mem_of_getElem? (i := 911) (by decide +kernel)) rfl, ciX8_rowsOf.1, ciX8_rowsOf.2⟩
theorem cv_RX4_58 : aw_CV RX4 58 MX8_settle 0 := ⟨cbX8_settle, aw_inG (List.mem_of_getElem? (i := 912) (by decide +kernel)) rfl, ciX8_settle.1, ciX8_settle.2⟩
theorem fl_RX4_80 : aw_FL RX4 80 4 7 := ⟨RX4, TX4, 9, rfl, by decide, fG_4, aw_inG (List.mem_of_getElem? (i := 288) (by decide +kernel)) rfl⟩
theorem fl_RX4_89 : aw_FL RX4 89 8 3 := ⟨RX8, TX8, 8, rfl, by decide, fG_8, aw_inG (List.mem_of_getElem? (i := 242) (by decide +kernel)) rfl⟩
theorem fl_RX4_83 : aw_FL RX4 83 4 8 := ⟨RX4, TX4, 9, rfl, by decide, fG_4, aw_inG (List.mem_of_getElem? (i := 290) (by decide +kernel)) rfl⟩
abbrev MX8_gainOf : aw_M := (yX8_gainOf, cX8_gainOf, 3, some .int)
set_option maxRecDepth 20000 in
theorem cbX8_gainOf : aw_CB MX8_gainOf 1 := ⟨List.mem_of_getElem? (i := 791) rfl, ⟨by decide, by decide, by decide +kernel⟩, aw_inG (List.mem_of_getElem? (i := 90) (by decide +kernel)) rfl, by decide⟩
theorem ciX8_gainOf : Cond.instanceMethod MX8_gainOf.1 ∈ aw_G ∧ Cond.selects MX8_gainOf.1.cls MX8_gainOf.1 MX8_gainOf.1 ∈ aw_G := ⟨aw_inG (List.mem_of_getElem? (i := 789) (by decide +kernel)) rfl, aw_inG (List.mem_of_getElem? (i := 790) (by decide +kernel)) rfl⟩
theorem cv_RX4_77 : aw_CV RX4 77 MX8_gainOf 1 := ⟨cbX8_gainOf, aw_inG (List.mem_of_getElem? (i := 917) (by decide +kernel)) rfl, ciX8_gainOf.1, ciX8_gainOf.2⟩
abbrev MX1_item : aw_M := (yX1_item, cX1_item, 3, some .int)
set_option maxRecDepth 20000 in
theorem cbX1_item : aw_CB MX1_item 2 := ⟨List.mem_of_getElem? (i := 675) rfl, ⟨by decide, by decide, by decide +kernel⟩, aw_inG (List.mem_of_getElem? (i := 88) (by decide +kernel)) rfl, by decide⟩
theorem ciX1_item : Cond.instanceMethod MX1_item.1 ∈ aw_G ∧ Cond.selects MX1_item.1.cls MX1_item.1 MX1_item.1 ∈ aw_G := ⟨aw_inG (List.mem_of_getElem? (i := 673) (by decide +kernel)) rfl, aw_inG (List.mem_of_getElem? (i := 674) (by decide +kernel)) rfl⟩
theorem cv_RX8_77 : aw_CV RX8 77 MX1_item 2 := ⟨cbX1_item, aw_inG (List.mem_of_getElem? (i := 792) (by decide +kernel)) rfl, ciX1_item.1, ciX1_item.2⟩
theorem cv_RX1_29 : aw_CV RX1 29 MX1_holds 1 := ⟨cbX1_holds, aw_inG (List.mem_of_getElem? (i := 676) (by decide +kernel)) rfl, ciX1_holds.1, ciX1_holds.2⟩
theorem fl_RX1_9 : aw_FL RX1 9 1 0 := ⟨RX1, TX1, 5, rfl, by decide, fG_1, aw_inG (List.mem_of_getElem? (i := 146) (by decide +kernel)) rfl⟩
abbrev MX8_next : aw_M := (yX8_next, cX8_next, 3, none)
set_option maxRecDepth 20000 in
theorem cbX8_next : aw_CB MX8_next 1 := ⟨List.mem_of_getElem? (i := 836) rfl, ⟨by decide, by decide, by decide +kernel⟩, aw_inG (List.mem_of_getElem? (i := 90) (by decide +kernel)) rfl, by decide⟩
theorem ciX8_next : Cond.instanceMethod MX8_next.1 ∈ aw_G ∧ Cond.selects MX8_next.1.cls MX8_next.1 MX8_next.1 ∈ aw_G := ⟨aw_inG (List.mem_of_getElem? (i := 834) (by decide +kernel)) rfl, aw_inG (List.mem_of_getElem? (i := 835) (by decide +kernel)) rfl⟩
theorem cv_RX4_74 : aw_CV RX4 74 MX8_next 1 := ⟨cbX8_next, aw_inG (List.mem_of_getElem? (i := 919) (by decide +kernel)) rfl, ciX8_next.1, ciX8_next.2⟩
abbrev MX11_mayRun : aw_M := (yX11_mayRun, cX11_mayRun, 2, some .boolean)
set_option maxRecDepth 20000 in
theorem cbX11_mayRun : aw_CB MX11_mayRun 2 := ⟨List.mem_of_getElem? (i := 656) rfl, ⟨by decide, by decide, by decide +kernel⟩, aw_inG (List.mem_of_getElem? (i := 86) (by decide +kernel)) rfl, by decide⟩
theorem cs_RX11_161 : aw_CS RX11 161 MX11_mayRun 2 := ⟨cbX11_mayRun, aw_inG (List.mem_of_getElem? (i := 654) (by decide +kernel)) rfl, aw_inG (List.mem_of_getElem? (i := 655) (by decide +kernel)) rfl⟩
theorem fl_RX11_63 : aw_FL RX11 63 11 7 := ⟨RX11, TX11, 15, rfl, by decide, fG_11, aw_inG (List.mem_of_getElem? (i := 465) (by decide +kernel)) rfl⟩
abbrev MX3_rulesAsTold : aw_M := (yX3_rulesAsTold, cX3_rulesAsTold, 1, none)
set_option maxRecDepth 20000 in
theorem cbX3_rulesAsTold : aw_CB MX3_rulesAsTold 0 := ⟨List.mem_of_getElem? (i := 661) rfl, ⟨by decide, by decide, by decide +kernel⟩, aw_inG (List.mem_of_getElem? (i := 94) (by decide +kernel)) rfl, by decide⟩
theorem ciX3_rulesAsTold : Cond.instanceMethod MX3_rulesAsTold.1 ∈ aw_G ∧ Cond.selects MX3_rulesAsTold.1.cls MX3_rulesAsTold.1 MX3_rulesAsTold.1 ∈ aw_G := ⟨aw_inG (List.mem_of_getElem? (i := 659) (by decide +kernel)) rfl, aw_inG (List.mem_of_getElem? (i := 660) (by decide +kernel)) rfl⟩
theorem cv_RX11_166 : aw_CV RX11 166 MX3_rulesAsTold 0 := ⟨cbX3_rulesAsTold, aw_inG (List.mem_of_getElem? (i := 658) (by decide +kernel)) rfl, ciX3_rulesAsTold.1, ciX3_rulesAsTold.2⟩
theorem fG_3 : ∀ w ∈ u_ws RX3 TX3 9, w ∈ aw_G := aw_in_all [369, 371, 373, 375, 377, 379, 381, 383, 385] (by decide +kernel) (by decide +kernel)
theorem fl_RX3_31 : aw_FL RX3 31 3 0 := ⟨RX3, TX3, 9, rfl, by decide, fG_3, aw_inG (List.mem_of_getElem? (i := 355) (by decide +kernel)) rfl⟩
theorem fl_RX3_39 : aw_FL RX3 39 1 2 := ⟨RX1, TX1, 5, rfl, by decide, fG_1, aw_inG (List.mem_of_getElem? (i := 157) (by decide +kernel)) rfl⟩
theorem fl_RX3_18 : aw_FL RX3 18 3 3 := ⟨RX3, TX3, 9, rfl, by decide, fG_3, aw_inG (List.mem_of_getElem? (i := 358) (by decide +kernel)) rfl⟩
theorem cc_RX3_42 : aw_CC RX3 42 := ⟨aw_inG (List.mem_of_getElem? (i := 662) (by decide +kernel)) rfl, aw_inG (List.mem_of_getElem? (i := 531) (by decide +kernel)) rfl, aw_inG (List.mem_of_getElem? (i := 530) (by decide +kernel)) rfl, aw_inG (List.mem_of_getElem? (i := 99) (by decide +kernel)) rfl⟩
abbrev MX3_go : aw_M := (yX3_go, cX3_go, 6, none)
set_option maxRecDepth 20000 in
theorem cbX3_go : aw_CB MX3_go 3 := ⟨List.mem_of_getElem? (i := 666) rfl, ⟨by decide, by decide, by decide +kernel⟩, aw_inG (List.mem_of_getElem? (i := 94) (by decide +kernel)) rfl, by decide⟩
theorem ciX3_go : Cond.instanceMethod MX3_go.1 ∈ aw_G ∧ Cond.selects MX3_go.1.cls MX3_go.1 MX3_go.1 ∈ aw_G := ⟨aw_inG (List.mem_of_getElem? (i := 664) (by decide +kernel)) rfl, aw_inG (List.mem_of_getElem? (i := 665) (by decide +kernel)) rfl⟩
theorem cv_RX11_169 : aw_CV RX11 169 MX3_go 3 := ⟨cbX3_go, aw_inG (List.mem_of_getElem? (i := 663) (by decide +kernel)) rfl, ciX3_go.1, ciX3_go.2⟩
theorem fl_RX3_22 : aw_FL RX3 22 3 4 := ⟨RX3, TX3, 9, rfl, by decide, fG_3, aw_inG (List.mem_of_getElem? (i := 360) (by decide +kernel)) rfl⟩
abbrev MJ7_fill_53178 : aw_M := (yJ7_fill_53178, cJ7_fill_53178, 4, none)
set_option maxRecDepth 20000 in
theorem cbJ7_fill_53178 : aw_CB MJ7_fill_53178 2 := ⟨List.mem_of_getElem? (i := 622) rfl, ⟨by decide, by decide, by decide +kernel⟩, aw_inG (List.mem_of_getElem? (i := 105) (by decide +kernel)) rfl, by decide⟩
theorem cs_RX3_48 : aw_CS RX3 48 MJ7_fill_53178 2 := ⟨cbJ7_fill_53178, aw_inG (List.mem_of_getElem? (i := 667) (by decide +kernel)) rfl, aw_inG (List.mem_of_getElem? (i := 621) (by decide +kernel)) rfl⟩
theorem fl_RX3_25 : aw_FL RX3 25 3 5 := ⟨RX3, TX3, 9, rfl, by decide, fG_3, aw_inG (List.mem_of_getElem? (i := 362) (by decide +kernel)) rfl⟩
theorem fp_RX3_54 : aw_FP RX3 54 3 7 .int := ⟨RX3, TX3, 9, tyX3, rfl, by decide, fG_3, aw_inG (List.mem_of_getElem? (i := 365) (by decide +kernel)) rfl, tyX3_ok, nmX3, rfl, rfl⟩
theorem fp_RX3_58 : aw_FP RX3 58 3 8 .int := ⟨RX3, TX3, 9, tyX3, rfl, by decide, fG_3, aw_inG (List.mem_of_getElem? (i := 367) (by decide +kernel)) rfl, tyX3_ok, nmX3, rfl, rfl⟩
theorem fl_RX3_54 : aw_FL RX3 54 3 7 := ⟨RX3, TX3, 9, rfl, by decide, fG_3, aw_inG (List.mem_of_getElem? (i := 365) (by decide +kernel)) rfl⟩
theorem fl_RX3_61 : aw_FL RX3 61 1 4 := ⟨RX1, TX1, 5, rfl, by decide, fG_1, aw_inG (List.mem_of_getElem? (i := 166) (by decide +kernel)) rfl⟩
abbrev MX3_walk : aw_M := (yX3_walk, cX3_walk, 4, none)
set_option maxRecDepth 20000 in
theorem cbX3_walk : aw_CB MX3_walk 2 := ⟨List.mem_of_getElem? (i := 706) rfl, ⟨by decide, by decide, by decide +kernel⟩, aw_inG (List.mem_of_getElem? (i := 94) (by decide +kernel)) rfl, by decide⟩
theorem ciX3_walk : Cond.instanceMethod MX3_walk.1 ∈ aw_G ∧ Cond.selects MX3_walk.1.cls MX3_walk.1 MX3_walk.1 ∈ aw_G := ⟨aw_inG (List.mem_of_getElem? (i := 705) (by decide +kernel)) rfl, aw_inG (List.mem_of_getElem? (i := 11) (by decide +kernel)) rfl⟩
theorem cv_RX3_68 : aw_CV RX3 68 MX3_walk 2 := ⟨cbX3_walk, aw_inG (List.mem_of_getElem? (i := 703) (by decide +kernel)) rfl, ciX3_walk.1, ciX3_walk.2⟩
theorem fl_RX3_28 : aw_FL RX3 28 3 6 := ⟨RX3, TX3, 9, rfl, by decide, fG_3, aw_inG (List.mem_of_getElem? (i := 364) (by decide +kernel)) rfl⟩
theorem cy_mmin : Cond.static Lib.Math.min.name ∈ aw_G ∧ Cond.initialized "java/lang/Math" ∈ aw_G ∧ Cond.code Lib.Math.min.name Lib.Math.min.code 2 (some .int) ∈ aw_G := ⟨aw_inG (List.mem_of_getElem? (i := 698) (by decide +kernel)) rfl, aw_inG (List.mem_of_getElem? (i := 104) (by decide +kernel)) rfl, aw_inG (List.mem_of_getElem? (i := 699) (by decide +kernel)) rfl⟩
theorem cm_RX3_85 : aw_CM RX3 85 Lib.Math.min.name Lib.Math.min.code 2 (some .int) := ⟨aw_inG (List.mem_of_getElem? (i := 697) (by decide +kernel)) rfl, cy_mmin⟩
abbrev MX3_stepsOf : aw_M := (yX3_stepsOf, cX3_stepsOf, 8, some .int)
set_option maxRecDepth 20000 in
theorem cbX3_stepsOf : aw_CB MX3_stepsOf 4 := ⟨List.mem_of_getElem? (i := 671) rfl, ⟨by decide, by decide, by decide +kernel⟩, aw_inG (List.mem_of_getElem? (i := 94) (by decide +kernel)) rfl, by decide⟩
theorem ciX3_stepsOf : Cond.instanceMethod MX3_stepsOf.1 ∈ aw_G ∧ Cond.selects MX3_stepsOf.1.cls MX3_stepsOf.1 MX3_stepsOf.1 ∈ aw_G := ⟨aw_inG (List.mem_of_getElem? (i := 670) (by decide +kernel)) rfl, aw_inG (List.mem_of_getElem? (i := 9) (by decide +kernel)) rfl⟩
theorem cv_RX3_64 : aw_CV RX3 64 MX3_stepsOf 4 := ⟨cbX3_stepsOf, aw_inG (List.mem_of_getElem? (i := 668) (by decide +kernel)) rfl, ciX3_stepsOf.1, ciX3_stepsOf.2⟩
theorem fl_RX3_35 : aw_FL RX3 35 3 1 := ⟨RX3, TX3, 9, rfl, by decide, fG_3, aw_inG (List.mem_of_getElem? (i := 356) (by decide +kernel)) rfl⟩
theorem fG_7 : ∀ w ∈ u_ws RX7 TX7 7, w ∈ aw_G := aw_in_all [197, 199, 201, 203, 205, 207, 209] (by decide +kernel) (by decide +kernel)
theorem fl_RX3_72 : aw_FL RX3 72 7 4 := ⟨RX7, TX7, 7, rfl, by decide, fG_7, aw_inG (List.mem_of_getElem? (i := 193) (by decide +kernel)) rfl⟩
theorem cv_RX3_77 : aw_CV RX3 77 MX1_item 2 := ⟨cbX1_item, aw_inG (List.mem_of_getElem? (i := 672) (by decide +kernel)) rfl, ciX1_item.1, ciX1_item.2⟩
abbrev MX7_worth : aw_M := (yX7_worth, cX7_worth, 7, some .int)
set_option maxRecDepth 20000 in
theorem cbX7_worth : aw_CB MX7_worth 1 := ⟨List.mem_of_getElem? (i := 680) rfl, ⟨by decide, by decide, by decide +kernel⟩, aw_inG (List.mem_of_getElem? (i := 89) (by decide +kernel)) rfl, by decide⟩
theorem ciX7_worth : Cond.instanceMethod MX7_worth.1 ∈ aw_G ∧ Cond.selects MX7_worth.1.cls MX7_worth.1 MX7_worth.1 ∈ aw_G := ⟨aw_inG (List.mem_of_getElem? (i := 678) (by decide +kernel)) rfl, aw_inG (List.mem_of_getElem? (i := 679) (by decide +kernel)) rfl⟩
theorem cv_RX3_81 : aw_CV RX3 81 MX7_worth 1 := ⟨cbX7_worth, aw_inG (List.mem_of_getElem? (i := 677) (by decide +kernel)) rfl, ciX7_worth.1, ciX7_worth.2⟩
abbrev MX7_holds : aw_M := (yX7_holds, cX7_holds, 2, some .boolean)
set_option maxRecDepth 20000 in
theorem cbX7_holds : aw_CB MX7_holds 1 := ⟨List.mem_of_getElem? (i := 649) rfl, ⟨by decide, by decide, by decide +kernel⟩, aw_inG (List.mem_of_getElem? (i := 89) (by decide +kernel)) rfl, by decide⟩
theorem ciX7_holds : Cond.instanceMethod MX7_holds.1 ∈ aw_G ∧ Cond.selects MX7_holds.1.cls MX7_holds.1 MX7_holds.1 ∈ aw_G := ⟨aw_inG (List.mem_of_getElem? (i := 647) (by decide +kernel)) rfl, aw_inG (List.mem_of_getElem? (i := 648) (by decide +kernel)) rfl⟩
theorem cv_RX7_93 : aw_CV RX7 93 MX7_holds 1 := ⟨cbX7_holds, aw_inG (List.mem_of_getElem? (i := 681) (by decide +kernel)) rfl, ciX7_holds.1, ciX7_holds.2⟩
theorem fl_RX7_30 : aw_FL RX7 30 7 6 := ⟨RX7, TX7, 7, rfl, by decide, fG_7, aw_inG (List.mem_of_getElem? (i := 195) (by decide +kernel)) rfl⟩
theorem fl_RX7_15 : aw_FL RX7 15 7 1 := ⟨RX7, TX7, 7, rfl, by decide, fG_7, aw_inG (List.mem_of_getElem? (i := 189) (by decide +kernel)) rfl⟩
theorem fl_RX7_11 : aw_FL RX7 11 7 0 := ⟨RX7, TX7, 7, rfl, by decide, fG_7, aw_inG (List.mem_of_getElem? (i := 188) (by decide +kernel)) rfl⟩
abbrev MX7_apply : aw_M := (yX7_apply, cX7_apply, 3, some .int)
set_option maxRecDepth 20000 in
theorem cbX7_apply : aw_CB MX7_apply 2 := ⟨List.mem_of_getElem? (i := 685) rfl, ⟨by decide, by decide, by decide +kernel⟩, aw_inG (List.mem_of_getElem? (i := 89) (by decide +kernel)) rfl, by decide⟩
theorem ciX7_apply : Cond.instanceMethod MX7_apply.1 ∈ aw_G ∧ Cond.selects MX7_apply.1.cls MX7_apply.1 MX7_apply.1 ∈ aw_G := ⟨aw_inG (List.mem_of_getElem? (i := 684) (by decide +kernel)) rfl, aw_inG (List.mem_of_getElem? (i := 10) (by decide +kernel)) rfl⟩
theorem cv_RX7_96 : aw_CV RX7 96 MX7_apply 2 := ⟨cbX7_apply, aw_inG (List.mem_of_getElem? (i := 682) (by decide +kernel)) rfl, ciX7_apply.1, ciX7_apply.2⟩
theorem fs_RX7_24 : Cond.fieldLink RX7 24 "SecondHas$Rules" "LETTERS" "[I" ∈ aw_G := aw_inG (List.mem_of_getElem? (i := 186) (by decide +kernel)) rfl
theorem fl_RX7_21 : aw_FL RX7 21 7 3 := ⟨RX7, TX7, 7, rfl, by decide, fG_7, aw_inG (List.mem_of_getElem? (i := 191) (by decide +kernel)) rfl⟩
abbrev MX7_join : aw_M := (yX7_join, cX7_join, 5, some .int)
set_option maxRecDepth 20000 in
theorem cbX7_join : aw_CB MX7_join 3 := ⟨List.mem_of_getElem? (i := 688) rfl, ⟨by decide, by decide, by decide +kernel⟩, aw_inG (List.mem_of_getElem? (i := 89) (by decide +kernel)) rfl, by decide⟩
theorem cs_RX7_100 : aw_CS RX7 100 MX7_join 3 := ⟨cbX7_join, aw_inG (List.mem_of_getElem? (i := 686) (by decide +kernel)) rfl, aw_inG (List.mem_of_getElem? (i := 687) (by decide +kernel)) rfl⟩
theorem cl_RX7_104 : Cond.constantLong RX7 104 (Int64.ofInt (-1000000)) ∈ aw_G := aw_inG (List.mem_of_getElem? (i := 689) (by decide +kernel)) rfl
theorem cl_RX7_106 : Cond.constantLong RX7 106 (Int64.ofInt 1000000) ∈ aw_G := aw_inG (List.mem_of_getElem? (i := 690) (by decide +kernel)) rfl
theorem cy_mminL : Cond.static Lib.MathLoose.min_long.x ∈ aw_G ∧ Cond.initialized "java/lang/Math" ∈ aw_G ∧ Cond.code Lib.MathLoose.min_long.x Lib.MathLoose.min_long.code 4 (some .long) ∈ aw_G := ⟨aw_inG (List.mem_of_getElem? (i := 692) (by decide +kernel)) rfl, aw_inG (List.mem_of_getElem? (i := 104) (by decide +kernel)) rfl, aw_inG (List.mem_of_getElem? (i := 693) (by decide +kernel)) rfl⟩
theorem cm_RX7_108 : aw_CM RX7 108 Lib.MathLoose.min_long.x Lib.MathLoose.min_long.code 4 (some .long) := ⟨aw_inG (List.mem_of_getElem? (i := 691) (by decide +kernel)) rfl, cy_mminL⟩
theorem cy_mmaxL : Cond.static Lib.MathLoose.max_long.x ∈ aw_G ∧ Cond.initialized "java/lang/Math" ∈ aw_G ∧ Cond.code Lib.MathLoose.max_long.x Lib.MathLoose.max_long.code 4 (some .long) ∈ aw_G := ⟨aw_inG (List.mem_of_getElem? (i := 695) (by decide +kernel)) rfl, aw_inG (List.mem_of_getElem? (i := 104) (by decide +kernel)) rfl, aw_inG (List.mem_of_getElem? (i := 696) (by decide +kernel)) rfl⟩
theorem cm_RX7_114 : aw_CM RX7 114 Lib.MathLoose.max_long.x Lib.MathLoose.max_long.code 4 (some .long) := ⟨aw_inG (List.mem_of_getElem? (i := 694) (by decide +kernel)) rfl, cy_mmaxL⟩
theorem fl_RX7_27 : aw_FL RX7 27 7 4 := ⟨RX7, TX7, 7, rfl, by decide, fG_7, aw_inG (List.mem_of_getElem? (i := 192) (by decide +kernel)) rfl⟩
theorem cy_mmax : Cond.static Lib.Math.max.name ∈ aw_G ∧ Cond.initialized "java/lang/Math" ∈ aw_G ∧ Cond.code Lib.Math.max.name Lib.Math.max.code 2 (some .int) ∈ aw_G := ⟨aw_inG (List.mem_of_getElem? (i := 701) (by decide +kernel)) rfl, aw_inG (List.mem_of_getElem? (i := 104) (by decide +kernel)) rfl, aw_inG (List.mem_of_getElem? (i := 702) (by decide +kernel)) rfl⟩
theorem cm_RX3_90 : aw_CM RX3 90 Lib.Math.max.name Lib.Math.max.code 2 (some .int) := ⟨aw_inG (List.mem_of_getElem? (i := 700) (by decide +kernel)) rfl, cy_mmax⟩
theorem fl_RX11_182 : aw_FL RX11 182 3 5 := ⟨RX3, TX3, 9, rfl, by decide, fG_3, aw_inG (List.mem_of_getElem? (i := 363) (by decide +kernel)) rfl⟩
theorem fs_RX11_154 : Cond.fieldLink RX11 154 "SecondHas" "LAW_LOWS" "[I" ∈ aw_G := aw_inG (List.mem_of_getElem? (i := 636) (by decide +kernel)) rfl
theorem fs_RX11_157 : Cond.fieldLink RX11 157 "SecondHas" "LAW_HIGHS" "[I" ∈ aw_G := aw_inG (List.mem_of_getElem? (i := 637) (by decide +kernel)) rfl
abbrev MX4_couldHave : aw_M := (yX4_couldHave, cX4_couldHave, 4, some .int)
set_option maxRecDepth 20000 in
theorem cbX4_couldHave : aw_CB MX4_couldHave 0 := ⟨List.mem_of_getElem? (i := 1096) rfl, ⟨by decide, by decide, by decide +kernel⟩, aw_inG (List.mem_of_getElem? (i := 92) (by decide +kernel)) rfl, by decide⟩
theorem ciX4_couldHave : Cond.instanceMethod MX4_couldHave.1 ∈ aw_G ∧ Cond.selects MX4_couldHave.1.cls MX4_couldHave.1 MX4_couldHave.1 ∈ aw_G := ⟨aw_inG (List.mem_of_getElem? (i := 1094) (by decide +kernel)) rfl, aw_inG (List.mem_of_getElem? (i := 1095) (by decide +kernel)) rfl⟩
theorem cv_RX11_319 : aw_CV RX11 319 MX4_couldHave 0 := ⟨cbX4_couldHave, aw_inG (List.mem_of_getElem? (i := 1093) (by decide +kernel)) rfl, ciX4_couldHave.1, ciX4_couldHave.2⟩
theorem fl_RX4_29 : aw_FL RX4 29 1 4 := ⟨RX1, TX1, 5, rfl, by decide, fG_1, aw_inG (List.mem_of_getElem? (i := 164) (by decide +kernel)) rfl⟩
abbrev MX4_nearest : aw_M := (yX4_nearest, cX4_nearest, 6, some .int)
set_option maxRecDepth 20000 in
theorem cbX4_nearest : aw_CB MX4_nearest 1 := ⟨List.mem_of_getElem? (i := 1085) rfl, ⟨by decide, by decide, by decide +kernel⟩, aw_inG (List.mem_of_getElem? (i := 92) (by decide +kernel)) rfl, by decide⟩
theorem ciX4_nearest : Cond.instanceMethod MX4_nearest.1 ∈ aw_G ∧ Cond.selects MX4_nearest.1.cls MX4_nearest.1 MX4_nearest.1 ∈ aw_G := ⟨aw_inG (List.mem_of_getElem? (i := 1083) (by decide +kernel)) rfl, aw_inG (List.mem_of_getElem? (i := 1084) (by decide +kernel)) rfl⟩
theorem cv_RX4_104 : aw_CV RX4 104 MX4_nearest 1 := ⟨cbX4_nearest, aw_inG (List.mem_of_getElem? (i := 1097) (by decide +kernel)) rfl, ciX4_nearest.1, ciX4_nearest.2⟩
abbrev MX8_gainWith : aw_M := (yX8_gainWith, cX8_gainWith, 3, some .int)
set_option maxRecDepth 20000 in
theorem cbX8_gainWith : aw_CB MX8_gainWith 2 := ⟨List.mem_of_getElem? (i := 844) rfl, ⟨by decide, by decide, by decide +kernel⟩, aw_inG (List.mem_of_getElem? (i := 90) (by decide +kernel)) rfl, by decide⟩
theorem ciX8_gainWith : Cond.instanceMethod MX8_gainWith.1 ∈ aw_G ∧ Cond.selects MX8_gainWith.1.cls MX8_gainWith.1 MX8_gainWith.1 ∈ aw_G := ⟨aw_inG (List.mem_of_getElem? (i := 842) (by decide +kernel)) rfl, aw_inG (List.mem_of_getElem? (i := 843) (by decide +kernel)) rfl⟩
theorem cv_RX4_40 : aw_CV RX4 40 MX8_gainWith 2 := ⟨cbX8_gainWith, aw_inG (List.mem_of_getElem? (i := 883) (by decide +kernel)) rfl, ciX8_gainWith.1, ciX8_gainWith.2⟩
theorem cv_RX8_80 : aw_CV RX8 80 MX8_settle 0 := ⟨cbX8_settle, aw_inG (List.mem_of_getElem? (i := 845) (by decide +kernel)) rfl, ciX8_settle.1, ciX8_settle.2⟩
theorem cv_RX8_83 : aw_CV RX8 83 MX8_gainOf 1 := ⟨cbX8_gainOf, aw_inG (List.mem_of_getElem? (i := 846) (by decide +kernel)) rfl, ciX8_gainOf.1, ciX8_gainOf.2⟩
theorem cy_mabs : Cond.static Lib.Math.abs.name ∈ aw_G ∧ Cond.initialized "java/lang/Math" ∈ aw_G ∧ Cond.code Lib.Math.abs.name Lib.Math.abs.code 1 (some .int) ∈ aw_G := ⟨aw_inG (List.mem_of_getElem? (i := 1087) (by decide +kernel)) rfl, aw_inG (List.mem_of_getElem? (i := 104) (by decide +kernel)) rfl, aw_inG (List.mem_of_getElem? (i := 1088) (by decide +kernel)) rfl⟩
theorem cm_RX4_99 : aw_CM RX4 99 Lib.Math.abs.name Lib.Math.abs.code 1 (some .int) := ⟨aw_inG (List.mem_of_getElem? (i := 1086) (by decide +kernel)) rfl, cy_mabs⟩
theorem fl_RX11_29 : aw_FL RX11 29 11 3 := ⟨RX11, TX11, 15, rfl, by decide, fG_11, aw_inG (List.mem_of_getElem? (i := 461) (by decide +kernel)) rfl⟩
theorem fl_RX11_123 : aw_FL RX11 123 7 6 := ⟨RX7, TX7, 7, rfl, by decide, fG_7, aw_inG (List.mem_of_getElem? (i := 196) (by decide +kernel)) rfl⟩
abbrev MX11_holderWith : aw_M := (yX11_holderWith, cX11_holderWith, 5, some .int)
set_option maxRecDepth 20000 in
theorem cbX11_holderWith : aw_CB MX11_holderWith 4 := ⟨List.mem_of_getElem? (i := 1105) rfl, ⟨by decide, by decide, by decide +kernel⟩, aw_inG (List.mem_of_getElem? (i := 86) (by decide +kernel)) rfl, by decide⟩
theorem ciX11_holderWith : Cond.instanceMethod MX11_holderWith.1 ∈ aw_G ∧ Cond.selects MX11_holderWith.1.cls MX11_holderWith.1 MX11_holderWith.1 ∈ aw_G := ⟨aw_inG (List.mem_of_getElem? (i := 1104) (by decide +kernel)) rfl, aw_inG (List.mem_of_getElem? (i := 27) (by decide +kernel)) rfl⟩
theorem cv_RX11_322 : aw_CV RX11 322 MX11_holderWith 4 := ⟨cbX11_holderWith, aw_inG (List.mem_of_getElem? (i := 1102) (by decide +kernel)) rfl, ciX11_holderWith.1, ciX11_holderWith.2⟩
theorem fl_RX11_343 : aw_FL RX11 343 3 3 := ⟨RX3, TX3, 9, rfl, by decide, fG_3, aw_inG (List.mem_of_getElem? (i := 359) (by decide +kernel)) rfl⟩
abbrev MX3_holder : aw_M := (yX3_holder, cX3_holder, 1, some .int)
set_option maxRecDepth 20000 in
theorem cbX3_holder : aw_CB MX3_holder 0 := ⟨List.mem_of_getElem? (i := 710) rfl, ⟨by decide, by decide, by decide +kernel⟩, aw_inG (List.mem_of_getElem? (i := 94) (by decide +kernel)) rfl, by decide⟩
theorem ciX3_holder : Cond.instanceMethod MX3_holder.1 ∈ aw_G ∧ Cond.selects MX3_holder.1.cls MX3_holder.1 MX3_holder.1 ∈ aw_G := ⟨aw_inG (List.mem_of_getElem? (i := 708) (by decide +kernel)) rfl, aw_inG (List.mem_of_getElem? (i := 709) (by decide +kernel)) rfl⟩
theorem cv_RX11_173 : aw_CV RX11 173 MX3_holder 0 := ⟨cbX3_holder, aw_inG (List.mem_of_getElem? (i := 707) (by decide +kernel)) rfl, ciX3_holder.1, ciX3_holder.2⟩
abbrev MX3_rank : aw_M := (yX3_rank, cX3_rank, 2, none)
set_option maxRecDepth 20000 in
theorem cbX3_rank : aw_CB MX3_rank 0 := ⟨List.mem_of_getElem? (i := 714) rfl, ⟨by decide, by decide, by decide +kernel⟩, aw_inG (List.mem_of_getElem? (i := 94) (by decide +kernel)) rfl, by decide⟩
theorem ciX3_rank : Cond.instanceMethod MX3_rank.1 ∈ aw_G ∧ Cond.selects MX3_rank.1.cls MX3_rank.1 MX3_rank.1 ∈ aw_G := ⟨aw_inG (List.mem_of_getElem? (i := 713) (by decide +kernel)) rfl, aw_inG (List.mem_of_getElem? (i := 12) (by decide +kernel)) rfl⟩
theorem cv_RX3_99 : aw_CV RX3 99 MX3_rank 0 := ⟨cbX3_rank, aw_inG (List.mem_of_getElem? (i := 711) (by decide +kernel)) rfl, ciX3_rank.1, ciX3_rank.2⟩
theorem fl_RX3_12 : aw_FL RX3 12 3 2 := ⟨RX3, TX3, 9, rfl, by decide, fG_3, aw_inG (List.mem_of_getElem? (i := 357) (by decide +kernel)) rfl⟩
theorem cv_RX3_93 : aw_CV RX3 93 MX2_clear 0 := ⟨cbX2_clear, aw_inG (List.mem_of_getElem? (i := 715) (by decide +kernel)) rfl, ciX2_clear.1, ciX2_clear.2⟩
theorem cv_RX3_96 : aw_CV RX3 96 MX2_enter 2 := ⟨cbX2_enter, aw_inG (List.mem_of_getElem? (i := 719) (by decide +kernel)) rfl, ciX2_enter.1, ciX2_enter.2⟩
theorem fl_RX3_102 : aw_FL RX3 102 1 1 := ⟨RX1, TX1, 5, rfl, by decide, fG_1, aw_inG (List.mem_of_getElem? (i := 154) (by decide +kernel)) rfl⟩
theorem cv_RX3_105 : aw_CV RX3 105 MX2_holder 2 := ⟨cbX2_holder, aw_inG (List.mem_of_getElem? (i := 723) (by decide +kernel)) rfl, ciX2_holder.1, ciX2_holder.2⟩
theorem fl_RX11_10 : aw_FL RX11 10 11 0 := ⟨RX11, TX11, 15, rfl, by decide, fG_11, aw_inG (List.mem_of_getElem? (i := 458) (by decide +kernel)) rfl⟩
theorem fG_9 : ∀ w ∈ u_ws RX9 TX9 3, w ∈ aw_G := aw_in_all [132, 134, 136] (by decide +kernel) (by decide +kernel)
theorem fl_RX11_106 : aw_FL RX11 106 9 1 := ⟨RX9, TX9, 3, rfl, by decide, fG_9, aw_inG (List.mem_of_getElem? (i := 127) (by decide +kernel)) rfl⟩
theorem cv_RX11_227 : aw_CV RX11 227 MX1_all 0 := ⟨cbX1_all, aw_inG (List.mem_of_getElem? (i := 878) (by decide +kernel)) rfl, ciX1_all.1, ciX1_all.2⟩
abbrev MX4_better : aw_M := (yX4_better, cX4_better, 5, none)
set_option maxRecDepth 20000 in
theorem cbX4_better : aw_CB MX4_better 1 := ⟨List.mem_of_getElem? (i := 882) rfl, ⟨by decide, by decide, by decide +kernel⟩, aw_inG (List.mem_of_getElem? (i := 92) (by decide +kernel)) rfl, by decide⟩
theorem ciX4_better : Cond.instanceMethod MX4_better.1 ∈ aw_G ∧ Cond.selects MX4_better.1.cls MX4_better.1 MX4_better.1 ∈ aw_G := ⟨aw_inG (List.mem_of_getElem? (i := 880) (by decide +kernel)) rfl, aw_inG (List.mem_of_getElem? (i := 881) (by decide +kernel)) rfl⟩
theorem cv_RX11_230 : aw_CV RX11 230 MX4_better 1 := ⟨cbX4_better, aw_inG (List.mem_of_getElem? (i := 879) (by decide +kernel)) rfl, ciX4_better.1, ciX4_better.2⟩
theorem fp_RX4_19 : aw_FP RX4 19 4 2 .int := ⟨RX4, TX4, 9, tyX4, rfl, by decide, fG_4, aw_inG (List.mem_of_getElem? (i := 278) (by decide +kernel)) rfl, tyX4_ok, nmX4, rfl, rfl⟩
theorem fp_RX4_23 : aw_FP RX4 23 4 3 .int := ⟨RX4, TX4, 9, tyX4, rfl, by decide, fG_4, aw_inG (List.mem_of_getElem? (i := 280) (by decide +kernel)) rfl, tyX4_ok, nmX4, rfl, rfl⟩
theorem fp_RX4_26 : aw_FP RX4 26 4 4 .int := ⟨RX4, TX4, 9, tyX4, rfl, by decide, fG_4, aw_inG (List.mem_of_getElem? (i := 282) (by decide +kernel)) rfl, tyX4_ok, nmX4, rfl, rfl⟩
abbrev MX8_bestBid : aw_M := (yX8_bestBid, cX8_bestBid, 6, some .int)
set_option maxRecDepth 20000 in
theorem cbX8_bestBid : aw_CB MX8_bestBid 1 := ⟨List.mem_of_getElem? (i := 887) rfl, ⟨by decide, by decide, by decide +kernel⟩, aw_inG (List.mem_of_getElem? (i := 90) (by decide +kernel)) rfl, by decide⟩
theorem ciX8_bestBid : Cond.instanceMethod MX8_bestBid.1 ∈ aw_G ∧ Cond.selects MX8_bestBid.1.cls MX8_bestBid.1 MX8_bestBid.1 ∈ aw_G := ⟨aw_inG (List.mem_of_getElem? (i := 885) (by decide +kernel)) rfl, aw_inG (List.mem_of_getElem? (i := 886) (by decide +kernel)) rfl⟩
theorem cv_RX4_44 : aw_CV RX4 44 MX8_bestBid 1 := ⟨cbX8_bestBid, aw_inG (List.mem_of_getElem? (i := 884) (by decide +kernel)) rfl, ciX8_bestBid.1, ciX8_bestBid.2⟩
theorem fp_RX8_86 : aw_FP RX8 86 8 7 .int := ⟨RX8, TX8, 8, tyX8, rfl, by decide, fG_8, aw_inG (List.mem_of_getElem? (i := 252) (by decide +kernel)) rfl, tyX8_ok, nmX8, rfl, rfl⟩
theorem fl_RX8_86 : aw_FL RX8 86 8 7 := ⟨RX8, TX8, 8, rfl, by decide, fG_8, aw_inG (List.mem_of_getElem? (i := 252) (by decide +kernel)) rfl⟩
theorem fl_RX4_48 : aw_FL RX4 48 8 7 := ⟨RX8, TX8, 8, rfl, by decide, fG_8, aw_inG (List.mem_of_getElem? (i := 251) (by decide +kernel)) rfl⟩
theorem fl_RX4_26 : aw_FL RX4 26 4 4 := ⟨RX4, TX4, 9, rfl, by decide, fG_4, aw_inG (List.mem_of_getElem? (i := 282) (by decide +kernel)) rfl⟩
theorem fl_RX11_239 : aw_FL RX11 239 4 4 := ⟨RX4, TX4, 9, rfl, by decide, fG_4, aw_inG (List.mem_of_getElem? (i := 283) (by decide +kernel)) rfl⟩
theorem fl_RX11_236 : aw_FL RX11 236 4 3 := ⟨RX4, TX4, 9, rfl, by decide, fG_4, aw_inG (List.mem_of_getElem? (i := 281) (by decide +kernel)) rfl⟩
theorem fl_RX11_233 : aw_FL RX11 233 4 2 := ⟨RX4, TX4, 9, rfl, by decide, fG_4, aw_inG (List.mem_of_getElem? (i := 279) (by decide +kernel)) rfl⟩
theorem fp_RX11_106 : aw_FP RX11 106 9 1 .int := ⟨RX9, TX9, 3, tyX9, rfl, by decide, fG_9, aw_inG (List.mem_of_getElem? (i := 127) (by decide +kernel)) rfl, tyX9_ok, nmX9, rfl, rfl⟩
theorem fl_RX11_23 : aw_FL RX11 23 11 2 := ⟨RX11, TX11, 15, rfl, by decide, fG_11, aw_inG (List.mem_of_getElem? (i := 460) (by decide +kernel)) rfl⟩
abbrev MX1_become : aw_M := (yX1_become, cX1_become, 2, none)
set_option maxRecDepth 20000 in
theorem cbX1_become : aw_CB MX1_become 1 := ⟨List.mem_of_getElem? (i := 619) rfl, ⟨by decide, by decide, by decide +kernel⟩, aw_inG (List.mem_of_getElem? (i := 88) (by decide +kernel)) rfl, by decide⟩
theorem ciX1_become : Cond.instanceMethod MX1_become.1 ∈ aw_G ∧ Cond.selects MX1_become.1.cls MX1_become.1 MX1_become.1 ∈ aw_G := ⟨aw_inG (List.mem_of_getElem? (i := 617) (by decide +kernel)) rfl, aw_inG (List.mem_of_getElem? (i := 618) (by decide +kernel)) rfl⟩
theorem cv_RX11_129 : aw_CV RX11 129 MX1_become 1 := ⟨cbX1_become, aw_inG (List.mem_of_getElem? (i := 616) (by decide +kernel)) rfl, ciX1_become.1, ciX1_become.2⟩
theorem cc_RX1_33 : aw_CC RX1 33 := ⟨aw_inG (List.mem_of_getElem? (i := 529) (by decide +kernel)) rfl, aw_inG (List.mem_of_getElem? (i := 531) (by decide +kernel)) rfl, aw_inG (List.mem_of_getElem? (i := 530) (by decide +kernel)) rfl, aw_inG (List.mem_of_getElem? (i := 99) (by decide +kernel)) rfl⟩
theorem fl_RX1_15 : aw_FL RX1 15 1 1 := ⟨RX1, TX1, 5, rfl, by decide, fG_1, aw_inG (List.mem_of_getElem? (i := 147) (by decide +kernel)) rfl⟩
theorem fl_RX1_18 : aw_FL RX1 18 1 2 := ⟨RX1, TX1, 5, rfl, by decide, fG_1, aw_inG (List.mem_of_getElem? (i := 156) (by decide +kernel)) rfl⟩
theorem cs_RX1_39 : aw_CS RX1 39 MJ7_fill_53178 2 := ⟨cbJ7_fill_53178, aw_inG (List.mem_of_getElem? (i := 620) (by decide +kernel)) rfl, aw_inG (List.mem_of_getElem? (i := 621) (by decide +kernel)) rfl⟩
theorem fp_RX1_21 : aw_FP RX1 21 1 4 .int := ⟨RX1, TX1, 5, tyX1, rfl, by decide, fG_1, aw_inG (List.mem_of_getElem? (i := 161) (by decide +kernel)) rfl, tyX1_ok, nmX1, rfl, rfl⟩
theorem fp_RX11_132 : aw_FP RX11 132 0 4 .int := ⟨RX0, TX0, 5, tyX0, rfl, by decide, fG_0, aw_inG (List.mem_of_getElem? (i := 446) (by decide +kernel)) rfl, tyX0_ok, nmX0, rfl, rfl⟩
theorem fp_RX11_98 : aw_FP RX11 98 11 14 .boolean := ⟨RX11, TX11, 15, tyX11, rfl, by decide, fG_11, aw_inG (List.mem_of_getElem? (i := 472) (by decide +kernel)) rfl, tyX11_ok, nmX11, rfl, rfl⟩
abbrev MX7_read : aw_M := (yX7_read, cX7_read, 4, some .int)
set_option maxRecDepth 20000 in
theorem cbX7_read : aw_CB MX7_read 1 := ⟨List.mem_of_getElem? (i := 572) rfl, ⟨by decide, by decide, by decide +kernel⟩, aw_inG (List.mem_of_getElem? (i := 89) (by decide +kernel)) rfl, by decide⟩
theorem ciX7_read : Cond.instanceMethod MX7_read.1 ∈ aw_G ∧ Cond.selects MX7_read.1.cls MX7_read.1 MX7_read.1 ∈ aw_G := ⟨aw_inG (List.mem_of_getElem? (i := 570) (by decide +kernel)) rfl, aw_inG (List.mem_of_getElem? (i := 571) (by decide +kernel)) rfl⟩
theorem cv_RX11_118 : aw_CV RX11 118 MX7_read 1 := ⟨cbX7_read, aw_inG (List.mem_of_getElem? (i := 569) (by decide +kernel)) rfl, ciX7_read.1, ciX7_read.2⟩
theorem fp_RX7_34 : aw_FP RX7 34 7 5 .int := ⟨RX7, TX7, 7, tyX7, rfl, by decide, fG_7, aw_inG (List.mem_of_getElem? (i := 194) (by decide +kernel)) rfl, tyX7_ok, nmX7, rfl, rfl⟩
theorem fp_RX7_43 : aw_FP RX7 43 9 2 .int := ⟨RX9, TX9, 3, tyX9, rfl, by decide, fG_9, aw_inG (List.mem_of_getElem? (i := 130) (by decide +kernel)) rfl, tyX9_ok, nmX9, rfl, rfl⟩
abbrev MX9_sign : aw_M := (yX9_sign, cX9_sign, 1, some .int)
set_option maxRecDepth 20000 in
theorem cbX9_sign : aw_CB MX9_sign 0 := ⟨List.mem_of_getElem? (i := 539) rfl, ⟨by decide, by decide, by decide +kernel⟩, aw_inG (List.mem_of_getElem? (i := 87) (by decide +kernel)) rfl, by decide⟩
theorem ciX9_sign : Cond.instanceMethod MX9_sign.1 ∈ aw_G ∧ Cond.selects MX9_sign.1.cls MX9_sign.1 MX9_sign.1 ∈ aw_G := ⟨aw_inG (List.mem_of_getElem? (i := 537) (by decide +kernel)) rfl, aw_inG (List.mem_of_getElem? (i := 538) (by decide +kernel)) rfl⟩
theorem cv_RX7_56 : aw_CV RX7 56 MX9_sign 0 := ⟨cbX9_sign, aw_inG (List.mem_of_getElem? (i := 578) (by decide +kernel)) rfl, ciX9_sign.1, ciX9_sign.2⟩
theorem fl_RX9_19 : aw_FL RX9 19 9 2 := ⟨RX9, TX9, 3, rfl, by decide, fG_9, aw_inG (List.mem_of_getElem? (i := 129) (by decide +kernel)) rfl⟩
theorem fl_RX9_15 : aw_FL RX9 15 9 1 := ⟨RX9, TX9, 3, rfl, by decide, fG_9, aw_inG (List.mem_of_getElem? (i := 128) (by decide +kernel)) rfl⟩
theorem fl_RX9_9 : aw_FL RX9 9 9 0 := ⟨RX9, TX9, 3, rfl, by decide, fG_9, aw_inG (List.mem_of_getElem? (i := 126) (by decide +kernel)) rfl⟩
theorem fp_RX9_19 : aw_FP RX9 19 9 2 .int := ⟨RX9, TX9, 3, tyX9, rfl, by decide, fG_9, aw_inG (List.mem_of_getElem? (i := 129) (by decide +kernel)) rfl, tyX9_ok, nmX9, rfl, rfl⟩
theorem fl_RX7_43 : aw_FL RX7 43 9 2 := ⟨RX9, TX9, 3, rfl, by decide, fG_9, aw_inG (List.mem_of_getElem? (i := 130) (by decide +kernel)) rfl⟩
abbrev MX7_readClause : aw_M := (yX7_readClause, cX7_readClause, 4, some .boolean)
set_option maxRecDepth 20000 in
theorem cbX7_readClause : aw_CB MX7_readClause 1 := ⟨List.mem_of_getElem? (i := 576) rfl, ⟨by decide, by decide, by decide +kernel⟩, aw_inG (List.mem_of_getElem? (i := 89) (by decide +kernel)) rfl, by decide⟩
theorem ciX7_readClause : Cond.instanceMethod MX7_readClause.1 ∈ aw_G ∧ Cond.selects MX7_readClause.1.cls MX7_readClause.1 MX7_readClause.1 ∈ aw_G := ⟨aw_inG (List.mem_of_getElem? (i := 575) (by decide +kernel)) rfl, aw_inG (List.mem_of_getElem? (i := 1) (by decide +kernel)) rfl⟩
theorem cv_RX7_48 : aw_CV RX7 48 MX7_readClause 1 := ⟨cbX7_readClause, aw_inG (List.mem_of_getElem? (i := 573) (by decide +kernel)) rfl, ciX7_readClause.1, ciX7_readClause.2⟩
abbrev MX9_take : aw_M := (yX9_take, cX9_take, 2, some .boolean)
set_option maxRecDepth 20000 in
theorem cbX9_take : aw_CB MX9_take 1 := ⟨List.mem_of_getElem? (i := 567) rfl, ⟨by decide, by decide, by decide +kernel⟩, aw_inG (List.mem_of_getElem? (i := 87) (by decide +kernel)) rfl, by decide⟩
theorem ciX9_take : Cond.instanceMethod MX9_take.1 ∈ aw_G ∧ Cond.selects MX9_take.1.cls MX9_take.1 MX9_take.1 ∈ aw_G := ⟨aw_inG (List.mem_of_getElem? (i := 565) (by decide +kernel)) rfl, aw_inG (List.mem_of_getElem? (i := 566) (by decide +kernel)) rfl⟩
theorem cv_RX7_52 : aw_CV RX7 52 MX9_take 1 := ⟨cbX9_take, aw_inG (List.mem_of_getElem? (i := 577) (by decide +kernel)) rfl, ciX9_take.1, ciX9_take.2⟩
theorem cv_RX9_22 : aw_CV RX9 22 MX9_sign 0 := ⟨cbX9_sign, aw_inG (List.mem_of_getElem? (i := 568) (by decide +kernel)) rfl, ciX9_sign.1, ciX9_sign.2⟩
abbrev MX7_readCondition : aw_M := (yX7_readCondition, cX7_readCondition, 7, some .boolean)
set_option maxRecDepth 20000 in
theorem cbX7_readCondition : aw_CB MX7_readCondition 3 := ⟨List.mem_of_getElem? (i := 599) rfl, ⟨by decide, by decide, by decide +kernel⟩, aw_inG (List.mem_of_getElem? (i := 89) (by decide +kernel)) rfl, by decide⟩
theorem ciX7_readCondition : Cond.instanceMethod MX7_readCondition.1 ∈ aw_G ∧ Cond.selects MX7_readCondition.1.cls MX7_readCondition.1 MX7_readCondition.1 ∈ aw_G := ⟨aw_inG (List.mem_of_getElem? (i := 598) (by decide +kernel)) rfl, aw_inG (List.mem_of_getElem? (i := 5) (by decide +kernel)) rfl⟩
theorem cv_RX7_67 : aw_CV RX7 67 MX7_readCondition 3 := ⟨cbX7_readCondition, aw_inG (List.mem_of_getElem? (i := 596) (by decide +kernel)) rfl, ciX7_readCondition.1, ciX7_readCondition.2⟩
abbrev MX7_readUnit : aw_M := (yX7_readUnit, cX7_readUnit, 5, some .boolean)
set_option maxRecDepth 20000 in
theorem cbX7_readUnit : aw_CB MX7_readUnit 3 := ⟨List.mem_of_getElem? (i := 603) rfl, ⟨by decide, by decide, by decide +kernel⟩, aw_inG (List.mem_of_getElem? (i := 89) (by decide +kernel)) rfl, by decide⟩
theorem ciX7_readUnit : Cond.instanceMethod MX7_readUnit.1 ∈ aw_G ∧ Cond.selects MX7_readUnit.1.cls MX7_readUnit.1 MX7_readUnit.1 ∈ aw_G := ⟨aw_inG (List.mem_of_getElem? (i := 602) (by decide +kernel)) rfl, aw_inG (List.mem_of_getElem? (i := 6) (by decide +kernel)) rfl⟩
theorem cv_RX7_75 : aw_CV RX7 75 MX7_readUnit 3 := ⟨cbX7_readUnit, aw_inG (List.mem_of_getElem? (i := 600) (by decide +kernel)) rfl, ciX7_readUnit.1, ciX7_readUnit.2⟩
abbrev MX7_isComparison : aw_M := (yX7_isComparison, cX7_isComparison, 1, some .boolean)
set_option maxRecDepth 20000 in
theorem cbX7_isComparison : aw_CB MX7_isComparison 1 := ⟨List.mem_of_getElem? (i := 595) rfl, ⟨by decide, by decide, by decide +kernel⟩, aw_inG (List.mem_of_getElem? (i := 89) (by decide +kernel)) rfl, by decide⟩
theorem cs_RX7_64 : aw_CS RX7 64 MX7_isComparison 1 := ⟨cbX7_isComparison, aw_inG (List.mem_of_getElem? (i := 593) (by decide +kernel)) rfl, aw_inG (List.mem_of_getElem? (i := 594) (by decide +kernel)) rfl⟩
abbrev MX7_readSum : aw_M := (yX7_readSum, cX7_readSum, 7, some .boolean)
set_option maxRecDepth 20000 in
theorem cbX7_readSum : aw_CB MX7_readSum 2 := ⟨List.mem_of_getElem? (i := 582) rfl, ⟨by decide, by decide, by decide +kernel⟩, aw_inG (List.mem_of_getElem? (i := 89) (by decide +kernel)) rfl, by decide⟩
theorem ciX7_readSum : Cond.instanceMethod MX7_readSum.1 ∈ aw_G ∧ Cond.selects MX7_readSum.1.cls MX7_readSum.1 MX7_readSum.1 ∈ aw_G := ⟨aw_inG (List.mem_of_getElem? (i := 581) (by decide +kernel)) rfl, aw_inG (List.mem_of_getElem? (i := 2) (by decide +kernel)) rfl⟩
theorem cv_RX7_60 : aw_CV RX7 60 MX7_readSum 2 := ⟨cbX7_readSum, aw_inG (List.mem_of_getElem? (i := 579) (by decide +kernel)) rfl, ciX7_readSum.1, ciX7_readSum.2⟩
abbrev MX7_readAtom : aw_M := (yX7_readAtom, cX7_readAtom, 6, some .boolean)
set_option maxRecDepth 20000 in
theorem cbX7_readAtom : aw_CB MX7_readAtom 2 := ⟨List.mem_of_getElem? (i := 586) rfl, ⟨by decide, by decide, by decide +kernel⟩, aw_inG (List.mem_of_getElem? (i := 89) (by decide +kernel)) rfl, by decide⟩
theorem ciX7_readAtom : Cond.instanceMethod MX7_readAtom.1 ∈ aw_G ∧ Cond.selects MX7_readAtom.1.cls MX7_readAtom.1 MX7_readAtom.1 ∈ aw_G := ⟨aw_inG (List.mem_of_getElem? (i := 585) (by decide +kernel)) rfl, aw_inG (List.mem_of_getElem? (i := 3) (by decide +kernel)) rfl⟩
theorem cv_RX7_82 : aw_CV RX7 82 MX7_readAtom 2 := ⟨cbX7_readAtom, aw_inG (List.mem_of_getElem? (i := 583) (by decide +kernel)) rfl, ciX7_readAtom.1, ciX7_readAtom.2⟩
abbrev MX11_indexIn : aw_M := (yX11_indexIn, cX11_indexIn, 3, some .int)
set_option maxRecDepth 20000 in
theorem cbX11_indexIn : aw_CB MX11_indexIn 2 := ⟨List.mem_of_getElem? (i := 553) rfl, ⟨by decide, by decide, by decide +kernel⟩, aw_inG (List.mem_of_getElem? (i := 86) (by decide +kernel)) rfl, by decide⟩
theorem cn_RX7_85 : aw_CN RX7 85 MX11_indexIn 2 "SecondHas" := ⟨cbX11_indexIn, aw_inN (List.mem_of_getElem? (i := 587) (by decide +kernel)) rfl, aw_inG (List.mem_of_getElem? (i := 552) (by decide +kernel)) rfl⟩
abbrev MX9_number : aw_M := (yX9_number, cX9_number, 4, some .int)
set_option maxRecDepth 20000 in
theorem cbX9_number : aw_CB MX9_number 1 := ⟨List.mem_of_getElem? (i := 557) rfl, ⟨by decide, by decide, by decide +kernel⟩, aw_inG (List.mem_of_getElem? (i := 87) (by decide +kernel)) rfl, by decide⟩
theorem ciX9_number : Cond.instanceMethod MX9_number.1 ∈ aw_G ∧ Cond.selects MX9_number.1.cls MX9_number.1 MX9_number.1 ∈ aw_G := ⟨aw_inG (List.mem_of_getElem? (i := 555) (by decide +kernel)) rfl, aw_inG (List.mem_of_getElem? (i := 556) (by decide +kernel)) rfl⟩
theorem cv_RX7_89 : aw_CV RX7 89 MX9_number 1 := ⟨cbX9_number, aw_inG (List.mem_of_getElem? (i := 592) (by decide +kernel)) rfl, ciX9_number.1, ciX9_number.2⟩
abbrev MX7_put : aw_M := (yX7_put, cX7_put, 2, none)
set_option maxRecDepth 20000 in
theorem cbX7_put : aw_CB MX7_put 1 := ⟨List.mem_of_getElem? (i := 591) rfl, ⟨by decide, by decide, by decide +kernel⟩, aw_inG (List.mem_of_getElem? (i := 89) (by decide +kernel)) rfl, by decide⟩
theorem ciX7_put : Cond.instanceMethod MX7_put.1 ∈ aw_G ∧ Cond.selects MX7_put.1.cls MX7_put.1 MX7_put.1 ∈ aw_G := ⟨aw_inG (List.mem_of_getElem? (i := 590) (by decide +kernel)) rfl, aw_inG (List.mem_of_getElem? (i := 4) (by decide +kernel)) rfl⟩
theorem cv_RX7_71 : aw_CV RX7 71 MX7_put 1 := ⟨cbX7_put, aw_inG (List.mem_of_getElem? (i := 588) (by decide +kernel)) rfl, ciX7_put.1, ciX7_put.2⟩
theorem fl_RX7_34 : aw_FL RX7 34 7 5 := ⟨RX7, TX7, 7, rfl, by decide, fG_7, aw_inG (List.mem_of_getElem? (i := 194) (by decide +kernel)) rfl⟩
theorem fl_RX7_18 : aw_FL RX7 18 7 2 := ⟨RX7, TX7, 7, rfl, by decide, fG_7, aw_inG (List.mem_of_getElem? (i := 190) (by decide +kernel)) rfl⟩
abbrev MX7_readOpened : aw_M := (yX7_readOpened, cX7_readOpened, 4, some .boolean)
set_option maxRecDepth 20000 in
theorem cbX7_readOpened : aw_CB MX7_readOpened 3 := ⟨List.mem_of_getElem? (i := 607) rfl, ⟨by decide, by decide, by decide +kernel⟩, aw_inG (List.mem_of_getElem? (i := 89) (by decide +kernel)) rfl, by decide⟩
theorem ciX7_readOpened : Cond.instanceMethod MX7_readOpened.1 ∈ aw_G ∧ Cond.selects MX7_readOpened.1.cls MX7_readOpened.1 MX7_readOpened.1 ∈ aw_G := ⟨aw_inG (List.mem_of_getElem? (i := 606) (by decide +kernel)) rfl, aw_inG (List.mem_of_getElem? (i := 7) (by decide +kernel)) rfl⟩
theorem cv_RX7_78 : aw_CV RX7 78 MX7_readOpened 3 := ⟨cbX7_readOpened, aw_inG (List.mem_of_getElem? (i := 604) (by decide +kernel)) rfl, ciX7_readOpened.1, ciX7_readOpened.2⟩
abbrev MX1_read : aw_M := (yX1_read, cX1_read, 4, some .int)
set_option maxRecDepth 20000 in
theorem cbX1_read : aw_CB MX1_read 1 := ⟨List.mem_of_getElem? (i := 526) rfl, ⟨by decide, by decide, by decide +kernel⟩, aw_inG (List.mem_of_getElem? (i := 88) (by decide +kernel)) rfl, by decide⟩
theorem ciX1_read : Cond.instanceMethod MX1_read.1 ∈ aw_G ∧ Cond.selects MX1_read.1.cls MX1_read.1 MX1_read.1 ∈ aw_G := ⟨aw_inG (List.mem_of_getElem? (i := 524) (by decide +kernel)) rfl, aw_inG (List.mem_of_getElem? (i := 525) (by decide +kernel)) rfl⟩
theorem cv_RX11_114 : aw_CV RX11 114 MX1_read 1 := ⟨cbX1_read, aw_inG (List.mem_of_getElem? (i := 523) (by decide +kernel)) rfl, ciX1_read.1, ciX1_read.2⟩
theorem fp_RX1_45 : aw_FP RX1 45 1 3 .boolean := ⟨RX1, TX1, 5, tyX1, rfl, by decide, fG_1, aw_inG (List.mem_of_getElem? (i := 159) (by decide +kernel)) rfl, tyX1_ok, nmX1, rfl, rfl⟩
theorem fn_RX1_49 : Cond.fieldLinkNest RX1 49 "SecondHas" "LAW_USUAL" "[I" "SecondHas" ∈ aw_nest := aw_inN (List.mem_of_getElem? (i := 527) (by decide +kernel)) rfl
theorem fp_RX1_52 : aw_FP RX1 52 9 2 .int := ⟨RX9, TX9, 3, tyX9, rfl, by decide, fG_9, aw_inG (List.mem_of_getElem? (i := 131) (by decide +kernel)) rfl, tyX9_ok, nmX9, rfl, rfl⟩
theorem cv_RX1_64 : aw_CV RX1 64 MX9_sign 0 := ⟨cbX9_sign, aw_inG (List.mem_of_getElem? (i := 536) (by decide +kernel)) rfl, ciX9_sign.1, ciX9_sign.2⟩
theorem fl_RX1_52 : aw_FL RX1 52 9 2 := ⟨RX9, TX9, 3, rfl, by decide, fG_9, aw_inG (List.mem_of_getElem? (i := 131) (by decide +kernel)) rfl⟩
abbrev MX1_readClause : aw_M := (yX1_readClause, cX1_readClause, 4, some .boolean)
set_option maxRecDepth 20000 in
theorem cbX1_readClause : aw_CB MX1_readClause 1 := ⟨List.mem_of_getElem? (i := 535) rfl, ⟨by decide, by decide, by decide +kernel⟩, aw_inG (List.mem_of_getElem? (i := 88) (by decide +kernel)) rfl, by decide⟩
theorem ciX1_readClause : Cond.instanceMethod MX1_readClause.1 ∈ aw_G ∧ Cond.selects MX1_readClause.1.cls MX1_readClause.1 MX1_readClause.1 ∈ aw_G := ⟨aw_inG (List.mem_of_getElem? (i := 534) (by decide +kernel)) rfl, aw_inG (List.mem_of_getElem? (i := 0) (by decide +kernel)) rfl⟩
theorem cv_RX1_57 : aw_CV RX1 57 MX1_readClause 1 := ⟨cbX1_readClause, aw_inG (List.mem_of_getElem? (i := 532) (by decide +kernel)) rfl, ciX1_readClause.1, ciX1_readClause.2⟩
theorem fl_RX1_45 : aw_FL RX1 45 1 3 := ⟨RX1, TX1, 5, rfl, by decide, fG_1, aw_inG (List.mem_of_getElem? (i := 159) (by decide +kernel)) rfl⟩
theorem fn_RX1_83 : Cond.fieldLinkNest RX1 83 "SecondHas" "LAW_LETTERS" "[I" "SecondHas" ∈ aw_nest := aw_inN (List.mem_of_getElem? (i := 558) (by decide +kernel)) rfl
theorem fn_RX1_86 : Cond.fieldLinkNest RX1 86 "SecondHas" "LAW_LOWS" "[I" "SecondHas" ∈ aw_nest := aw_inN (List.mem_of_getElem? (i := 560) (by decide +kernel)) rfl
theorem fn_RX1_89 : Cond.fieldLinkNest RX1 89 "SecondHas" "LAW_HIGHS" "[I" "SecondHas" ∈ aw_nest := aw_inN (List.mem_of_getElem? (i := 562) (by decide +kernel)) rfl
abbrev MX1_readItems : aw_M := (yX1_readItems, cX1_readItems, 10, some .boolean)
set_option maxRecDepth 20000 in
theorem cbX1_readItems : aw_CB MX1_readItems 6 := ⟨List.mem_of_getElem? (i := 550) rfl, ⟨by decide, by decide, by decide +kernel⟩, aw_inG (List.mem_of_getElem? (i := 88) (by decide +kernel)) rfl, by decide⟩
theorem cs_RX1_79 : aw_CS RX1 79 MX1_readItems 6 := ⟨cbX1_readItems, aw_inG (List.mem_of_getElem? (i := 548) (by decide +kernel)) rfl, aw_inG (List.mem_of_getElem? (i := 549) (by decide +kernel)) rfl⟩
theorem cn_RX1_92 : aw_CN RX1 92 MX11_indexIn 2 "SecondHas" := ⟨cbX11_indexIn, aw_inN (List.mem_of_getElem? (i := 551) (by decide +kernel)) rfl, aw_inG (List.mem_of_getElem? (i := 552) (by decide +kernel)) rfl⟩
theorem cv_RX1_96 : aw_CV RX1 96 MX9_number 1 := ⟨cbX9_number, aw_inG (List.mem_of_getElem? (i := 554) (by decide +kernel)) rfl, ciX9_number.1, ciX9_number.2⟩
theorem fn_RX1_67 : Cond.fieldLinkNest RX1 67 "SecondHas" "STRIVER_USUAL" "[I" "SecondHas" ∈ aw_nest := aw_inN (List.mem_of_getElem? (i := 540) (by decide +kernel)) rfl
theorem fn_RX1_70 : Cond.fieldLinkNest RX1 70 "SecondHas" "STRIVER_LETTERS" "[I" "SecondHas" ∈ aw_nest := aw_inN (List.mem_of_getElem? (i := 542) (by decide +kernel)) rfl
theorem fn_RX1_73 : Cond.fieldLinkNest RX1 73 "SecondHas" "STRIVER_LOWS" "[I" "SecondHas" ∈ aw_nest := aw_inN (List.mem_of_getElem? (i := 544) (by decide +kernel)) rfl
theorem fn_RX1_76 : Cond.fieldLinkNest RX1 76 "SecondHas" "STRIVER_HIGHS" "[I" "SecondHas" ∈ aw_nest := aw_inN (List.mem_of_getElem? (i := 546) (by decide +kernel)) rfl
theorem cv_RX1_61 : aw_CV RX1 61 MX9_take 1 := ⟨cbX9_take, aw_inG (List.mem_of_getElem? (i := 564) (by decide +kernel)) rfl, ciX9_take.1, ciX9_take.2⟩
abbrev MX9_filled : aw_M := (yX9_filled, cX9_filled, 3, some .int)
set_option maxRecDepth 20000 in
theorem cbX9_filled : aw_CB MX9_filled 1 := ⟨List.mem_of_getElem? (i := 510) rfl, ⟨by decide, by decide, by decide +kernel⟩, aw_inG (List.mem_of_getElem? (i := 87) (by decide +kernel)) rfl, by decide⟩
theorem cs_RX11_102 : aw_CS RX11 102 MX9_filled 1 := ⟨cbX9_filled, aw_inG (List.mem_of_getElem? (i := 508) (by decide +kernel)) rfl, aw_inG (List.mem_of_getElem? (i := 509) (by decide +kernel)) rfl⟩
abbrev MX9_add : aw_M := (yX9_add, cX9_add, 4, none)
set_option maxRecDepth 20000 in
theorem cbX9_add : aw_CB MX9_add 1 := ⟨List.mem_of_getElem? (i := 514) rfl, ⟨by decide, by decide, by decide +kernel⟩, aw_inG (List.mem_of_getElem? (i := 87) (by decide +kernel)) rfl, by decide⟩
theorem ciX9_add : Cond.instanceMethod MX9_add.1 ∈ aw_G ∧ Cond.selects MX9_add.1.cls MX9_add.1 MX9_add.1 ∈ aw_G := ⟨aw_inG (List.mem_of_getElem? (i := 512) (by decide +kernel)) rfl, aw_inG (List.mem_of_getElem? (i := 513) (by decide +kernel)) rfl⟩
theorem cv_RX11_110 : aw_CV RX11 110 MX9_add 1 := ⟨cbX9_add, aw_inG (List.mem_of_getElem? (i := 511) (by decide +kernel)) rfl, ciX9_add.1, ciX9_add.2⟩
theorem fp_RX9_15 : aw_FP RX9 15 9 1 .int := ⟨RX9, TX9, 3, tyX9, rfl, by decide, fG_9, aw_inG (List.mem_of_getElem? (i := 128) (by decide +kernel)) rfl, tyX9_ok, nmX9, rfl, rfl⟩
abbrev MX1_holdsSome : aw_M := (yX1_holdsSome, cX1_holdsSome, 2, some .boolean)
set_option maxRecDepth 20000 in
theorem cbX1_holdsSome : aw_CB MX1_holdsSome 1 := ⟨List.mem_of_getElem? (i := 895) rfl, ⟨by decide, by decide, by decide +kernel⟩, aw_inG (List.mem_of_getElem? (i := 88) (by decide +kernel)) rfl, by decide⟩
theorem ciX1_holdsSome : Cond.instanceMethod MX1_holdsSome.1 ∈ aw_G ∧ Cond.selects MX1_holdsSome.1.cls MX1_holdsSome.1 MX1_holdsSome.1 ∈ aw_G := ⟨aw_inG (List.mem_of_getElem? (i := 893) (by decide +kernel)) rfl, aw_inG (List.mem_of_getElem? (i := 894) (by decide +kernel)) rfl⟩
theorem cv_RX11_242 : aw_CV RX11 242 MX1_holdsSome 1 := ⟨cbX1_holdsSome, aw_inG (List.mem_of_getElem? (i := 892) (by decide +kernel)) rfl, ciX1_holdsSome.1, ciX1_holdsSome.2⟩
theorem cv_RX1_25 : aw_CV RX1 25 MX1_all 0 := ⟨cbX1_all, aw_inG (List.mem_of_getElem? (i := 896) (by decide +kernel)) rfl, ciX1_all.1, ciX1_all.2⟩
theorem cv_RX11_205 : aw_CV RX11 205 MX8_gainOf 1 := ⟨cbX8_gainOf, aw_inG (List.mem_of_getElem? (i := 788) (by decide +kernel)) rfl, ciX8_gainOf.1, ciX8_gainOf.2⟩
abbrev MX0_add : aw_M := (yX0_add, cX0_add, 2, none)
set_option maxRecDepth 20000 in
theorem cbX0_add : aw_CB MX0_add 1 := ⟨List.mem_of_getElem? (i := 992) rfl, ⟨by decide, by decide, by decide +kernel⟩, aw_inG (List.mem_of_getElem? (i := 97) (by decide +kernel)) rfl, by decide⟩
theorem ciX0_add : Cond.instanceMethod MX0_add.1 ∈ aw_G ∧ Cond.selects MX0_add.1.cls MX0_add.1 MX0_add.1 ∈ aw_G := ⟨aw_inG (List.mem_of_getElem? (i := 990) (by decide +kernel)) rfl, aw_inG (List.mem_of_getElem? (i := 991) (by decide +kernel)) rfl⟩
theorem cv_RX11_280 : aw_CV RX11 280 MX0_add 1 := ⟨cbX0_add, aw_inG (List.mem_of_getElem? (i := 989) (by decide +kernel)) rfl, ciX0_add.1, ciX0_add.2⟩
theorem cv_RX11_300 : aw_CV RX11 300 MX4_against 2 := ⟨cbX4_against, aw_inG (List.mem_of_getElem? (i := 1056) (by decide +kernel)) rfl, ciX4_against.1, ciX4_against.2⟩
theorem fl_RX11_307 : aw_FL RX11 307 4 8 := ⟨RX4, TX4, 9, rfl, by decide, fG_4, aw_inG (List.mem_of_getElem? (i := 291) (by decide +kernel)) rfl⟩
theorem fl_RX11_304 : aw_FL RX11 304 4 7 := ⟨RX4, TX4, 9, rfl, by decide, fG_4, aw_inG (List.mem_of_getElem? (i := 289) (by decide +kernel)) rfl⟩
abbrev MX0_countPairs : aw_M := (yX0_countPairs, cX0_countPairs, 2, none)
set_option maxRecDepth 20000 in
theorem cbX0_countPairs : aw_CB MX0_countPairs 0 := ⟨List.mem_of_getElem? (i := 1029) rfl, ⟨by decide, by decide, by decide +kernel⟩, aw_inG (List.mem_of_getElem? (i := 97) (by decide +kernel)) rfl, by decide⟩
theorem ciX0_countPairs : Cond.instanceMethod MX0_countPairs.1 ∈ aw_G ∧ Cond.selects MX0_countPairs.1.cls MX0_countPairs.1 MX0_countPairs.1 ∈ aw_G := ⟨aw_inG (List.mem_of_getElem? (i := 1027) (by decide +kernel)) rfl, aw_inG (List.mem_of_getElem? (i := 1028) (by decide +kernel)) rfl⟩
theorem cv_RX11_288 : aw_CV RX11 288 MX0_countPairs 0 := ⟨cbX0_countPairs, aw_inG (List.mem_of_getElem? (i := 1026) (by decide +kernel)) rfl, ciX0_countPairs.1, ciX0_countPairs.2⟩
theorem fl_RX0_15 : aw_FL RX0 15 0 3 := ⟨RX0, TX0, 5, rfl, by decide, fG_0, aw_inG (List.mem_of_getElem? (i := 444) (by decide +kernel)) rfl⟩
theorem cs_RX0_76 : aw_CS RX0 76 MJ7_fill_53178 2 := ⟨cbJ7_fill_53178, aw_inG (List.mem_of_getElem? (i := 1030) (by decide +kernel)) rfl, aw_inG (List.mem_of_getElem? (i := 621) (by decide +kernel)) rfl⟩
theorem fl_RX0_22 : aw_FL RX0 22 0 1 := ⟨RX0, TX0, 5, rfl, by decide, fG_0, aw_inG (List.mem_of_getElem? (i := 442) (by decide +kernel)) rfl⟩
theorem cv_RX0_63 : aw_CV RX0 63 MX8_put 1 := ⟨cbX8_put, aw_inG (List.mem_of_getElem? (i := 1020) (by decide +kernel)) rfl, ciX8_put.1, ciX8_put.2⟩
theorem cv_RX0_67 : aw_CV RX0 67 MX8_settle 0 := ⟨cbX8_settle, aw_inG (List.mem_of_getElem? (i := 1021) (by decide +kernel)) rfl, ciX8_settle.1, ciX8_settle.2⟩
theorem fl_RX0_82 : aw_FL RX0 82 8 6 := ⟨RX8, TX8, 8, rfl, by decide, fG_8, aw_inG (List.mem_of_getElem? (i := 250) (by decide +kernel)) rfl⟩
theorem fl_RX0_70 : aw_FL RX0 70 8 3 := ⟨RX8, TX8, 8, rfl, by decide, fG_8, aw_inG (List.mem_of_getElem? (i := 243) (by decide +kernel)) rfl⟩
abbrev MX0_timesOfPair : aw_M := (yX0_timesOfPair, cX0_timesOfPair, 3, some .int)
set_option maxRecDepth 20000 in
theorem cbX0_timesOfPair : aw_CB MX0_timesOfPair 2 := ⟨List.mem_of_getElem? (i := 1034) rfl, ⟨by decide, by decide, by decide +kernel⟩, aw_inG (List.mem_of_getElem? (i := 97) (by decide +kernel)) rfl, by decide⟩
theorem ciX0_timesOfPair : Cond.instanceMethod MX0_timesOfPair.1 ∈ aw_G ∧ Cond.selects MX0_timesOfPair.1.cls MX0_timesOfPair.1 MX0_timesOfPair.1 ∈ aw_G := ⟨aw_inG (List.mem_of_getElem? (i := 1032) (by decide +kernel)) rfl, aw_inG (List.mem_of_getElem? (i := 1033) (by decide +kernel)) rfl⟩
theorem cv_RX11_291 : aw_CV RX11 291 MX0_timesOfPair 2 := ⟨cbX0_timesOfPair, aw_inG (List.mem_of_getElem? (i := 1031) (by decide +kernel)) rfl, ciX0_timesOfPair.1, ciX0_timesOfPair.2⟩
theorem cs_RX11_338 : aw_CS RX11 338 MJ6_bitCount_0f7a4 1 := ⟨cbJ6_bitCount_0f7a4, aw_inG (List.mem_of_getElem? (i := 905) (by decide +kernel)) rfl, aw_inG (List.mem_of_getElem? (i := 763) (by decide +kernel)) rfl⟩
abbrev MX3_placeOf : aw_M := (yX3_placeOf, cX3_placeOf, 2, some .int)
set_option maxRecDepth 20000 in
theorem cbX3_placeOf : aw_CB MX3_placeOf 1 := ⟨List.mem_of_getElem? (i := 1121) rfl, ⟨by decide, by decide, by decide +kernel⟩, aw_inG (List.mem_of_getElem? (i := 94) (by decide +kernel)) rfl, by decide⟩
theorem ciX3_placeOf : Cond.instanceMethod MX3_placeOf.1 ∈ aw_G ∧ Cond.selects MX3_placeOf.1.cls MX3_placeOf.1 MX3_placeOf.1 ∈ aw_G := ⟨aw_inG (List.mem_of_getElem? (i := 1119) (by decide +kernel)) rfl, aw_inG (List.mem_of_getElem? (i := 1120) (by decide +kernel)) rfl⟩
theorem cv_RX11_326 : aw_CV RX11 326 MX3_placeOf 1 := ⟨cbX3_placeOf, aw_inG (List.mem_of_getElem? (i := 1118) (by decide +kernel)) rfl, ciX3_placeOf.1, ciX3_placeOf.2⟩
abbrev MX2_placeOf : aw_M := (yX2_placeOf, cX2_placeOf, 5, some .int)
set_option maxRecDepth 20000 in
theorem cbX2_placeOf : aw_CB MX2_placeOf 2 := ⟨List.mem_of_getElem? (i := 1125) rfl, ⟨by decide, by decide, by decide +kernel⟩, aw_inG (List.mem_of_getElem? (i := 91) (by decide +kernel)) rfl, by decide⟩
theorem ciX2_placeOf : Cond.instanceMethod MX2_placeOf.1 ∈ aw_G ∧ Cond.selects MX2_placeOf.1.cls MX2_placeOf.1 MX2_placeOf.1 ∈ aw_G := ⟨aw_inG (List.mem_of_getElem? (i := 1123) (by decide +kernel)) rfl, aw_inG (List.mem_of_getElem? (i := 1124) (by decide +kernel)) rfl⟩
theorem cv_RX3_108 : aw_CV RX3 108 MX2_placeOf 2 := ⟨cbX2_placeOf, aw_inG (List.mem_of_getElem? (i := 1122) (by decide +kernel)) rfl, ciX2_placeOf.1, ciX2_placeOf.2⟩
theorem cv_RX11_316 : aw_CV RX11 316 MX4_nearest 1 := ⟨cbX4_nearest, aw_inG (List.mem_of_getElem? (i := 1082) (by decide +kernel)) rfl, ciX4_nearest.1, ciX4_nearest.2⟩
abbrev MX0_timesOf : aw_M := (yX0_timesOf, cX0_timesOf, 4, some .int)
set_option maxRecDepth 20000 in
theorem cbX0_timesOf : aw_CB MX0_timesOf 1 := ⟨List.mem_of_getElem? (i := 1019) rfl, ⟨by decide, by decide, by decide +kernel⟩, aw_inG (List.mem_of_getElem? (i := 97) (by decide +kernel)) rfl, by decide⟩
theorem ciX0_timesOf : Cond.instanceMethod MX0_timesOf.1 ∈ aw_G ∧ Cond.selects MX0_timesOf.1.cls MX0_timesOf.1 MX0_timesOf.1 ∈ aw_G := ⟨aw_inG (List.mem_of_getElem? (i := 1017) (by decide +kernel)) rfl, aw_inG (List.mem_of_getElem? (i := 1018) (by decide +kernel)) rfl⟩
theorem cv_RX11_285 : aw_CV RX11 285 MX0_timesOf 1 := ⟨cbX0_timesOf, aw_inG (List.mem_of_getElem? (i := 1016) (by decide +kernel)) rfl, ciX0_timesOf.1, ciX0_timesOf.2⟩
abbrev MX0_mostOften : aw_M := (yX0_mostOften, cX0_mostOften, 3, some .int)
set_option maxRecDepth 20000 in
theorem cbX0_mostOften : aw_CB MX0_mostOften 0 := ⟨List.mem_of_getElem? (i := 1042) rfl, ⟨by decide, by decide, by decide +kernel⟩, aw_inG (List.mem_of_getElem? (i := 97) (by decide +kernel)) rfl, by decide⟩
theorem ciX0_mostOften : Cond.instanceMethod MX0_mostOften.1 ∈ aw_G ∧ Cond.selects MX0_mostOften.1.cls MX0_mostOften.1 MX0_mostOften.1 ∈ aw_G := ⟨aw_inG (List.mem_of_getElem? (i := 1040) (by decide +kernel)) rfl, aw_inG (List.mem_of_getElem? (i := 1041) (by decide +kernel)) rfl⟩
theorem cv_RX11_294 : aw_CV RX11 294 MX0_mostOften 0 := ⟨cbX0_mostOften, aw_inG (List.mem_of_getElem? (i := 1039) (by decide +kernel)) rfl, ciX0_mostOften.1, ciX0_mostOften.2⟩
theorem fl_RX11_179 : aw_FL RX11 179 3 8 := ⟨RX3, TX3, 9, rfl, by decide, fG_3, aw_inG (List.mem_of_getElem? (i := 368) (by decide +kernel)) rfl⟩
theorem fl_RX11_176 : aw_FL RX11 176 3 7 := ⟨RX3, TX3, 9, rfl, by decide, fG_3, aw_inG (List.mem_of_getElem? (i := 366) (by decide +kernel)) rfl⟩
abbrev MX5_find : aw_M := (yX5_find, cX5_find, 2, none)
set_option maxRecDepth 20000 in
theorem cbX5_find : aw_CB MX5_find 0 := ⟨List.mem_of_getElem? (i := 804) rfl, ⟨by decide, by decide, by decide +kernel⟩, aw_inG (List.mem_of_getElem? (i := 93) (by decide +kernel)) rfl, by decide⟩
theorem ciX5_find : Cond.instanceMethod MX5_find.1 ∈ aw_G ∧ Cond.selects MX5_find.1.cls MX5_find.1 MX5_find.1 ∈ aw_G := ⟨aw_inG (List.mem_of_getElem? (i := 802) (by decide +kernel)) rfl, aw_inG (List.mem_of_getElem? (i := 803) (by decide +kernel)) rfl⟩
theorem cv_RX11_212 : aw_CV RX11 212 MX5_find 0 := ⟨cbX5_find, aw_inG (List.mem_of_getElem? (i := 801) (by decide +kernel)) rfl, ciX5_find.1, ciX5_find.2⟩
theorem fl_RX5_27 : aw_FL RX5 27 5 4 := ⟨RX5, TX5, 8, rfl, by decide, fG_5, aw_inG (List.mem_of_getElem? (i := 321) (by decide +kernel)) rfl⟩
theorem fl_RX5_19 : aw_FL RX5 19 5 0 := ⟨RX5, TX5, 8, rfl, by decide, fG_5, aw_inG (List.mem_of_getElem? (i := 317) (by decide +kernel)) rfl⟩
theorem fl_RX5_31 : aw_FL RX5 31 1 4 := ⟨RX1, TX1, 5, rfl, by decide, fG_1, aw_inG (List.mem_of_getElem? (i := 163) (by decide +kernel)) rfl⟩
theorem fl_RX5_11 : aw_FL RX5 11 5 2 := ⟨RX5, TX5, 8, rfl, by decide, fG_5, aw_inG (List.mem_of_getElem? (i := 319) (by decide +kernel)) rfl⟩
abbrev MJ7_fill_d0a16 : aw_M := (yJ7_fill_d0a16, cJ7_fill_d0a16, 5, none)
set_option maxRecDepth 20000 in
theorem cbJ7_fill_d0a16 : aw_CB MJ7_fill_d0a16 2 := ⟨List.mem_of_getElem? (i := 807) rfl, ⟨by decide, by decide, by decide +kernel⟩, aw_inG (List.mem_of_getElem? (i := 105) (by decide +kernel)) rfl, by decide⟩
theorem cs_RX5_37 : aw_CS RX5 37 MJ7_fill_d0a16 2 := ⟨cbJ7_fill_d0a16, aw_inG (List.mem_of_getElem? (i := 805) (by decide +kernel)) rfl, aw_inG (List.mem_of_getElem? (i := 806) (by decide +kernel)) rfl⟩
abbrev MX5_markAll : aw_M := (yX5_markAll, cX5_markAll, 4, none)
set_option maxRecDepth 20000 in
theorem cbX5_markAll : aw_CB MX5_markAll 0 := ⟨List.mem_of_getElem? (i := 811) rfl, ⟨by decide, by decide, by decide +kernel⟩, aw_inG (List.mem_of_getElem? (i := 93) (by decide +kernel)) rfl, by decide⟩
theorem ciX5_markAll : Cond.instanceMethod MX5_markAll.1 ∈ aw_G ∧ Cond.selects MX5_markAll.1.cls MX5_markAll.1 MX5_markAll.1 ∈ aw_G := ⟨aw_inG (List.mem_of_getElem? (i := 810) (by decide +kernel)) rfl, aw_inG (List.mem_of_getElem? (i := 16) (by decide +kernel)) rfl⟩
theorem cv_RX5_43 : aw_CV RX5 43 MX5_markAll 0 := ⟨cbX5_markAll, aw_inG (List.mem_of_getElem? (i := 808) (by decide +kernel)) rfl, ciX5_markAll.1, ciX5_markAll.2⟩
theorem cv_RX5_53 : aw_CV RX5 53 MX1_all 0 := ⟨cbX1_all, aw_inG (List.mem_of_getElem? (i := 812) (by decide +kernel)) rfl, ciX1_all.1, ciX1_all.2⟩
theorem fl_RX5_23 : aw_FL RX5 23 5 1 := ⟨RX5, TX5, 8, rfl, by decide, fG_5, aw_inG (List.mem_of_getElem? (i := 318) (by decide +kernel)) rfl⟩
theorem cv_RX5_57 : aw_CV RX5 57 MX8_lowest 1 := ⟨cbX8_lowest, aw_inG (List.mem_of_getElem? (i := 816) (by decide +kernel)) rfl, ciX8_lowest.1, ciX8_lowest.2⟩
theorem cv_RX5_62 : aw_CV RX5 62 MX8_rowsOf 1 := ⟨cbX8_rowsOf, aw_inG (List.mem_of_getElem? (i := 820) (by decide +kernel)) rfl, ciX8_rowsOf.1, ciX8_rowsOf.2⟩
abbrev MX8_row : aw_M := (yX8_row, cX8_row, 3, some .int)
set_option maxRecDepth 20000 in
theorem cbX8_row : aw_CB MX8_row 0 := ⟨List.mem_of_getElem? (i := 827) rfl, ⟨by decide, by decide, by decide +kernel⟩, aw_inG (List.mem_of_getElem? (i := 90) (by decide +kernel)) rfl, by decide⟩
theorem ciX8_row : Cond.instanceMethod MX8_row.1 ∈ aw_G ∧ Cond.selects MX8_row.1.cls MX8_row.1 MX8_row.1 ∈ aw_G := ⟨aw_inG (List.mem_of_getElem? (i := 825) (by decide +kernel)) rfl, aw_inG (List.mem_of_getElem? (i := 826) (by decide +kernel)) rfl⟩
theorem cv_RX5_66 : aw_CV RX5 66 MX8_row 0 := ⟨cbX8_row, aw_inG (List.mem_of_getElem? (i := 824) (by decide +kernel)) rfl, ciX8_row.1, ciX8_row.2⟩
abbrev MX5_mark : aw_M := (yX5_mark, cX5_mark, 5, none)
set_option maxRecDepth 20000 in
theorem cbX5_mark : aw_CB MX5_mark 2 := ⟨List.mem_of_getElem? (i := 831) rfl, ⟨by decide, by decide, by decide +kernel⟩, aw_inG (List.mem_of_getElem? (i := 93) (by decide +kernel)) rfl, by decide⟩
theorem ciX5_mark : Cond.instanceMethod MX5_mark.1 ∈ aw_G ∧ Cond.selects MX5_mark.1.cls MX5_mark.1 MX5_mark.1 ∈ aw_G := ⟨aw_inG (List.mem_of_getElem? (i := 830) (by decide +kernel)) rfl, aw_inG (List.mem_of_getElem? (i := 17) (by decide +kernel)) rfl⟩
theorem cv_RX5_69 : aw_CV RX5 69 MX5_mark 2 := ⟨cbX5_mark, aw_inG (List.mem_of_getElem? (i := 828) (by decide +kernel)) rfl, ciX5_mark.1, ciX5_mark.2⟩
theorem cl_RX5_122 : Cond.constantLong RX5 122 (Int64.ofInt (-1)) ∈ aw_G := aw_inG (List.mem_of_getElem? (i := 832) (by decide +kernel)) rfl
theorem cv_RX5_73 : aw_CV RX5 73 MX8_next 1 := ⟨cbX8_next, aw_inG (List.mem_of_getElem? (i := 833) (by decide +kernel)) rfl, ciX8_next.1, ciX8_next.2⟩
abbrev MX5_tally : aw_M := (yX5_tally, cX5_tally, 3, none)
set_option maxRecDepth 20000 in
theorem cbX5_tally : aw_CB MX5_tally 0 := ⟨List.mem_of_getElem? (i := 851) rfl, ⟨by decide, by decide, by decide +kernel⟩, aw_inG (List.mem_of_getElem? (i := 93) (by decide +kernel)) rfl, by decide⟩
theorem ciX5_tally : Cond.instanceMethod MX5_tally.1 ∈ aw_G ∧ Cond.selects MX5_tally.1.cls MX5_tally.1 MX5_tally.1 ∈ aw_G := ⟨aw_inG (List.mem_of_getElem? (i := 850) (by decide +kernel)) rfl, aw_inG (List.mem_of_getElem? (i := 19) (by decide +kernel)) rfl⟩
theorem cv_RX5_50 : aw_CV RX5 50 MX5_tally 0 := ⟨cbX5_tally, aw_inG (List.mem_of_getElem? (i := 848) (by decide +kernel)) rfl, ciX5_tally.1, ciX5_tally.2⟩
theorem fp_RX5_91 : aw_FP RX5 91 5 5 .int := ⟨RX5, TX5, 8, tyX5, rfl, by decide, fG_5, aw_inG (List.mem_of_getElem? (i := 323) (by decide +kernel)) rfl, tyX5_ok, nmX5, rfl, rfl⟩
abbrev MX5_isMarked : aw_M := (yX5_isMarked, cX5_isMarked, 2, some .boolean)
set_option maxRecDepth 20000 in
theorem cbX5_isMarked : aw_CB MX5_isMarked 1 := ⟨List.mem_of_getElem? (i := 855) rfl, ⟨by decide, by decide, by decide +kernel⟩, aw_inG (List.mem_of_getElem? (i := 93) (by decide +kernel)) rfl, by decide⟩
theorem ciX5_isMarked : Cond.instanceMethod MX5_isMarked.1 ∈ aw_G ∧ Cond.selects MX5_isMarked.1.cls MX5_isMarked.1 MX5_isMarked.1 ∈ aw_G := ⟨aw_inG (List.mem_of_getElem? (i := 854) (by decide +kernel)) rfl, aw_inG (List.mem_of_getElem? (i := 20) (by decide +kernel)) rfl⟩
theorem cv_RX5_94 : aw_CV RX5 94 MX5_isMarked 1 := ⟨cbX5_isMarked, aw_inG (List.mem_of_getElem? (i := 852) (by decide +kernel)) rfl, ciX5_isMarked.1, ciX5_isMarked.2⟩
theorem cv_RX5_98 : aw_CV RX5 98 MX8_put 1 := ⟨cbX8_put, aw_inG (List.mem_of_getElem? (i := 856) (by decide +kernel)) rfl, ciX8_put.1, ciX8_put.2⟩
theorem cv_RX5_101 : aw_CV RX5 101 MX8_settle 0 := ⟨cbX8_settle, aw_inG (List.mem_of_getElem? (i := 857) (by decide +kernel)) rfl, ciX8_settle.1, ciX8_settle.2⟩
theorem cv_RX5_104 : aw_CV RX5 104 MX8_takings 0 := ⟨cbX8_takings, aw_inG (List.mem_of_getElem? (i := 858) (by decide +kernel)) rfl, ciX8_takings.1, ciX8_takings.2⟩
theorem fl_RX5_91 : aw_FL RX5 91 5 5 := ⟨RX5, TX5, 8, rfl, by decide, fG_5, aw_inG (List.mem_of_getElem? (i := 323) (by decide +kernel)) rfl⟩
theorem fl_RX5_107 : aw_FL RX5 107 5 6 := ⟨RX5, TX5, 8, rfl, by decide, fG_5, aw_inG (List.mem_of_getElem? (i := 325) (by decide +kernel)) rfl⟩
theorem cm_RX5_110 : aw_CM RX5 110 Lib.Math.min.name Lib.Math.min.code 2 (some .int) := ⟨aw_inG (List.mem_of_getElem? (i := 859) (by decide +kernel)) rfl, cy_mmin⟩
theorem fp_RX5_107 : aw_FP RX5 107 5 6 .int := ⟨RX5, TX5, 8, tyX5, rfl, by decide, fG_5, aw_inG (List.mem_of_getElem? (i := 325) (by decide +kernel)) rfl, tyX5_ok, nmX5, rfl, rfl⟩
theorem fl_RX5_113 : aw_FL RX5 113 5 7 := ⟨RX5, TX5, 8, rfl, by decide, fG_5, aw_inG (List.mem_of_getElem? (i := 327) (by decide +kernel)) rfl⟩
theorem cm_RX5_83 : aw_CM RX5 83 Lib.Math.max.name Lib.Math.max.code 2 (some .int) := ⟨aw_inG (List.mem_of_getElem? (i := 847) (by decide +kernel)) rfl, cy_mmax⟩
theorem fp_RX5_113 : aw_FP RX5 113 5 7 .int := ⟨RX5, TX5, 8, tyX5, rfl, by decide, fG_5, aw_inG (List.mem_of_getElem? (i := 327) (by decide +kernel)) rfl, tyX5_ok, nmX5, rfl, rfl⟩
theorem fp_RX5_27 : aw_FP RX5 27 5 4 .boolean := ⟨RX5, TX5, 8, tyX5, rfl, by decide, fG_5, aw_inG (List.mem_of_getElem? (i := 321) (by decide +kernel)) rfl, tyX5_ok, nmX5, rfl, rfl⟩
abbrev MX5_unmarkWorse : aw_M := (yX5_unmarkWorse, cX5_unmarkWorse, 7, none)
set_option maxRecDepth 20000 in
theorem cbX5_unmarkWorse : aw_CB MX5_unmarkWorse 1 := ⟨List.mem_of_getElem? (i := 840) rfl, ⟨by decide, by decide, by decide +kernel⟩, aw_inG (List.mem_of_getElem? (i := 93) (by decide +kernel)) rfl, by decide⟩
theorem ciX5_unmarkWorse : Cond.instanceMethod MX5_unmarkWorse.1 ∈ aw_G ∧ Cond.selects MX5_unmarkWorse.1.cls MX5_unmarkWorse.1 MX5_unmarkWorse.1 ∈ aw_G := ⟨aw_inG (List.mem_of_getElem? (i := 839) (by decide +kernel)) rfl, aw_inG (List.mem_of_getElem? (i := 18) (by decide +kernel)) rfl⟩
theorem cv_RX5_46 : aw_CV RX5 46 MX5_unmarkWorse 1 := ⟨cbX5_unmarkWorse, aw_inG (List.mem_of_getElem? (i := 837) (by decide +kernel)) rfl, ciX5_unmarkWorse.1, ciX5_unmarkWorse.2⟩
theorem fl_RX5_76 : aw_FL RX5 76 1 1 := ⟨RX1, TX1, 5, rfl, by decide, fG_1, aw_inG (List.mem_of_getElem? (i := 151) (by decide +kernel)) rfl⟩
theorem fl_RX5_15 : aw_FL RX5 15 5 3 := ⟨RX5, TX5, 8, rfl, by decide, fG_5, aw_inG (List.mem_of_getElem? (i := 320) (by decide +kernel)) rfl⟩
theorem fl_RX5_88 : aw_FL RX5 88 8 2 := ⟨RX8, TX8, 8, rfl, by decide, fG_8, aw_inG (List.mem_of_getElem? (i := 240) (by decide +kernel)) rfl⟩
theorem cv_RX5_79 : aw_CV RX5 79 MX8_gainWith 2 := ⟨cbX8_gainWith, aw_inG (List.mem_of_getElem? (i := 841) (by decide +kernel)) rfl, ciX8_gainWith.1, ciX8_gainWith.2⟩
abbrev MX5_nth : aw_M := (yX5_nth, cX5_nth, 5, some .int)
set_option maxRecDepth 20000 in
theorem cbX5_nth : aw_CB MX5_nth 1 := ⟨List.mem_of_getElem? (i := 863) rfl, ⟨by decide, by decide, by decide +kernel⟩, aw_inG (List.mem_of_getElem? (i := 93) (by decide +kernel)) rfl, by decide⟩
theorem ciX5_nth : Cond.instanceMethod MX5_nth.1 ∈ aw_G ∧ Cond.selects MX5_nth.1.cls MX5_nth.1 MX5_nth.1 ∈ aw_G := ⟨aw_inG (List.mem_of_getElem? (i := 861) (by decide +kernel)) rfl, aw_inG (List.mem_of_getElem? (i := 862) (by decide +kernel)) rfl⟩
theorem cv_RX11_218 : aw_CV RX11 218 MX5_nth 1 := ⟨cbX5_nth, aw_inG (List.mem_of_getElem? (i := 860) (by decide +kernel)) rfl, ciX5_nth.1, ciX5_nth.2⟩
abbrev MJ13_bitCount_95d88 : aw_M := (yJ13_bitCount_95d88, cJ13_bitCount_95d88, 2, some .int)
set_option maxRecDepth 20000 in
theorem cbJ13_bitCount_95d88 : aw_CB MJ13_bitCount_95d88 1 := ⟨List.mem_of_getElem? (i := 866) rfl, ⟨by decide, by decide, by decide +kernel⟩, aw_inG (List.mem_of_getElem? (i := 111) (by decide +kernel)) rfl, by decide⟩
theorem cs_RX5_116 : aw_CS RX5 116 MJ13_bitCount_95d88 1 := ⟨cbJ13_bitCount_95d88, aw_inG (List.mem_of_getElem? (i := 864) (by decide +kernel)) rfl, aw_inG (List.mem_of_getElem? (i := 865) (by decide +kernel)) rfl⟩
theorem cl_RJ13_314 : Cond.constantLong RJ13 314 (Int64.ofInt 6148914691236517205) ∈ aw_G := aw_inG (List.mem_of_getElem? (i := 867) (by decide +kernel)) rfl
theorem cl_RJ13_316 : Cond.constantLong RJ13 316 (Int64.ofInt 3689348814741910323) ∈ aw_G := aw_inG (List.mem_of_getElem? (i := 868) (by decide +kernel)) rfl
theorem cl_RJ13_318 : Cond.constantLong RJ13 318 (Int64.ofInt 1085102592571150095) ∈ aw_G := aw_inG (List.mem_of_getElem? (i := 869) (by decide +kernel)) rfl
theorem fl_RX11_215 : aw_FL RX11 215 5 5 := ⟨RX5, TX5, 8, rfl, by decide, fG_5, aw_inG (List.mem_of_getElem? (i := 324) (by decide +kernel)) rfl⟩
theorem fl_RX11_77 : aw_FL RX11 77 11 9 := ⟨RX11, TX11, 15, rfl, by decide, fG_11, aw_inG (List.mem_of_getElem? (i := 467) (by decide +kernel)) rfl⟩
abbrev MX6_go : aw_M := (yX6_go, cX6_go, 3, none)
set_option maxRecDepth 20000 in
theorem cbX6_go : aw_CB MX6_go 0 := ⟨List.mem_of_getElem? (i := 961) rfl, ⟨by decide, by decide, by decide +kernel⟩, aw_inG (List.mem_of_getElem? (i := 96) (by decide +kernel)) rfl, by decide⟩
theorem ciX6_go : Cond.instanceMethod MX6_go.1 ∈ aw_G ∧ Cond.selects MX6_go.1.cls MX6_go.1 MX6_go.1 ∈ aw_G := ⟨aw_inG (List.mem_of_getElem? (i := 959) (by decide +kernel)) rfl, aw_inG (List.mem_of_getElem? (i := 960) (by decide +kernel)) rfl⟩
theorem cv_RX11_269 : aw_CV RX11 269 MX6_go 0 := ⟨cbX6_go, aw_inG (List.mem_of_getElem? (i := 958) (by decide +kernel)) rfl, ciX6_go.1, ciX6_go.2⟩
theorem fG_6 : ∀ w ∈ u_ws RX6 TX6 5, w ∈ aw_G := aw_in_all [424, 426, 428, 430, 432] (by decide +kernel) (by decide +kernel)
theorem fl_RX6_15 : aw_FL RX6 15 6 0 := ⟨RX6, TX6, 5, rfl, by decide, fG_6, aw_inG (List.mem_of_getElem? (i := 417) (by decide +kernel)) rfl⟩
theorem fl_RX6_23 : aw_FL RX6 23 1 4 := ⟨RX1, TX1, 5, rfl, by decide, fG_1, aw_inG (List.mem_of_getElem? (i := 162) (by decide +kernel)) rfl⟩
theorem fl_RX6_19 : aw_FL RX6 19 6 1 := ⟨RX6, TX6, 5, rfl, by decide, fG_6, aw_inG (List.mem_of_getElem? (i := 418) (by decide +kernel)) rfl⟩
theorem cv_RX6_38 : aw_CV RX6 38 MX8_row 0 := ⟨cbX8_row, aw_inG (List.mem_of_getElem? (i := 968) (by decide +kernel)) rfl, ciX8_row.1, ciX8_row.2⟩
theorem fp_RX6_42 : aw_FP RX6 42 6 4 .int := ⟨RX6, TX6, 5, tyX6, rfl, by decide, fG_6, aw_inG (List.mem_of_getElem? (i := 422) (by decide +kernel)) rfl, tyX6_ok, nmX6, rfl, rfl⟩
theorem fp_RX6_44 : aw_FP RX6 44 6 3 .int := ⟨RX6, TX6, 5, tyX6, rfl, by decide, fG_6, aw_inG (List.mem_of_getElem? (i := 420) (by decide +kernel)) rfl, tyX6_ok, nmX6, rfl, rfl⟩
theorem fl_RX6_44 : aw_FL RX6 44 6 3 := ⟨RX6, TX6, 5, rfl, by decide, fG_6, aw_inG (List.mem_of_getElem? (i := 420) (by decide +kernel)) rfl⟩
theorem fl_RX6_42 : aw_FL RX6 42 6 4 := ⟨RX6, TX6, 5, rfl, by decide, fG_6, aw_inG (List.mem_of_getElem? (i := 422) (by decide +kernel)) rfl⟩
abbrev MX6_rowBehind : aw_M := (yX6_rowBehind, cX6_rowBehind, 3, some .int)
set_option maxRecDepth 20000 in
theorem cbX6_rowBehind : aw_CB MX6_rowBehind 1 := ⟨List.mem_of_getElem? (i := 972) rfl, ⟨by decide, by decide, by decide +kernel⟩, aw_inG (List.mem_of_getElem? (i := 96) (by decide +kernel)) rfl, by decide⟩
theorem ciX6_rowBehind : Cond.instanceMethod MX6_rowBehind.1 ∈ aw_G ∧ Cond.selects MX6_rowBehind.1.cls MX6_rowBehind.1 MX6_rowBehind.1 ∈ aw_G := ⟨aw_inG (List.mem_of_getElem? (i := 971) (by decide +kernel)) rfl, aw_inG (List.mem_of_getElem? (i := 25) (by decide +kernel)) rfl⟩
theorem cv_RX6_47 : aw_CV RX6 47 MX6_rowBehind 1 := ⟨cbX6_rowBehind, aw_inG (List.mem_of_getElem? (i := 969) (by decide +kernel)) rfl, ciX6_rowBehind.1, ciX6_rowBehind.2⟩
theorem cv_RX6_62 : aw_CV RX6 62 MX8_put 1 := ⟨cbX8_put, aw_inG (List.mem_of_getElem? (i := 973) (by decide +kernel)) rfl, ciX8_put.1, ciX8_put.2⟩
theorem fl_RX6_9 : aw_FL RX6 9 6 2 := ⟨RX6, TX6, 5, rfl, by decide, fG_6, aw_inG (List.mem_of_getElem? (i := 419) (by decide +kernel)) rfl⟩
theorem fl_RX6_29 : aw_FL RX6 29 8 2 := ⟨RX8, TX8, 8, rfl, by decide, fG_8, aw_inG (List.mem_of_getElem? (i := 237) (by decide +kernel)) rfl⟩
theorem cc_RX6_68 : aw_CC RX6 68 := ⟨aw_inG (List.mem_of_getElem? (i := 979) (by decide +kernel)) rfl, aw_inG (List.mem_of_getElem? (i := 531) (by decide +kernel)) rfl, aw_inG (List.mem_of_getElem? (i := 530) (by decide +kernel)) rfl, aw_inG (List.mem_of_getElem? (i := 99) (by decide +kernel)) rfl⟩
abbrev MX6_bidAnew : aw_M := (yX6_bidAnew, cX6_bidAnew, 3, some .int)
set_option maxRecDepth 20000 in
theorem cbX6_bidAnew : aw_CB MX6_bidAnew 1 := ⟨List.mem_of_getElem? (i := 977) rfl, ⟨by decide, by decide, by decide +kernel⟩, aw_inG (List.mem_of_getElem? (i := 96) (by decide +kernel)) rfl, by decide⟩
theorem ciX6_bidAnew : Cond.instanceMethod MX6_bidAnew.1 ∈ aw_G ∧ Cond.selects MX6_bidAnew.1.cls MX6_bidAnew.1 MX6_bidAnew.1 ∈ aw_G := ⟨aw_inG (List.mem_of_getElem? (i := 976) (by decide +kernel)) rfl, aw_inG (List.mem_of_getElem? (i := 26) (by decide +kernel)) rfl⟩
theorem cv_RX6_65 : aw_CV RX6 65 MX6_bidAnew 1 := ⟨cbX6_bidAnew, aw_inG (List.mem_of_getElem? (i := 974) (by decide +kernel)) rfl, ciX6_bidAnew.1, ciX6_bidAnew.2⟩
theorem fl_RX6_54 : aw_FL RX6 54 1 1 := ⟨RX1, TX1, 5, rfl, by decide, fG_1, aw_inG (List.mem_of_getElem? (i := 150) (by decide +kernel)) rfl⟩
theorem cv_RX6_50 : aw_CV RX6 50 MX1_item 2 := ⟨cbX1_item, aw_inG (List.mem_of_getElem? (i := 966) (by decide +kernel)) rfl, ciX1_item.1, ciX1_item.2⟩
abbrev MX6_told : aw_M := (yX6_told, cX6_told, 2, some .int)
set_option maxRecDepth 20000 in
theorem cbX6_told : aw_CB MX6_told 1 := ⟨List.mem_of_getElem? (i := 965) rfl, ⟨by decide, by decide, by decide +kernel⟩, aw_inG (List.mem_of_getElem? (i := 96) (by decide +kernel)) rfl, by decide⟩
theorem ciX6_told : Cond.instanceMethod MX6_told.1 ∈ aw_G ∧ Cond.selects MX6_told.1.cls MX6_told.1 MX6_told.1 ∈ aw_G := ⟨aw_inG (List.mem_of_getElem? (i := 964) (by decide +kernel)) rfl, aw_inG (List.mem_of_getElem? (i := 24) (by decide +kernel)) rfl⟩
theorem cv_RX6_34 : aw_CV RX6 34 MX6_told 1 := ⟨cbX6_told, aw_inG (List.mem_of_getElem? (i := 962) (by decide +kernel)) rfl, ciX6_told.1, ciX6_told.2⟩
theorem cm_RX6_57 : aw_CM RX6 57 Lib.Math.min.name Lib.Math.min.code 2 (some .int) := ⟨aw_inG (List.mem_of_getElem? (i := 967) (by decide +kernel)) rfl, cy_mmin⟩
theorem cv_RX6_74 : aw_CV RX6 74 MX8_bestBid 1 := ⟨cbX8_bestBid, aw_inG (List.mem_of_getElem? (i := 978) (by decide +kernel)) rfl, ciX8_bestBid.1, ciX8_bestBid.2⟩
abbrev MX6_ring : aw_M := (yX6_ring, cX6_ring, 6, some .int)
set_option maxRecDepth 20000 in
theorem cbX6_ring : aw_CB MX6_ring 0 := ⟨List.mem_of_getElem? (i := 983) rfl, ⟨by decide, by decide, by decide +kernel⟩, aw_inG (List.mem_of_getElem? (i := 96) (by decide +kernel)) rfl, by decide⟩
theorem ciX6_ring : Cond.instanceMethod MX6_ring.1 ∈ aw_G ∧ Cond.selects MX6_ring.1.cls MX6_ring.1 MX6_ring.1 ∈ aw_G := ⟨aw_inG (List.mem_of_getElem? (i := 981) (by decide +kernel)) rfl, aw_inG (List.mem_of_getElem? (i := 982) (by decide +kernel)) rfl⟩
theorem cv_RX11_277 : aw_CV RX11 277 MX6_ring 0 := ⟨cbX6_ring, aw_inG (List.mem_of_getElem? (i := 980) (by decide +kernel)) rfl, ciX6_ring.1, ciX6_ring.2⟩
theorem cn_RX6_77 : Cond.constant RX6 77 (Int32.ofInt 4000000) ∈ aw_G := aw_inG (List.mem_of_getElem? (i := 984) (by decide +kernel)) rfl
theorem fl_RX11_274 : aw_FL RX11 274 6 4 := ⟨RX6, TX6, 5, rfl, by decide, fG_6, aw_inG (List.mem_of_getElem? (i := 423) (by decide +kernel)) rfl⟩
theorem fl_RX11_271 : aw_FL RX11 271 6 3 := ⟨RX6, TX6, 5, rfl, by decide, fG_6, aw_inG (List.mem_of_getElem? (i := 421) (by decide +kernel)) rfl⟩
theorem cv_RX11_160 : aw_CV RX11 160 MX7_holds 1 := ⟨cbX7_holds, aw_inG (List.mem_of_getElem? (i := 646) (by decide +kernel)) rfl, ciX7_holds.1, ciX7_holds.2⟩
theorem fl_RX11_224 : aw_FL RX11 224 5 7 := ⟨RX5, TX5, 8, rfl, by decide, fG_5, aw_inG (List.mem_of_getElem? (i := 328) (by decide +kernel)) rfl⟩
theorem fl_RX11_221 : aw_FL RX11 221 5 6 := ⟨RX5, TX5, 8, rfl, by decide, fG_5, aw_inG (List.mem_of_getElem? (i := 326) (by decide +kernel)) rfl⟩
theorem fl_RX11_70 : aw_FL RX11 70 11 8 := ⟨RX11, TX11, 15, rfl, by decide, fG_11, aw_inG (List.mem_of_getElem? (i := 466) (by decide +kernel)) rfl⟩
abbrev MX10_behindTheFirst : aw_M := (yX10_behindTheFirst, cX10_behindTheFirst, 5, none)
set_option maxRecDepth 20000 in
theorem cbX10_behindTheFirst : aw_CB MX10_behindTheFirst 1 := ⟨List.mem_of_getElem? (i := 932) rfl, ⟨by decide, by decide, by decide +kernel⟩, aw_inG (List.mem_of_getElem? (i := 95) (by decide +kernel)) rfl, by decide⟩
theorem ciX10_behindTheFirst : Cond.instanceMethod MX10_behindTheFirst.1 ∈ aw_G ∧ Cond.selects MX10_behindTheFirst.1.cls MX10_behindTheFirst.1 MX10_behindTheFirst.1 ∈ aw_G := ⟨aw_inG (List.mem_of_getElem? (i := 930) (by decide +kernel)) rfl, aw_inG (List.mem_of_getElem? (i := 931) (by decide +kernel)) rfl⟩
theorem cv_RX11_260 : aw_CV RX11 260 MX10_behindTheFirst 1 := ⟨cbX10_behindTheFirst, aw_inG (List.mem_of_getElem? (i := 929) (by decide +kernel)) rfl, ciX10_behindTheFirst.1, ciX10_behindTheFirst.2⟩
theorem fG_10 : ∀ w ∈ u_ws RX10 TX10 5, w ∈ aw_G := aw_in_all [399, 401, 403, 405, 407] (by decide +kernel) (by decide +kernel)
theorem fl_RX10_9 : aw_FL RX10 9 10 1 := ⟨RX10, TX10, 5, rfl, by decide, fG_10, aw_inG (List.mem_of_getElem? (i := 395) (by decide +kernel)) rfl⟩
theorem cs_RX10_30 : aw_CS RX10 30 MJ7_fill_53178 2 := ⟨cbJ7_fill_53178, aw_inG (List.mem_of_getElem? (i := 933) (by decide +kernel)) rfl, aw_inG (List.mem_of_getElem? (i := 621) (by decide +kernel)) rfl⟩
theorem cm_RX10_36 : aw_CM RX10 36 Lib.Math.min.name Lib.Math.min.code 2 (some .int) := ⟨aw_inG (List.mem_of_getElem? (i := 934) (by decide +kernel)) rfl, cy_mmin⟩
theorem fl_RX10_26 : aw_FL RX10 26 10 0 := ⟨RX10, TX10, 5, rfl, by decide, fG_10, aw_inG (List.mem_of_getElem? (i := 394) (by decide +kernel)) rfl⟩
theorem fl_RX10_42 : aw_FL RX10 42 1 4 := ⟨RX1, TX1, 5, rfl, by decide, fG_1, aw_inG (List.mem_of_getElem? (i := 165) (by decide +kernel)) rfl⟩
theorem fl_RX10_19 : aw_FL RX10 19 10 3 := ⟨RX10, TX10, 5, rfl, by decide, fG_10, aw_inG (List.mem_of_getElem? (i := 397) (by decide +kernel)) rfl⟩
theorem fl_RX10_48 : aw_FL RX10 48 1 1 := ⟨RX1, TX1, 5, rfl, by decide, fG_1, aw_inG (List.mem_of_getElem? (i := 149) (by decide +kernel)) rfl⟩
theorem fl_RX10_15 : aw_FL RX10 15 10 2 := ⟨RX10, TX10, 5, rfl, by decide, fG_10, aw_inG (List.mem_of_getElem? (i := 396) (by decide +kernel)) rfl⟩
theorem cv_RX10_51 : aw_CV RX10 51 MX1_all 0 := ⟨cbX1_all, aw_inG (List.mem_of_getElem? (i := 935) (by decide +kernel)) rfl, ciX1_all.1, ciX1_all.2⟩
abbrev MX10_decide : aw_M := (yX10_decide, cX10_decide, 8, none)
set_option maxRecDepth 20000 in
theorem cbX10_decide : aw_CB MX10_decide 3 := ⟨List.mem_of_getElem? (i := 939) rfl, ⟨by decide, by decide, by decide +kernel⟩, aw_inG (List.mem_of_getElem? (i := 95) (by decide +kernel)) rfl, by decide⟩
theorem ciX10_decide : Cond.instanceMethod MX10_decide.1 ∈ aw_G ∧ Cond.selects MX10_decide.1.cls MX10_decide.1 MX10_decide.1 ∈ aw_G := ⟨aw_inG (List.mem_of_getElem? (i := 938) (by decide +kernel)) rfl, aw_inG (List.mem_of_getElem? (i := 23) (by decide +kernel)) rfl⟩
theorem cv_RX10_55 : aw_CV RX10 55 MX10_decide 3 := ⟨cbX10_decide, aw_inG (List.mem_of_getElem? (i := 936) (by decide +kernel)) rfl, ciX10_decide.1, ciX10_decide.2⟩
theorem cs_RX10_59 : aw_CS RX10 59 MJ6_bitCount_0f7a4 1 := ⟨cbJ6_bitCount_0f7a4, aw_inG (List.mem_of_getElem? (i := 940) (by decide +kernel)) rfl, aw_inG (List.mem_of_getElem? (i := 763) (by decide +kernel)) rfl⟩
theorem cv_RX10_65 : aw_CV RX10 65 MX1_item 2 := ⟨cbX1_item, aw_inG (List.mem_of_getElem? (i := 941) (by decide +kernel)) rfl, ciX1_item.1, ciX1_item.2⟩
abbrev MX10_tillTheFirst : aw_M := (yX10_tillTheFirst, cX10_tillTheFirst, 10, some .int)
set_option maxRecDepth 20000 in
theorem cbX10_tillTheFirst : aw_CB MX10_tillTheFirst 2 := ⟨List.mem_of_getElem? (i := 945) rfl, ⟨by decide, by decide, by decide +kernel⟩, aw_inG (List.mem_of_getElem? (i := 95) (by decide +kernel)) rfl, by decide⟩
theorem ciX10_tillTheFirst : Cond.instanceMethod MX10_tillTheFirst.1 ∈ aw_G ∧ Cond.selects MX10_tillTheFirst.1.cls MX10_tillTheFirst.1 MX10_tillTheFirst.1 ∈ aw_G := ⟨aw_inG (List.mem_of_getElem? (i := 943) (by decide +kernel)) rfl, aw_inG (List.mem_of_getElem? (i := 944) (by decide +kernel)) rfl⟩
theorem cv_RX11_263 : aw_CV RX11 263 MX10_tillTheFirst 2 := ⟨cbX10_tillTheFirst, aw_inG (List.mem_of_getElem? (i := 942) (by decide +kernel)) rfl, ciX10_tillTheFirst.1, ciX10_tillTheFirst.2⟩
theorem fl_RX10_22 : aw_FL RX10 22 10 4 := ⟨RX10, TX10, 5, rfl, by decide, fG_10, aw_inG (List.mem_of_getElem? (i := 398) (by decide +kernel)) rfl⟩
theorem fl_RX11_185 : aw_FL RX11 185 3 4 := ⟨RX3, TX3, 9, rfl, by decide, fG_3, aw_inG (List.mem_of_getElem? (i := 361) (by decide +kernel)) rfl⟩
abbrev MX0_gainsOf : aw_M := (yX0_gainsOf, cX0_gainsOf, 4, some .int)
set_option maxRecDepth 20000 in
theorem cbX0_gainsOf : aw_CB MX0_gainsOf 1 := ⟨List.mem_of_getElem? (i := 1050) rfl, ⟨by decide, by decide, by decide +kernel⟩, aw_inG (List.mem_of_getElem? (i := 97) (by decide +kernel)) rfl, by decide⟩
theorem ciX0_gainsOf : Cond.instanceMethod MX0_gainsOf.1 ∈ aw_G ∧ Cond.selects MX0_gainsOf.1.cls MX0_gainsOf.1 MX0_gainsOf.1 ∈ aw_G := ⟨aw_inG (List.mem_of_getElem? (i := 1048) (by decide +kernel)) rfl, aw_inG (List.mem_of_getElem? (i := 1049) (by decide +kernel)) rfl⟩
theorem cv_RX11_297 : aw_CV RX11 297 MX0_gainsOf 1 := ⟨cbX0_gainsOf, aw_inG (List.mem_of_getElem? (i := 1047) (by decide +kernel)) rfl, ciX0_gainsOf.1, ciX0_gainsOf.2⟩
theorem cv_RX0_73 : aw_CV RX0 73 MX8_gainOf 1 := ⟨cbX8_gainOf, aw_inG (List.mem_of_getElem? (i := 1051) (by decide +kernel)) rfl, ciX8_gainOf.1, ciX8_gainOf.2⟩
abbrev MX7_keep : aw_M := (yX7_keep, cX7_keep, 1, some .int)
set_option maxRecDepth 20000 in
theorem cbX7_keep : aw_CB MX7_keep 0 := ⟨List.mem_of_getElem? (i := 626) rfl, ⟨by decide, by decide, by decide +kernel⟩, aw_inG (List.mem_of_getElem? (i := 89) (by decide +kernel)) rfl, by decide⟩
theorem ciX7_keep : Cond.instanceMethod MX7_keep.1 ∈ aw_G ∧ Cond.selects MX7_keep.1.cls MX7_keep.1 MX7_keep.1 ∈ aw_G := ⟨aw_inG (List.mem_of_getElem? (i := 624) (by decide +kernel)) rfl, aw_inG (List.mem_of_getElem? (i := 625) (by decide +kernel)) rfl⟩
theorem cv_RX11_126 : aw_CV RX11 126 MX7_keep 0 := ⟨cbX7_keep, aw_inG (List.mem_of_getElem? (i := 623) (by decide +kernel)) rfl, ciX7_keep.1, ciX7_keep.2⟩
theorem cc_RX7_37 : aw_CC RX7 37 := ⟨aw_inG (List.mem_of_getElem? (i := 627) (by decide +kernel)) rfl, aw_inG (List.mem_of_getElem? (i := 531) (by decide +kernel)) rfl, aw_inG (List.mem_of_getElem? (i := 530) (by decide +kernel)) rfl, aw_inG (List.mem_of_getElem? (i := 99) (by decide +kernel)) rfl⟩
theorem fp_RX7_30 : aw_FP RX7 30 7 6 .int := ⟨RX7, TX7, 7, tyX7, rfl, by decide, fG_7, aw_inG (List.mem_of_getElem? (i := 195) (by decide +kernel)) rfl, tyX7_ok, nmX7, rfl, rfl⟩
abbrev MX11_enterLand : aw_M := (yX11_enterLand, cX11_enterLand, 1, some .int)
set_option maxRecDepth 20000 in
theorem cbX11_enterLand : aw_CB MX11_enterLand 0 := ⟨List.mem_of_getElem? (i := 615) rfl, ⟨by decide, by decide, by decide +kernel⟩, aw_inG (List.mem_of_getElem? (i := 86) (by decide +kernel)) rfl, by decide⟩
theorem ciX11_enterLand : Cond.instanceMethod MX11_enterLand.1 ∈ aw_G ∧ Cond.selects MX11_enterLand.1.cls MX11_enterLand.1 MX11_enterLand.1 ∈ aw_G := ⟨aw_inG (List.mem_of_getElem? (i := 614) (by decide +kernel)) rfl, aw_inG (List.mem_of_getElem? (i := 8) (by decide +kernel)) rfl⟩
theorem cv_RX11_119 : aw_CV RX11 119 MX11_enterLand 0 := ⟨cbX11_enterLand, aw_inG (List.mem_of_getElem? (i := 612) (by decide +kernel)) rfl, ciX11_enterLand.1, ciX11_enterLand.2⟩
abbrev MX11_mayPact : aw_M := (yX11_mayPact, cX11_mayPact, 3, some .boolean)
set_option maxRecDepth 20000 in
theorem cbX11_mayPact : aw_CB MX11_mayPact 2 := ⟨List.mem_of_getElem? (i := 904) rfl, ⟨by decide, by decide, by decide +kernel⟩, aw_inG (List.mem_of_getElem? (i := 86) (by decide +kernel)) rfl, by decide⟩
theorem ciX11_mayPact : Cond.instanceMethod MX11_mayPact.1 ∈ aw_G ∧ Cond.selects MX11_mayPact.1.cls MX11_mayPact.1 MX11_mayPact.1 ∈ aw_G := ⟨aw_inG (List.mem_of_getElem? (i := 903) (by decide +kernel)) rfl, aw_inG (List.mem_of_getElem? (i := 21) (by decide +kernel)) rfl⟩
theorem cv_RX11_245 : aw_CV RX11 245 MX11_mayPact 2 := ⟨cbX11_mayPact, aw_inG (List.mem_of_getElem? (i := 901) (by decide +kernel)) rfl, ciX11_mayPact.1, ciX11_mayPact.2⟩
abbrev MX4_best : aw_M := (yX4_best, cX4_best, 5, none)
set_option maxRecDepth 20000 in
theorem cbX4_best : aw_CB MX4_best 1 := ⟨List.mem_of_getElem? (i := 909) rfl, ⟨by decide, by decide, by decide +kernel⟩, aw_inG (List.mem_of_getElem? (i := 92) (by decide +kernel)) rfl, by decide⟩
theorem ciX4_best : Cond.instanceMethod MX4_best.1 ∈ aw_G ∧ Cond.selects MX4_best.1.cls MX4_best.1 MX4_best.1 ∈ aw_G := ⟨aw_inG (List.mem_of_getElem? (i := 907) (by decide +kernel)) rfl, aw_inG (List.mem_of_getElem? (i := 908) (by decide +kernel)) rfl⟩
theorem cv_RX11_248 : aw_CV RX11 248 MX4_best 1 := ⟨cbX4_best, aw_inG (List.mem_of_getElem? (i := 906) (by decide +kernel)) rfl, ciX4_best.1, ciX4_best.2⟩
abbrev MX4_gainOfSome : aw_M := (yX4_gainOfSome, cX4_gainOfSome, 4, some .int)
set_option maxRecDepth 20000 in
theorem cbX4_gainOfSome : aw_CB MX4_gainOfSome 1 := ⟨List.mem_of_getElem? (i := 916) rfl, ⟨by decide, by decide, by decide +kernel⟩, aw_inG (List.mem_of_getElem? (i := 92) (by decide +kernel)) rfl, by decide⟩
theorem ciX4_gainOfSome : Cond.instanceMethod MX4_gainOfSome.1 ∈ aw_G ∧ Cond.selects MX4_gainOfSome.1.cls MX4_gainOfSome.1 MX4_gainOfSome.1 ∈ aw_G := ⟨aw_inG (List.mem_of_getElem? (i := 915) (by decide +kernel)) rfl, aw_inG (List.mem_of_getElem? (i := 22) (by decide +kernel)) rfl⟩
theorem cv_RX4_61 : aw_CV RX4 61 MX4_gainOfSome 1 := ⟨cbX4_gainOfSome, aw_inG (List.mem_of_getElem? (i := 913) (by decide +kernel)) rfl, ciX4_gainOfSome.1, ciX4_gainOfSome.2⟩
theorem fp_RX4_64 : aw_FP RX4 64 4 5 .int := ⟨RX4, TX4, 9, tyX4, rfl, by decide, fG_4, aw_inG (List.mem_of_getElem? (i := 284) (by decide +kernel)) rfl, tyX4_ok, nmX4, rfl, rfl⟩
theorem cv_RX4_67 : aw_CV RX4 67 MX8_row 0 := ⟨cbX8_row, aw_inG (List.mem_of_getElem? (i := 918) (by decide +kernel)) rfl, ciX8_row.1, ciX8_row.2⟩
theorem fp_RX4_71 : aw_FP RX4 71 4 6 .int := ⟨RX4, TX4, 9, tyX4, rfl, by decide, fG_4, aw_inG (List.mem_of_getElem? (i := 286) (by decide +kernel)) rfl, tyX4_ok, nmX4, rfl, rfl⟩
theorem fl_RX4_64 : aw_FL RX4 64 4 5 := ⟨RX4, TX4, 9, rfl, by decide, fG_4, aw_inG (List.mem_of_getElem? (i := 284) (by decide +kernel)) rfl⟩
theorem fl_RX11_254 : aw_FL RX11 254 4 6 := ⟨RX4, TX4, 9, rfl, by decide, fG_4, aw_inG (List.mem_of_getElem? (i := 287) (by decide +kernel)) rfl⟩
theorem fl_RX11_251 : aw_FL RX11 251 4 5 := ⟨RX4, TX4, 9, rfl, by decide, fG_4, aw_inG (List.mem_of_getElem? (i := 285) (by decide +kernel)) rfl⟩
theorem cv_RX11_257 : aw_CV RX11 257 MX8_put 1 := ⟨cbX8_put, aw_inG (List.mem_of_getElem? (i := 924) (by decide +kernel)) rfl, ciX8_put.1, ciX8_put.2⟩
abbrev MX4_rowsOfNobody : aw_M := (yX4_rowsOfNobody, cX4_rowsOfNobody, 4, some .int)
set_option maxRecDepth 20000 in
theorem cbX4_rowsOfNobody : aw_CB MX4_rowsOfNobody 0 := ⟨List.mem_of_getElem? (i := 1077) rfl, ⟨by decide, by decide, by decide +kernel⟩, aw_inG (List.mem_of_getElem? (i := 92) (by decide +kernel)) rfl, by decide⟩
theorem ciX4_rowsOfNobody : Cond.instanceMethod MX4_rowsOfNobody.1 ∈ aw_G ∧ Cond.selects MX4_rowsOfNobody.1.cls MX4_rowsOfNobody.1 MX4_rowsOfNobody.1 ∈ aw_G := ⟨aw_inG (List.mem_of_getElem? (i := 1075) (by decide +kernel)) rfl, aw_inG (List.mem_of_getElem? (i := 1076) (by decide +kernel)) rfl⟩
theorem cv_RX11_313 : aw_CV RX11 313 MX4_rowsOfNobody 0 := ⟨cbX4_rowsOfNobody, aw_inG (List.mem_of_getElem? (i := 1074) (by decide +kernel)) rfl, ciX4_rowsOfNobody.1, ciX4_rowsOfNobody.2⟩
abbrev MX10_turnOf : aw_M := (yX10_turnOf, cX10_turnOf, 7, some .int)
set_option maxRecDepth 20000 in
theorem cbX10_turnOf : aw_CB MX10_turnOf 2 := ⟨List.mem_of_getElem? (i := 949) rfl, ⟨by decide, by decide, by decide +kernel⟩, aw_inG (List.mem_of_getElem? (i := 95) (by decide +kernel)) rfl, by decide⟩
theorem ciX10_turnOf : Cond.instanceMethod MX10_turnOf.1 ∈ aw_G ∧ Cond.selects MX10_turnOf.1.cls MX10_turnOf.1 MX10_turnOf.1 ∈ aw_G := ⟨aw_inG (List.mem_of_getElem? (i := 947) (by decide +kernel)) rfl, aw_inG (List.mem_of_getElem? (i := 948) (by decide +kernel)) rfl⟩
theorem cv_RX11_266 : aw_CV RX11 266 MX10_turnOf 2 := ⟨cbX10_turnOf, aw_inG (List.mem_of_getElem? (i := 946) (by decide +kernel)) rfl, ciX10_turnOf.1, ciX10_turnOf.2⟩
abbrev MX0_draw : aw_M := (yX0_draw, cX0_draw, 8, none)
set_option maxRecDepth 20000 in
theorem cbX0_draw : aw_CB MX0_draw 2 := ⟨List.mem_of_getElem? (i := 1000) rfl, ⟨by decide, by decide, by decide +kernel⟩, aw_inG (List.mem_of_getElem? (i := 97) (by decide +kernel)) rfl, by decide⟩
theorem ciX0_draw : Cond.instanceMethod MX0_draw.1 ∈ aw_G ∧ Cond.selects MX0_draw.1.cls MX0_draw.1 MX0_draw.1 ∈ aw_G := ⟨aw_inG (List.mem_of_getElem? (i := 998) (by decide +kernel)) rfl, aw_inG (List.mem_of_getElem? (i := 999) (by decide +kernel)) rfl⟩
theorem cv_RX11_281 : aw_CV RX11 281 MX0_draw 2 := ⟨cbX0_draw, aw_inG (List.mem_of_getElem? (i := 997) (by decide +kernel)) rfl, ciX0_draw.1, ciX0_draw.2⟩
theorem fl_RX0_18 : aw_FL RX0 18 0 0 := ⟨RX0, TX0, 5, rfl, by decide, fG_0, aw_inG (List.mem_of_getElem? (i := 441) (by decide +kernel)) rfl⟩
theorem fl_RX0_36 : aw_FL RX0 36 1 4 := ⟨RX1, TX1, 5, rfl, by decide, fG_1, aw_inG (List.mem_of_getElem? (i := 167) (by decide +kernel)) rfl⟩
theorem cv_RX0_55 : aw_CV RX0 55 MX8_row 0 := ⟨cbX8_row, aw_inG (List.mem_of_getElem? (i := 1006) (by decide +kernel)) rfl, ciX8_row.1, ciX8_row.2⟩
theorem cv_RX0_59 : aw_CV RX0 59 MX0_add 1 := ⟨cbX0_add, aw_inG (List.mem_of_getElem? (i := 1007) (by decide +kernel)) rfl, ciX0_add.1, ciX0_add.2⟩
theorem cl_RX0_39 : Cond.constantLong RX0 39 (Int64.ofInt 6364136223846793005) ∈ aw_G := aw_inG (List.mem_of_getElem? (i := 1001) (by decide +kernel)) rfl
theorem cl_RX0_41 : Cond.constantLong RX0 41 (Int64.ofInt 1442695040888963407) ∈ aw_G := aw_inG (List.mem_of_getElem? (i := 1002) (by decide +kernel)) rfl
theorem fl_RX0_43 : aw_FL RX0 43 8 2 := ⟨RX8, TX8, 8, rfl, by decide, fG_8, aw_inG (List.mem_of_getElem? (i := 239) (by decide +kernel)) rfl⟩
theorem fl_RX0_48 : aw_FL RX0 48 1 1 := ⟨RX1, TX1, 5, rfl, by decide, fG_1, aw_inG (List.mem_of_getElem? (i := 152) (by decide +kernel)) rfl⟩
abbrev MX0_drawOf : aw_M := (yX0_drawOf, cX0_drawOf, 3, some .int)
set_option maxRecDepth 20000 in
theorem cbX0_drawOf : aw_CB MX0_drawOf 2 := ⟨List.mem_of_getElem? (i := 1005) rfl, ⟨by decide, by decide, by decide +kernel⟩, aw_inG (List.mem_of_getElem? (i := 97) (by decide +kernel)) rfl, by decide⟩
theorem cs_RX0_51 : aw_CS RX0 51 MX0_drawOf 2 := ⟨cbX0_drawOf, aw_inG (List.mem_of_getElem? (i := 1003) (by decide +kernel)) rfl, aw_inG (List.mem_of_getElem? (i := 1004) (by decide +kernel)) rfl⟩
theorem fG_12 : ∀ w ∈ u_ws RX12 TX12 52, w ∈ aw_G := aw_in_all [1274, 1276, 1278, 1280, 1282, 1284, 1286, 1288, 1290, 1292, 1294, 1296, 1298, 1300, 1302, 1304, 1306, 1308, 1310, 1312, 1314, 1316, 1318, 1320, 1322, 1324, 1326, 1328, 1330, 1332, 1334, 1336, 1338, 1340, 1342, 1344, 1346, 1348, 1350, 1352, 1354, 1356, 1358, 1360, 1362, 1364, 1366, 1368, 1370, 1372, 1374, 1376] (by decide +kernel) (by decide +kernel)
theorem fp_RX12_99 : aw_FP RX12 99 12 0 .int := ⟨RX12, TX12, 52, tyX12, rfl, by decide, fG_12, aw_inG (List.mem_of_getElem? (i := 1222) (by decide +kernel)) rfl, tyX12_ok, nmX12, rfl, rfl⟩
theorem fl_RX12_276 : aw_FL RX12 276 12 51 := ⟨RX12, TX12, 52, rfl, by decide, fG_12, aw_inG (List.mem_of_getElem? (i := 1273) (by decide +kernel)) rfl⟩
theorem fl_RX12_442 : aw_FL RX12 442 12 50 := ⟨RX12, TX12, 52, rfl, by decide, fG_12, aw_inG (List.mem_of_getElem? (i := 1272) (by decide +kernel)) rfl⟩
theorem fp_RX12_273 : aw_FP RX12 273 12 43 .int := ⟨RX12, TX12, 52, tyX12, rfl, by decide, fG_12, aw_inG (List.mem_of_getElem? (i := 1265) (by decide +kernel)) rfl, tyX12_ok, nmX12, rfl, rfl⟩
theorem fl_RX12_273 : aw_FL RX12 273 12 43 := ⟨RX12, TX12, 52, rfl, by decide, fG_12, aw_inG (List.mem_of_getElem? (i := 1265) (by decide +kernel)) rfl⟩
theorem fl_RX12_43 : aw_FL RX12 43 12 20 := ⟨RX12, TX12, 52, rfl, by decide, fG_12, aw_inG (List.mem_of_getElem? (i := 1242) (by decide +kernel)) rfl⟩
theorem fl_RX12_96 : aw_FL RX12 96 12 49 := ⟨RX12, TX12, 52, rfl, by decide, fG_12, aw_inG (List.mem_of_getElem? (i := 1271) (by decide +kernel)) rfl⟩
theorem fl_RX12_49 : aw_FL RX12 49 12 25 := ⟨RX12, TX12, 52, rfl, by decide, fG_12, aw_inG (List.mem_of_getElem? (i := 1247) (by decide +kernel)) rfl⟩
theorem fl_RX12_93 : aw_FL RX12 93 12 48 := ⟨RX12, TX12, 52, rfl, by decide, fG_12, aw_inG (List.mem_of_getElem? (i := 1270) (by decide +kernel)) rfl⟩
theorem fl_RX12_87 : aw_FL RX12 87 12 42 := ⟨RX12, TX12, 52, rfl, by decide, fG_12, aw_inG (List.mem_of_getElem? (i := 1264) (by decide +kernel)) rfl⟩
theorem fl_RX12_90 : aw_FL RX12 90 12 47 := ⟨RX12, TX12, 52, rfl, by decide, fG_12, aw_inG (List.mem_of_getElem? (i := 1269) (by decide +kernel)) rfl⟩
theorem fl_RX12_270 : aw_FL RX12 270 12 22 := ⟨RX12, TX12, 52, rfl, by decide, fG_12, aw_inG (List.mem_of_getElem? (i := 1244) (by decide +kernel)) rfl⟩
theorem cn_RX12_315 : Cond.constant RX12 315 (Int32.ofInt (-1000000)) ∈ aw_G := aw_inG (List.mem_of_getElem? (i := 1596) (by decide +kernel)) rfl
theorem cl_RX12_340 : Cond.constantLong RX12 340 (Int64.ofInt 3) ∈ aw_G := aw_inG (List.mem_of_getElem? (i := 1639) (by decide +kernel)) rfl
abbrev MX12_isIn : aw_M := (yX12_isIn, cX12_isIn, 6, some .boolean)
set_option maxRecDepth 20000 in
theorem cbX12_isIn : aw_CB MX12_isIn 3 := ⟨List.mem_of_getElem? (i := 1405) rfl, ⟨by decide, by decide, by decide +kernel⟩, aw_inG (List.mem_of_getElem? (i := 98) (by decide +kernel)) rfl, by decide⟩
theorem cs_RX12_227 : aw_CS RX12 227 MX12_isIn 3 := ⟨cbX12_isIn, aw_inG (List.mem_of_getElem? (i := 1403) (by decide +kernel)) rfl, aw_inG (List.mem_of_getElem? (i := 1404) (by decide +kernel)) rfl⟩
abbrev MX12_lay : aw_M := (yX12_lay, cX12_lay, 5, some .boolean)
set_option maxRecDepth 20000 in
theorem cbX12_lay : aw_CB MX12_lay 1 := ⟨List.mem_of_getElem? (i := 1643) rfl, ⟨by decide, by decide, by decide +kernel⟩, aw_inG (List.mem_of_getElem? (i := 98) (by decide +kernel)) rfl, by decide⟩
theorem ciX12_lay : Cond.instanceMethod MX12_lay.1 ∈ aw_G ∧ Cond.selects MX12_lay.1.cls MX12_lay.1 MX12_lay.1 ∈ aw_G := ⟨aw_inG (List.mem_of_getElem? (i := 1642) (by decide +kernel)) rfl, aw_inG (List.mem_of_getElem? (i := 58) (by decide +kernel)) rfl⟩
theorem cv_RX12_342 : aw_CV RX12 342 MX12_lay 1 := ⟨cbX12_lay, aw_inG (List.mem_of_getElem? (i := 1640) (by decide +kernel)) rfl, ciX12_lay.1, ciX12_lay.2⟩
theorem fl_RX12_72 : aw_FL RX12 72 12 33 := ⟨RX12, TX12, 52, rfl, by decide, fG_12, aw_inG (List.mem_of_getElem? (i := 1255) (by decide +kernel)) rfl⟩
abbrev MX12_judge : aw_M := (yX12_judge, cX12_judge, 2, none)
set_option maxRecDepth 20000 in
theorem cbX12_judge : aw_CB MX12_judge 0 := ⟨List.mem_of_getElem? (i := 1647) rfl, ⟨by decide, by decide, by decide +kernel⟩, aw_inG (List.mem_of_getElem? (i := 98) (by decide +kernel)) rfl, by decide⟩
theorem ciX12_judge : Cond.instanceMethod MX12_judge.1 ∈ aw_G ∧ Cond.selects MX12_judge.1.cls MX12_judge.1 MX12_judge.1 ∈ aw_G := ⟨aw_inG (List.mem_of_getElem? (i := 1646) (by decide +kernel)) rfl, aw_inG (List.mem_of_getElem? (i := 59) (by decide +kernel)) rfl⟩
theorem cv_RX12_326 : aw_CV RX12 326 MX12_judge 0 := ⟨cbX12_judge, aw_inG (List.mem_of_getElem? (i := 1644) (by decide +kernel)) rfl, ciX12_judge.1, ciX12_judge.2⟩
theorem fl_RX12_55 : aw_FL RX12 55 12 27 := ⟨RX12, TX12, 52, rfl, by decide, fG_12, aw_inG (List.mem_of_getElem? (i := 1249) (by decide +kernel)) rfl⟩
theorem fl_RX12_52 : aw_FL RX12 52 12 26 := ⟨RX12, TX12, 52, rfl, by decide, fG_12, aw_inG (List.mem_of_getElem? (i := 1248) (by decide +kernel)) rfl⟩
abbrev MX12_allPaid : aw_M := (yX12_allPaid, cX12_allPaid, 1, some .int)
set_option maxRecDepth 20000 in
theorem cbX12_allPaid : aw_CB MX12_allPaid 0 := ⟨List.mem_of_getElem? (i := 1663) rfl, ⟨by decide, by decide, by decide +kernel⟩, aw_inG (List.mem_of_getElem? (i := 98) (by decide +kernel)) rfl, by decide⟩
theorem ciX12_allPaid : Cond.instanceMethod MX12_allPaid.1 ∈ aw_G ∧ Cond.selects MX12_allPaid.1.cls MX12_allPaid.1 MX12_allPaid.1 ∈ aw_G := ⟨aw_inG (List.mem_of_getElem? (i := 1662) (by decide +kernel)) rfl, aw_inG (List.mem_of_getElem? (i := 63) (by decide +kernel)) rfl⟩
theorem cv_RX12_345 : aw_CV RX12 345 MX12_allPaid 0 := ⟨cbX12_allPaid, aw_inG (List.mem_of_getElem? (i := 1660) (by decide +kernel)) rfl, ciX12_allPaid.1, ciX12_allPaid.2⟩
abbrev MX12_winner : aw_M := (yX12_winner, cX12_winner, 4, some .int)
set_option maxRecDepth 20000 in
theorem cbX12_winner : aw_CB MX12_winner 0 := ⟨List.mem_of_getElem? (i := 1614) rfl, ⟨by decide, by decide, by decide +kernel⟩, aw_inG (List.mem_of_getElem? (i := 98) (by decide +kernel)) rfl, by decide⟩
theorem ciX12_winner : Cond.instanceMethod MX12_winner.1 ∈ aw_G ∧ Cond.selects MX12_winner.1.cls MX12_winner.1 MX12_winner.1 ∈ aw_G := ⟨aw_inG (List.mem_of_getElem? (i := 1613) (by decide +kernel)) rfl, aw_inG (List.mem_of_getElem? (i := 54) (by decide +kernel)) rfl⟩
theorem cv_RX12_320 : aw_CV RX12 320 MX12_winner 0 := ⟨cbX12_winner, aw_inG (List.mem_of_getElem? (i := 1611) (by decide +kernel)) rfl, ciX12_winner.1, ciX12_winner.2⟩
abbrev MX12_aheadOf : aw_M := (yX12_aheadOf, cX12_aheadOf, 4, some .int)
set_option maxRecDepth 20000 in
theorem cbX12_aheadOf : aw_CB MX12_aheadOf 1 := ⟨List.mem_of_getElem? (i := 1618) rfl, ⟨by decide, by decide, by decide +kernel⟩, aw_inG (List.mem_of_getElem? (i := 98) (by decide +kernel)) rfl, by decide⟩
theorem ciX12_aheadOf : Cond.instanceMethod MX12_aheadOf.1 ∈ aw_G ∧ Cond.selects MX12_aheadOf.1.cls MX12_aheadOf.1 MX12_aheadOf.1 ∈ aw_G := ⟨aw_inG (List.mem_of_getElem? (i := 1617) (by decide +kernel)) rfl, aw_inG (List.mem_of_getElem? (i := 55) (by decide +kernel)) rfl⟩
theorem cv_RX12_290 : aw_CV RX12 290 MX12_aheadOf 1 := ⟨cbX12_aheadOf, aw_inG (List.mem_of_getElem? (i := 1615) (by decide +kernel)) rfl, ciX12_aheadOf.1, ciX12_aheadOf.2⟩
abbrev MX12_isAhead : aw_M := (yX12_isAhead, cX12_isAhead, 3, some .boolean)
set_option maxRecDepth 20000 in
theorem cbX12_isAhead : aw_CB MX12_isAhead 2 := ⟨List.mem_of_getElem? (i := 1622) rfl, ⟨by decide, by decide, by decide +kernel⟩, aw_inG (List.mem_of_getElem? (i := 98) (by decide +kernel)) rfl, by decide⟩
theorem ciX12_isAhead : Cond.instanceMethod MX12_isAhead.1 ∈ aw_G ∧ Cond.selects MX12_isAhead.1.cls MX12_isAhead.1 MX12_isAhead.1 ∈ aw_G := ⟨aw_inG (List.mem_of_getElem? (i := 1621) (by decide +kernel)) rfl, aw_inG (List.mem_of_getElem? (i := 56) (by decide +kernel)) rfl⟩
theorem cv_RX12_287 : aw_CV RX12 287 MX12_isAhead 2 := ⟨cbX12_isAhead, aw_inG (List.mem_of_getElem? (i := 1619) (by decide +kernel)) rfl, ciX12_isAhead.1, ciX12_isAhead.2⟩
abbrev MX12_areAlike : aw_M := (yX12_areAlike, cX12_areAlike, 3, some .boolean)
set_option maxRecDepth 20000 in
theorem cbX12_areAlike : aw_CB MX12_areAlike 2 := ⟨List.mem_of_getElem? (i := 1626) rfl, ⟨by decide, by decide, by decide +kernel⟩, aw_inG (List.mem_of_getElem? (i := 98) (by decide +kernel)) rfl, by decide⟩
theorem ciX12_areAlike : Cond.instanceMethod MX12_areAlike.1 ∈ aw_G ∧ Cond.selects MX12_areAlike.1.cls MX12_areAlike.1 MX12_areAlike.1 ∈ aw_G := ⟨aw_inG (List.mem_of_getElem? (i := 1625) (by decide +kernel)) rfl, aw_inG (List.mem_of_getElem? (i := 57) (by decide +kernel)) rfl⟩
theorem cv_RX12_293 : aw_CV RX12 293 MX12_areAlike 2 := ⟨cbX12_areAlike, aw_inG (List.mem_of_getElem? (i := 1623) (by decide +kernel)) rfl, ciX12_areAlike.1, ciX12_areAlike.2⟩
abbrev MX12_paidBy : aw_M := (yX12_paidBy, cX12_paidBy, 4, some .int)
set_option maxRecDepth 20000 in
theorem cbX12_paidBy : aw_CB MX12_paidBy 1 := ⟨List.mem_of_getElem? (i := 1651) rfl, ⟨by decide, by decide, by decide +kernel⟩, aw_inG (List.mem_of_getElem? (i := 98) (by decide +kernel)) rfl, by decide⟩
theorem ciX12_paidBy : Cond.instanceMethod MX12_paidBy.1 ∈ aw_G ∧ Cond.selects MX12_paidBy.1.cls MX12_paidBy.1 MX12_paidBy.1 ∈ aw_G := ⟨aw_inG (List.mem_of_getElem? (i := 1650) (by decide +kernel)) rfl, aw_inG (List.mem_of_getElem? (i := 60) (by decide +kernel)) rfl⟩
theorem cv_RX12_329 : aw_CV RX12 329 MX12_paidBy 1 := ⟨cbX12_paidBy, aw_inG (List.mem_of_getElem? (i := 1648) (by decide +kernel)) rfl, ciX12_paidBy.1, ciX12_paidBy.2⟩
abbrev MX12_isBefore : aw_M := (yX12_isBefore, cX12_isBefore, 3, some .boolean)
set_option maxRecDepth 20000 in
theorem cbX12_isBefore : aw_CB MX12_isBefore 2 := ⟨List.mem_of_getElem? (i := 1655) rfl, ⟨by decide, by decide, by decide +kernel⟩, aw_inG (List.mem_of_getElem? (i := 98) (by decide +kernel)) rfl, by decide⟩
theorem ciX12_isBefore : Cond.instanceMethod MX12_isBefore.1 ∈ aw_G ∧ Cond.selects MX12_isBefore.1.cls MX12_isBefore.1 MX12_isBefore.1 ∈ aw_G := ⟨aw_inG (List.mem_of_getElem? (i := 1654) (by decide +kernel)) rfl, aw_inG (List.mem_of_getElem? (i := 61) (by decide +kernel)) rfl⟩
theorem cv_RX12_323 : aw_CV RX12 323 MX12_isBefore 2 := ⟨cbX12_isBefore, aw_inG (List.mem_of_getElem? (i := 1652) (by decide +kernel)) rfl, ciX12_isBefore.1, ciX12_isBefore.2⟩
abbrev MX12_firsts : aw_M := (yX12_firsts, cX12_firsts, 3, some .int)
set_option maxRecDepth 20000 in
theorem cbX12_firsts : aw_CB MX12_firsts 0 := ⟨List.mem_of_getElem? (i := 1659) rfl, ⟨by decide, by decide, by decide +kernel⟩, aw_inG (List.mem_of_getElem? (i := 98) (by decide +kernel)) rfl, by decide⟩
theorem ciX12_firsts : Cond.instanceMethod MX12_firsts.1 ∈ aw_G ∧ Cond.selects MX12_firsts.1.cls MX12_firsts.1 MX12_firsts.1 ∈ aw_G := ⟨aw_inG (List.mem_of_getElem? (i := 1658) (by decide +kernel)) rfl, aw_inG (List.mem_of_getElem? (i := 62) (by decide +kernel)) rfl⟩
theorem cv_RX12_332 : aw_CV RX12 332 MX12_firsts 0 := ⟨cbX12_firsts, aw_inG (List.mem_of_getElem? (i := 1656) (by decide +kernel)) rfl, ciX12_firsts.1, ciX12_firsts.2⟩
theorem cs_RX12_335 : aw_CS RX12 335 MJ6_bitCount_0f7a4 1 := ⟨cbJ6_bitCount_0f7a4, aw_inG (List.mem_of_getElem? (i := 1664) (by decide +kernel)) rfl, aw_inG (List.mem_of_getElem? (i := 763) (by decide +kernel)) rfl⟩
abbrev MX12_areFew : aw_M := (yX12_areFew, cX12_areFew, 1, some .boolean)
set_option maxRecDepth 20000 in
theorem cbX12_areFew : aw_CB MX12_areFew 0 := ⟨List.mem_of_getElem? (i := 1680) rfl, ⟨by decide, by decide, by decide +kernel⟩, aw_inG (List.mem_of_getElem? (i := 98) (by decide +kernel)) rfl, by decide⟩
theorem ciX12_areFew : Cond.instanceMethod MX12_areFew.1 ∈ aw_G ∧ Cond.selects MX12_areFew.1.cls MX12_areFew.1 MX12_areFew.1 ∈ aw_G := ⟨aw_inG (List.mem_of_getElem? (i := 1679) (by decide +kernel)) rfl, aw_inG (List.mem_of_getElem? (i := 65) (by decide +kernel)) rfl⟩
theorem cv_RX12_360 : aw_CV RX12 360 MX12_areFew 0 := ⟨cbX12_areFew, aw_inG (List.mem_of_getElem? (i := 1677) (by decide +kernel)) rfl, ciX12_areFew.1, ciX12_areFew.2⟩
abbrev MX12_isStriver : aw_M := (yX12_isStriver, cX12_isStriver, 2, some .boolean)
set_option maxRecDepth 20000 in
theorem cbX12_isStriver : aw_CB MX12_isStriver 1 := ⟨List.mem_of_getElem? (i := 1572) rfl, ⟨by decide, by decide, by decide +kernel⟩, aw_inG (List.mem_of_getElem? (i := 98) (by decide +kernel)) rfl, by decide⟩
theorem ciX12_isStriver : Cond.instanceMethod MX12_isStriver.1 ∈ aw_G ∧ Cond.selects MX12_isStriver.1.cls MX12_isStriver.1 MX12_isStriver.1 ∈ aw_G := ⟨aw_inG (List.mem_of_getElem? (i := 1571) (by decide +kernel)) rfl, aw_inG (List.mem_of_getElem? (i := 49) (by decide +kernel)) rfl⟩
theorem cv_RX12_282 : aw_CV RX12 282 MX12_isStriver 1 := ⟨cbX12_isStriver, aw_inG (List.mem_of_getElem? (i := 1569) (by decide +kernel)) rfl, ciX12_isStriver.1, ciX12_isStriver.2⟩
abbrev MX12_hopes : aw_M := (yX12_hopes, cX12_hopes, 3, none)
set_option maxRecDepth 20000 in
theorem cbX12_hopes : aw_CB MX12_hopes 2 := ⟨List.mem_of_getElem? (i := 1816) rfl, ⟨by decide, by decide, by decide +kernel⟩, aw_inG (List.mem_of_getElem? (i := 98) (by decide +kernel)) rfl, by decide⟩
theorem ciX12_hopes : Cond.instanceMethod MX12_hopes.1 ∈ aw_G ∧ Cond.selects MX12_hopes.1.cls MX12_hopes.1 MX12_hopes.1 ∈ aw_G := ⟨aw_inG (List.mem_of_getElem? (i := 1815) (by decide +kernel)) rfl, aw_inG (List.mem_of_getElem? (i := 82) (by decide +kernel)) rfl⟩
theorem cv_RX12_436 : aw_CV RX12 436 MX12_hopes 2 := ⟨cbX12_hopes, aw_inG (List.mem_of_getElem? (i := 1813) (by decide +kernel)) rfl, ciX12_hopes.1, ciX12_hopes.2⟩
theorem fp_RX12_427 : aw_FP RX12 427 12 45 .int := ⟨RX12, TX12, 52, tyX12, rfl, by decide, fG_12, aw_inG (List.mem_of_getElem? (i := 1267) (by decide +kernel)) rfl, tyX12_ok, nmX12, rfl, rfl⟩
theorem fp_RX12_430 : aw_FP RX12 430 12 46 .int := ⟨RX12, TX12, 52, tyX12, rfl, by decide, fG_12, aw_inG (List.mem_of_getElem? (i := 1268) (by decide +kernel)) rfl, tyX12_ok, nmX12, rfl, rfl⟩
abbrev MX12_goHope : aw_M := (yX12_goHope, cX12_goHope, 4, none)
set_option maxRecDepth 20000 in
theorem cbX12_goHope : aw_CB MX12_goHope 2 := ⟨List.mem_of_getElem? (i := 1820) rfl, ⟨by decide, by decide, by decide +kernel⟩, aw_inG (List.mem_of_getElem? (i := 98) (by decide +kernel)) rfl, by decide⟩
theorem ciX12_goHope : Cond.instanceMethod MX12_goHope.1 ∈ aw_G ∧ Cond.selects MX12_goHope.1.cls MX12_goHope.1 MX12_goHope.1 ∈ aw_G := ⟨aw_inG (List.mem_of_getElem? (i := 1819) (by decide +kernel)) rfl, aw_inG (List.mem_of_getElem? (i := 83) (by decide +kernel)) rfl⟩
theorem cv_RX12_433 : aw_CV RX12 433 MX12_goHope 2 := ⟨cbX12_goHope, aw_inG (List.mem_of_getElem? (i := 1817) (by decide +kernel)) rfl, ciX12_goHope.1, ciX12_goHope.2⟩
theorem fl_RX12_427 : aw_FL RX12 427 12 45 := ⟨RX12, TX12, 52, rfl, by decide, fG_12, aw_inG (List.mem_of_getElem? (i := 1267) (by decide +kernel)) rfl⟩
theorem fl_RX12_430 : aw_FL RX12 430 12 46 := ⟨RX12, TX12, 52, rfl, by decide, fG_12, aw_inG (List.mem_of_getElem? (i := 1268) (by decide +kernel)) rfl⟩
abbrev MX12_gainOf : aw_M := (yX12_gainOf, cX12_gainOf, 2, some .int)
set_option maxRecDepth 20000 in
theorem cbX12_gainOf : aw_CB MX12_gainOf 1 := ⟨List.mem_of_getElem? (i := 1672) rfl, ⟨by decide, by decide, by decide +kernel⟩, aw_inG (List.mem_of_getElem? (i := 98) (by decide +kernel)) rfl, by decide⟩
theorem ciX12_gainOf : Cond.instanceMethod MX12_gainOf.1 ∈ aw_G ∧ Cond.selects MX12_gainOf.1.cls MX12_gainOf.1 MX12_gainOf.1 ∈ aw_G := ⟨aw_inG (List.mem_of_getElem? (i := 1671) (by decide +kernel)) rfl, aw_inG (List.mem_of_getElem? (i := 64) (by decide +kernel)) rfl⟩
theorem cv_RX12_348 : aw_CV RX12 348 MX12_gainOf 1 := ⟨cbX12_gainOf, aw_inG (List.mem_of_getElem? (i := 1669) (by decide +kernel)) rfl, ciX12_gainOf.1, ciX12_gainOf.2⟩
abbrev MX12_has : aw_M := (yX12_has, cX12_has, 2, some .boolean)
set_option maxRecDepth 20000 in
theorem cbX12_has : aw_CB MX12_has 2 := ⟨List.mem_of_getElem? (i := 1484) rfl, ⟨by decide, by decide, by decide +kernel⟩, aw_inG (List.mem_of_getElem? (i := 98) (by decide +kernel)) rfl, by decide⟩
theorem cs_RX12_248 : aw_CS RX12 248 MX12_has 2 := ⟨cbX12_has, aw_inG (List.mem_of_getElem? (i := 1482) (by decide +kernel)) rfl, aw_inG (List.mem_of_getElem? (i := 1483) (by decide +kernel)) rfl⟩
theorem fl_RX12_37 : aw_FL RX12 37 12 18 := ⟨RX12, TX12, 52, rfl, by decide, fG_12, aw_inG (List.mem_of_getElem? (i := 1240) (by decide +kernel)) rfl⟩
abbrev MX12_isRace : aw_M := (yX12_isRace, cX12_isRace, 3, some .boolean)
set_option maxRecDepth 20000 in
theorem cbX12_isRace : aw_CB MX12_isRace 2 := ⟨List.mem_of_getElem? (i := 1593) rfl, ⟨by decide, by decide, by decide +kernel⟩, aw_inG (List.mem_of_getElem? (i := 98) (by decide +kernel)) rfl, by decide⟩
theorem ciX12_isRace : Cond.instanceMethod MX12_isRace.1 ∈ aw_G ∧ Cond.selects MX12_isRace.1.cls MX12_isRace.1 MX12_isRace.1 ∈ aw_G := ⟨aw_inG (List.mem_of_getElem? (i := 1592) (by decide +kernel)) rfl, aw_inG (List.mem_of_getElem? (i := 50) (by decide +kernel)) rfl⟩
theorem cv_RX12_310 : aw_CV RX12 310 MX12_isRace 2 := ⟨cbX12_isRace, aw_inG (List.mem_of_getElem? (i := 1590) (by decide +kernel)) rfl, ciX12_isRace.1, ciX12_isRace.2⟩
theorem cl_RX12_308 : Cond.constantLong RX12 308 (Int64.ofInt 99) ∈ aw_G := aw_inG (List.mem_of_getElem? (i := 1594) (by decide +kernel)) rfl
abbrev MX12_run : aw_M := (yX12_run, cX12_run, 7, none)
set_option maxRecDepth 20000 in
theorem cbX12_run : aw_CB MX12_run 2 := ⟨List.mem_of_getElem? (i := 1600) rfl, ⟨by decide, by decide, by decide +kernel⟩, aw_inG (List.mem_of_getElem? (i := 98) (by decide +kernel)) rfl, by decide⟩
theorem ciX12_run : Cond.instanceMethod MX12_run.1 ∈ aw_G ∧ Cond.selects MX12_run.1.cls MX12_run.1 MX12_run.1 ∈ aw_G := ⟨aw_inG (List.mem_of_getElem? (i := 1599) (by decide +kernel)) rfl, aw_inG (List.mem_of_getElem? (i := 51) (by decide +kernel)) rfl⟩
theorem cv_RX12_316 : aw_CV RX12 316 MX12_run 2 := ⟨cbX12_run, aw_inG (List.mem_of_getElem? (i := 1597) (by decide +kernel)) rfl, ciX12_run.1, ciX12_run.2⟩
theorem fp_RX12_301 : aw_FP RX12 301 12 31 .int := ⟨RX12, TX12, 52, tyX12, rfl, by decide, fG_12, aw_inG (List.mem_of_getElem? (i := 1253) (by decide +kernel)) rfl, tyX12_ok, nmX12, rfl, rfl⟩
theorem fl_RX12_62 : aw_FL RX12 62 12 29 := ⟨RX12, TX12, 52, rfl, by decide, fG_12, aw_inG (List.mem_of_getElem? (i := 1251) (by decide +kernel)) rfl⟩
theorem fl_RX12_59 : aw_FL RX12 59 12 28 := ⟨RX12, TX12, 52, rfl, by decide, fG_12, aw_inG (List.mem_of_getElem? (i := 1250) (by decide +kernel)) rfl⟩
abbrev MX12_goneBy : aw_M := (yX12_goneBy, cX12_goneBy, 3, some .int)
set_option maxRecDepth 20000 in
theorem cbX12_goneBy : aw_CB MX12_goneBy 2 := ⟨List.mem_of_getElem? (i := 1608) rfl, ⟨by decide, by decide, by decide +kernel⟩, aw_inG (List.mem_of_getElem? (i := 98) (by decide +kernel)) rfl, by decide⟩
theorem ciX12_goneBy : Cond.instanceMethod MX12_goneBy.1 ∈ aw_G ∧ Cond.selects MX12_goneBy.1.cls MX12_goneBy.1 MX12_goneBy.1 ∈ aw_G := ⟨aw_inG (List.mem_of_getElem? (i := 1607) (by decide +kernel)) rfl, aw_inG (List.mem_of_getElem? (i := 53) (by decide +kernel)) rfl⟩
theorem cv_RX12_296 : aw_CV RX12 296 MX12_goneBy 2 := ⟨cbX12_goneBy, aw_inG (List.mem_of_getElem? (i := 1605) (by decide +kernel)) rfl, ciX12_goneBy.1, ciX12_goneBy.2⟩
theorem fl_RX12_65 : aw_FL RX12 65 12 30 := ⟨RX12, TX12, 52, rfl, by decide, fG_12, aw_inG (List.mem_of_getElem? (i := 1252) (by decide +kernel)) rfl⟩
theorem cm_RX12_279 : aw_CM RX12 279 Lib.Math.min.name Lib.Math.min.code 2 (some .int) := ⟨aw_inG (List.mem_of_getElem? (i := 1609) (by decide +kernel)) rfl, cy_mmin⟩
abbrev MX12_stepOf : aw_M := (yX12_stepOf, cX12_stepOf, 9, some .int)
set_option maxRecDepth 20000 in
theorem cbX12_stepOf : aw_CB MX12_stepOf 4 := ⟨List.mem_of_getElem? (i := 1604) rfl, ⟨by decide, by decide, by decide +kernel⟩, aw_inG (List.mem_of_getElem? (i := 98) (by decide +kernel)) rfl, by decide⟩
theorem ciX12_stepOf : Cond.instanceMethod MX12_stepOf.1 ∈ aw_G ∧ Cond.selects MX12_stepOf.1.cls MX12_stepOf.1 MX12_stepOf.1 ∈ aw_G := ⟨aw_inG (List.mem_of_getElem? (i := 1603) (by decide +kernel)) rfl, aw_inG (List.mem_of_getElem? (i := 52) (by decide +kernel)) rfl⟩
theorem cv_RX12_304 : aw_CV RX12 304 MX12_stepOf 4 := ⟨cbX12_stepOf, aw_inG (List.mem_of_getElem? (i := 1601) (by decide +kernel)) rfl, ciX12_stepOf.1, ciX12_stepOf.2⟩
theorem fl_RX12_68 : aw_FL RX12 68 12 32 := ⟨RX12, TX12, 52, rfl, by decide, fG_12, aw_inG (List.mem_of_getElem? (i := 1254) (by decide +kernel)) rfl⟩
theorem fl_RX12_20 : aw_FL RX12 20 12 4 := ⟨RX12, TX12, 52, rfl, by decide, fG_12, aw_inG (List.mem_of_getElem? (i := 1226) (by decide +kernel)) rfl⟩
theorem fl_RX12_13 : aw_FL RX12 13 12 2 := ⟨RX12, TX12, 52, rfl, by decide, fG_12, aw_inG (List.mem_of_getElem? (i := 1224) (by decide +kernel)) rfl⟩
theorem fl_RX12_16 : aw_FL RX12 16 12 3 := ⟨RX12, TX12, 52, rfl, by decide, fG_12, aw_inG (List.mem_of_getElem? (i := 1225) (by decide +kernel)) rfl⟩
abbrev MX12_goThrough : aw_M := (yX12_goThrough, cX12_goThrough, 4, none)
set_option maxRecDepth 20000 in
theorem cbX12_goThrough : aw_CB MX12_goThrough 3 := ⟨List.mem_of_getElem? (i := 1506) rfl, ⟨by decide, by decide, by decide +kernel⟩, aw_inG (List.mem_of_getElem? (i := 98) (by decide +kernel)) rfl, by decide⟩
theorem ciX12_goThrough : Cond.instanceMethod MX12_goThrough.1 ∈ aw_G ∧ Cond.selects MX12_goThrough.1.cls MX12_goThrough.1 MX12_goThrough.1 ∈ aw_G := ⟨aw_inG (List.mem_of_getElem? (i := 1505) (by decide +kernel)) rfl, aw_inG (List.mem_of_getElem? (i := 38) (by decide +kernel)) rfl⟩
theorem cv_RX12_262 : aw_CV RX12 262 MX12_goThrough 3 := ⟨cbX12_goThrough, aw_inG (List.mem_of_getElem? (i := 1503) (by decide +kernel)) rfl, ciX12_goThrough.1, ciX12_goThrough.2⟩
abbrev MX12_opens : aw_M := (yX12_opens, cX12_opens, 4, none)
set_option maxRecDepth 20000 in
theorem cbX12_opens : aw_CB MX12_opens 3 := ⟨List.mem_of_getElem? (i := 1413) rfl, ⟨by decide, by decide, by decide +kernel⟩, aw_inG (List.mem_of_getElem? (i := 98) (by decide +kernel)) rfl, by decide⟩
theorem ciX12_opens : Cond.instanceMethod MX12_opens.1 ∈ aw_G ∧ Cond.selects MX12_opens.1.cls MX12_opens.1 MX12_opens.1 ∈ aw_G := ⟨aw_inG (List.mem_of_getElem? (i := 1412) (by decide +kernel)) rfl, aw_inG (List.mem_of_getElem? (i := 31) (by decide +kernel)) rfl⟩
theorem cv_RX12_210 : aw_CV RX12 210 MX12_opens 3 := ⟨cbX12_opens, aw_inG (List.mem_of_getElem? (i := 1410) (by decide +kernel)) rfl, ciX12_opens.1, ciX12_opens.2⟩
theorem fp_RX12_23 : aw_FP RX12 23 12 5 (.array .byte) := ⟨RX12, TX12, 52, tyX12, rfl, by decide, fG_12, aw_inG (List.mem_of_getElem? (i := 1227) (by decide +kernel)) rfl, tyX12_ok, nmX12, rfl, rfl⟩
theorem fp_RX12_128 : aw_FP RX12 128 12 8 .int := ⟨RX12, TX12, 52, tyX12, rfl, by decide, fG_12, aw_inG (List.mem_of_getElem? (i := 1230) (by decide +kernel)) rfl, tyX12_ok, nmX12, rfl, rfl⟩
theorem fp_RX12_125 : aw_FP RX12 125 12 9 .int := ⟨RX12, TX12, 52, tyX12, rfl, by decide, fG_12, aw_inG (List.mem_of_getElem? (i := 1231) (by decide +kernel)) rfl, tyX12_ok, nmX12, rfl, rfl⟩
theorem fp_RX12_122 : aw_FP RX12 122 12 10 .int := ⟨RX12, TX12, 52, tyX12, rfl, by decide, fG_12, aw_inG (List.mem_of_getElem? (i := 1232) (by decide +kernel)) rfl, tyX12_ok, nmX12, rfl, rfl⟩
theorem fp_RX12_131 : aw_FP RX12 131 12 11 .int := ⟨RX12, TX12, 52, tyX12, rfl, by decide, fG_12, aw_inG (List.mem_of_getElem? (i := 1233) (by decide +kernel)) rfl, tyX12_ok, nmX12, rfl, rfl⟩
theorem fp_RX12_204 : aw_FP RX12 204 12 13 .int := ⟨RX12, TX12, 52, tyX12, rfl, by decide, fG_12, aw_inG (List.mem_of_getElem? (i := 1235) (by decide +kernel)) rfl, tyX12_ok, nmX12, rfl, rfl⟩
theorem fp_RX12_134 : aw_FP RX12 134 12 12 .int := ⟨RX12, TX12, 52, tyX12, rfl, by decide, fG_12, aw_inG (List.mem_of_getElem? (i := 1234) (by decide +kernel)) rfl, tyX12_ok, nmX12, rfl, rfl⟩
theorem fp_RX12_200 : aw_FP RX12 200 12 17 .boolean := ⟨RX12, TX12, 52, tyX12, rfl, by decide, fG_12, aw_inG (List.mem_of_getElem? (i := 1239) (by decide +kernel)) rfl, tyX12_ok, nmX12, rfl, rfl⟩
theorem fp_RX12_207 : aw_FP RX12 207 12 14 .int := ⟨RX12, TX12, 52, tyX12, rfl, by decide, fG_12, aw_inG (List.mem_of_getElem? (i := 1236) (by decide +kernel)) rfl, tyX12_ok, nmX12, rfl, rfl⟩
abbrev MX12_clause : aw_M := (yX12_clause, cX12_clause, 5, none)
set_option maxRecDepth 20000 in
theorem cbX12_clause : aw_CB MX12_clause 0 := ⟨List.mem_of_getElem? (i := 1510) rfl, ⟨by decide, by decide, by decide +kernel⟩, aw_inG (List.mem_of_getElem? (i := 98) (by decide +kernel)) rfl, by decide⟩
theorem ciX12_clause : Cond.instanceMethod MX12_clause.1 ∈ aw_G ∧ Cond.selects MX12_clause.1.cls MX12_clause.1 MX12_clause.1 ∈ aw_G := ⟨aw_inG (List.mem_of_getElem? (i := 1509) (by decide +kernel)) rfl, aw_inG (List.mem_of_getElem? (i := 39) (by decide +kernel)) rfl⟩
theorem cv_RX12_214 : aw_CV RX12 214 MX12_clause 0 := ⟨cbX12_clause, aw_inG (List.mem_of_getElem? (i := 1507) (by decide +kernel)) rfl, ciX12_clause.1, ciX12_clause.2⟩
abbrev MX12_look : aw_M := (yX12_look, cX12_look, 1, some .int)
set_option maxRecDepth 20000 in
theorem cbX12_look : aw_CB MX12_look 0 := ⟨List.mem_of_getElem? (i := 1424) rfl, ⟨by decide, by decide, by decide +kernel⟩, aw_inG (List.mem_of_getElem? (i := 98) (by decide +kernel)) rfl, by decide⟩
theorem ciX12_look : Cond.instanceMethod MX12_look.1 ∈ aw_G ∧ Cond.selects MX12_look.1.cls MX12_look.1 MX12_look.1 ∈ aw_G := ⟨aw_inG (List.mem_of_getElem? (i := 1423) (by decide +kernel)) rfl, aw_inG (List.mem_of_getElem? (i := 33) (by decide +kernel)) rfl⟩
theorem cv_RX12_141 : aw_CV RX12 141 MX12_look 0 := ⟨cbX12_look, aw_inG (List.mem_of_getElem? (i := 1421) (by decide +kernel)) rfl, ciX12_look.1, ciX12_look.2⟩
theorem fl_RX12_122 : aw_FL RX12 122 12 10 := ⟨RX12, TX12, 52, rfl, by decide, fG_12, aw_inG (List.mem_of_getElem? (i := 1232) (by decide +kernel)) rfl⟩
theorem fl_RX12_125 : aw_FL RX12 125 12 9 := ⟨RX12, TX12, 52, rfl, by decide, fG_12, aw_inG (List.mem_of_getElem? (i := 1231) (by decide +kernel)) rfl⟩
theorem fl_RX12_23 : aw_FL RX12 23 12 5 := ⟨RX12, TX12, 52, rfl, by decide, fG_12, aw_inG (List.mem_of_getElem? (i := 1227) (by decide +kernel)) rfl⟩
theorem fl_RX12_128 : aw_FL RX12 128 12 8 := ⟨RX12, TX12, 52, rfl, by decide, fG_12, aw_inG (List.mem_of_getElem? (i := 1230) (by decide +kernel)) rfl⟩
abbrev MX12_isAmong : aw_M := (yX12_isAmong, cX12_isAmong, 3, some .boolean)
set_option maxRecDepth 20000 in
theorem cbX12_isAmong : aw_CB MX12_isAmong 2 := ⟨List.mem_of_getElem? (i := 1513) rfl, ⟨by decide, by decide, by decide +kernel⟩, aw_inG (List.mem_of_getElem? (i := 98) (by decide +kernel)) rfl, by decide⟩
theorem cs_RX12_157 : aw_CS RX12 157 MX12_isAmong 2 := ⟨cbX12_isAmong, aw_inG (List.mem_of_getElem? (i := 1511) (by decide +kernel)) rfl, aw_inG (List.mem_of_getElem? (i := 1512) (by decide +kernel)) rfl⟩
abbrev MJ0_length_8abf5 : aw_M := (yJ0_length_8abf5, cJ0_length_8abf5, 1, some .int)
set_option maxRecDepth 20000 in
theorem cbJ0_length_8abf5 : aw_CB MJ0_length_8abf5 0 := ⟨List.mem_of_getElem? (i := 1434) rfl, ⟨by decide, by decide, by decide +kernel⟩, aw_inG (List.mem_of_getElem? (i := 100) (by decide +kernel)) rfl, by decide⟩
theorem ciJ0_length_8abf5 : Cond.instanceMethod MJ0_length_8abf5.1 ∈ aw_G ∧ Cond.selects MJ0_length_8abf5.1.cls MJ0_length_8abf5.1 MJ0_length_8abf5.1 ∈ aw_G := ⟨aw_inG (List.mem_of_getElem? (i := 1432) (by decide +kernel)) rfl, aw_inG (List.mem_of_getElem? (i := 1433) (by decide +kernel)) rfl⟩
theorem cv_RX12_102 : aw_CV RX12 102 MJ0_length_8abf5 0 := ⟨cbJ0_length_8abf5, aw_inG (List.mem_of_getElem? (i := 1431) (by decide +kernel)) rfl, ciJ0_length_8abf5.1, ciJ0_length_8abf5.2⟩
theorem ft_RJ0_9 : Cond.fieldLink RJ0 9 "java/lang/String" "value" "[B" ∈ aw_G := aw_inG (List.mem_of_getElem? (i := 1887) (by decide +kernel)) rfl
abbrev MJ0_coder_7d493 : aw_M := (yJ0_coder_7d493, cJ0_coder_7d493, 1, some .byte)
set_option maxRecDepth 20000 in
theorem cbJ0_coder_7d493 : aw_CB MJ0_coder_7d493 0 := ⟨List.mem_of_getElem? (i := 1438) rfl, ⟨by decide, by decide, by decide +kernel⟩, aw_inG (List.mem_of_getElem? (i := 100) (by decide +kernel)) rfl, by decide⟩
theorem ciJ0_coder_7d493 : Cond.instanceMethod MJ0_coder_7d493.1 ∈ aw_G ∧ Cond.selects MJ0_coder_7d493.1.cls MJ0_coder_7d493.1 MJ0_coder_7d493.1 ∈ aw_G := ⟨aw_inG (List.mem_of_getElem? (i := 1436) (by decide +kernel)) rfl, aw_inG (List.mem_of_getElem? (i := 1437) (by decide +kernel)) rfl⟩
theorem cv_RJ0_335 : aw_CV RJ0 335 MJ0_coder_7d493 0 := ⟨cbJ0_coder_7d493, aw_inG (List.mem_of_getElem? (i := 1435) (by decide +kernel)) rfl, ciJ0_coder_7d493.1, ciJ0_coder_7d493.2⟩
theorem ft_RJ0_38 : Cond.fieldLink RJ0 38 "java/lang/String" "COMPACT_STRINGS" "Z" ∈ aw_G := aw_inG (List.mem_of_getElem? (i := 1439) (by decide +kernel)) rfl
theorem ft_RJ0_15 : Cond.fieldLink RJ0 15 "java/lang/String" "coder" "B" ∈ aw_G := aw_inG (List.mem_of_getElem? (i := 1888) (by decide +kernel)) rfl
abbrev MJ0_charAt_5068e : aw_M := (yJ0_charAt_5068e, cJ0_charAt_5068e, 2, some .char)
set_option maxRecDepth 20000 in
theorem cbJ0_charAt_5068e : aw_CB MJ0_charAt_5068e 1 := ⟨List.mem_of_getElem? (i := 1447) rfl, ⟨by decide, by decide, by decide +kernel⟩, aw_inG (List.mem_of_getElem? (i := 100) (by decide +kernel)) rfl, by decide⟩
theorem ciJ0_charAt_5068e : Cond.instanceMethod MJ0_charAt_5068e.1 ∈ aw_G ∧ Cond.selects MJ0_charAt_5068e.1.cls MJ0_charAt_5068e.1 MJ0_charAt_5068e.1 ∈ aw_G := ⟨aw_inG (List.mem_of_getElem? (i := 1445) (by decide +kernel)) rfl, aw_inG (List.mem_of_getElem? (i := 1446) (by decide +kernel)) rfl⟩
theorem cv_RX12_108 : aw_CV RX12 108 MJ0_charAt_5068e 1 := ⟨cbJ0_charAt_5068e, aw_inG (List.mem_of_getElem? (i := 1444) (by decide +kernel)) rfl, ciJ0_charAt_5068e.1, ciJ0_charAt_5068e.2⟩
abbrev MJ0_isLatin1_aae02 : aw_M := (yJ0_isLatin1_aae02, cJ0_isLatin1_aae02, 1, some .boolean)
set_option maxRecDepth 20000 in
theorem cbJ0_isLatin1_aae02 : aw_CB MJ0_isLatin1_aae02 0 := ⟨List.mem_of_getElem? (i := 1451) rfl, ⟨by decide, by decide, by decide +kernel⟩, aw_inG (List.mem_of_getElem? (i := 100) (by decide +kernel)) rfl, by decide⟩
theorem ciJ0_isLatin1_aae02 : Cond.instanceMethod MJ0_isLatin1_aae02.1 ∈ aw_G ∧ Cond.selects MJ0_isLatin1_aae02.1.cls MJ0_isLatin1_aae02.1 MJ0_isLatin1_aae02.1 ∈ aw_G := ⟨aw_inG (List.mem_of_getElem? (i := 1449) (by decide +kernel)) rfl, aw_inG (List.mem_of_getElem? (i := 1450) (by decide +kernel)) rfl⟩
theorem cv_RJ0_492 : aw_CV RJ0 492 MJ0_isLatin1_aae02 0 := ⟨cbJ0_isLatin1_aae02, aw_inG (List.mem_of_getElem? (i := 1448) (by decide +kernel)) rfl, ciJ0_isLatin1_aae02.1, ciJ0_isLatin1_aae02.2⟩
abbrev MJ1_charAt_3b067 : aw_M := (yJ1_charAt_3b067, cJ1_charAt_3b067, 2, some .char)
set_option maxRecDepth 20000 in
theorem cbJ1_charAt_3b067 : aw_CB MJ1_charAt_3b067 2 := ⟨List.mem_of_getElem? (i := 1454) rfl, ⟨by decide, by decide, by decide +kernel⟩, aw_inG (List.mem_of_getElem? (i := 101) (by decide +kernel)) rfl, by decide⟩
theorem cs_RJ0_495 : aw_CS RJ0 495 MJ1_charAt_3b067 2 := ⟨cbJ1_charAt_3b067, aw_inG (List.mem_of_getElem? (i := 1452) (by decide +kernel)) rfl, aw_inG (List.mem_of_getElem? (i := 1453) (by decide +kernel)) rfl⟩
set_option maxRecDepth 20000 in
theorem cbJ0_checkIndex_df160 : aw_CB MJ0_checkIndex_df160 2 := ⟨List.mem_of_getElem? (i := 1457) rfl, ⟨by decide, by decide, by decide +kernel⟩, aw_inG (List.mem_of_getElem? (i := 100) (by decide +kernel)) rfl, by decide⟩
theorem cs_RJ1_9 : aw_CS RJ1 9 MJ0_checkIndex_df160 2 := ⟨cbJ0_checkIndex_df160, aw_inG (List.mem_of_getElem? (i := 1455) (by decide +kernel)) rfl, aw_inG (List.mem_of_getElem? (i := 1456) (by decide +kernel)) rfl⟩
abbrev MX12_takes : aw_M := (yX12_takes, cX12_takes, 2, some .boolean)
set_option maxRecDepth 20000 in
theorem cbX12_takes : aw_CB MX12_takes 1 := ⟨List.mem_of_getElem? (i := 1517) rfl, ⟨by decide, by decide, by decide +kernel⟩, aw_inG (List.mem_of_getElem? (i := 98) (by decide +kernel)) rfl, by decide⟩
theorem ciX12_takes : Cond.instanceMethod MX12_takes.1 ∈ aw_G ∧ Cond.selects MX12_takes.1.cls MX12_takes.1 MX12_takes.1 ∈ aw_G := ⟨aw_inG (List.mem_of_getElem? (i := 1516) (by decide +kernel)) rfl, aw_inG (List.mem_of_getElem? (i := 40) (by decide +kernel)) rfl⟩
theorem cv_RX12_167 : aw_CV RX12 167 MX12_takes 1 := ⟨cbX12_takes, aw_inG (List.mem_of_getElem? (i := 1514) (by decide +kernel)) rfl, ciX12_takes.1, ciX12_takes.2⟩
theorem fl_RX12_131 : aw_FL RX12 131 12 11 := ⟨RX12, TX12, 52, rfl, by decide, fG_12, aw_inG (List.mem_of_getElem? (i := 1233) (by decide +kernel)) rfl⟩
abbrev MX12_fails : aw_M := (yX12_fails, cX12_fails, 1, some .boolean)
set_option maxRecDepth 20000 in
theorem cbX12_fails : aw_CB MX12_fails 0 := ⟨List.mem_of_getElem? (i := 1428) rfl, ⟨by decide, by decide, by decide +kernel⟩, aw_inG (List.mem_of_getElem? (i := 98) (by decide +kernel)) rfl, by decide⟩
theorem ciX12_fails : Cond.instanceMethod MX12_fails.1 ∈ aw_G ∧ Cond.selects MX12_fails.1.cls MX12_fails.1 MX12_fails.1 ∈ aw_G := ⟨aw_inG (List.mem_of_getElem? (i := 1427) (by decide +kernel)) rfl, aw_inG (List.mem_of_getElem? (i := 34) (by decide +kernel)) rfl⟩
theorem cv_RX12_137 : aw_CV RX12 137 MX12_fails 0 := ⟨cbX12_fails, aw_inG (List.mem_of_getElem? (i := 1425) (by decide +kernel)) rfl, ciX12_fails.1, ciX12_fails.2⟩
abbrev MX12_condition : aw_M := (yX12_condition, cX12_condition, 5, some .boolean)
set_option maxRecDepth 20000 in
theorem cbX12_condition : aw_CB MX12_condition 2 := ⟨List.mem_of_getElem? (i := 1521) rfl, ⟨by decide, by decide, by decide +kernel⟩, aw_inG (List.mem_of_getElem? (i := 98) (by decide +kernel)) rfl, by decide⟩
theorem ciX12_condition : Cond.instanceMethod MX12_condition.1 ∈ aw_G ∧ Cond.selects MX12_condition.1.cls MX12_condition.1 MX12_condition.1 ∈ aw_G := ⟨aw_inG (List.mem_of_getElem? (i := 1520) (by decide +kernel)) rfl, aw_inG (List.mem_of_getElem? (i := 41) (by decide +kernel)) rfl⟩
theorem cv_RX12_190 : aw_CV RX12 190 MX12_condition 2 := ⟨cbX12_condition, aw_inG (List.mem_of_getElem? (i := 1518) (by decide +kernel)) rfl, ciX12_condition.1, ciX12_condition.2⟩
abbrev MX12_part : aw_M := (yX12_part, cX12_part, 5, some .boolean)
set_option maxRecDepth 20000 in
theorem cbX12_part : aw_CB MX12_part 2 := ⟨List.mem_of_getElem? (i := 1525) rfl, ⟨by decide, by decide, by decide +kernel⟩, aw_inG (List.mem_of_getElem? (i := 98) (by decide +kernel)) rfl, by decide⟩
theorem ciX12_part : Cond.instanceMethod MX12_part.1 ∈ aw_G ∧ Cond.selects MX12_part.1.cls MX12_part.1 MX12_part.1 ∈ aw_G := ⟨aw_inG (List.mem_of_getElem? (i := 1524) (by decide +kernel)) rfl, aw_inG (List.mem_of_getElem? (i := 42) (by decide +kernel)) rfl⟩
theorem cv_RX12_197 : aw_CV RX12 197 MX12_part 2 := ⟨cbX12_part, aw_inG (List.mem_of_getElem? (i := 1522) (by decide +kernel)) rfl, ciX12_part.1, ciX12_part.2⟩
abbrev MX12_unit : aw_M := (yX12_unit, cX12_unit, 3, some .boolean)
set_option maxRecDepth 20000 in
theorem cbX12_unit : aw_CB MX12_unit 0 := ⟨List.mem_of_getElem? (i := 1559) rfl, ⟨by decide, by decide, by decide +kernel⟩, aw_inG (List.mem_of_getElem? (i := 98) (by decide +kernel)) rfl, by decide⟩
theorem ciX12_unit : Cond.instanceMethod MX12_unit.1 ∈ aw_G ∧ Cond.selects MX12_unit.1.cls MX12_unit.1 MX12_unit.1 ∈ aw_G := ⟨aw_inG (List.mem_of_getElem? (i := 1558) (by decide +kernel)) rfl, aw_inG (List.mem_of_getElem? (i := 48) (by decide +kernel)) rfl⟩
theorem cv_RX12_187 : aw_CV RX12 187 MX12_unit 0 := ⟨cbX12_unit, aw_inG (List.mem_of_getElem? (i := 1556) (by decide +kernel)) rfl, ciX12_unit.1, ciX12_unit.2⟩
abbrev MX12_compares : aw_M := (yX12_compares, cX12_compares, 6, some .boolean)
set_option maxRecDepth 20000 in
theorem cbX12_compares : aw_CB MX12_compares 2 := ⟨List.mem_of_getElem? (i := 1529) rfl, ⟨by decide, by decide, by decide +kernel⟩, aw_inG (List.mem_of_getElem? (i := 98) (by decide +kernel)) rfl, by decide⟩
theorem ciX12_compares : Cond.instanceMethod MX12_compares.1 ∈ aw_G ∧ Cond.selects MX12_compares.1.cls MX12_compares.1 MX12_compares.1 ∈ aw_G := ⟨aw_inG (List.mem_of_getElem? (i := 1528) (by decide +kernel)) rfl, aw_inG (List.mem_of_getElem? (i := 43) (by decide +kernel)) rfl⟩
theorem cv_RX12_194 : aw_CV RX12 194 MX12_compares 2 := ⟨cbX12_compares, aw_inG (List.mem_of_getElem? (i := 1526) (by decide +kernel)) rfl, ciX12_compares.1, ciX12_compares.2⟩
abbrev MX12_sum : aw_M := (yX12_sum, cX12_sum, 5, some .int)
set_option maxRecDepth 20000 in
theorem cbX12_sum : aw_CB MX12_sum 0 := ⟨List.mem_of_getElem? (i := 1533) rfl, ⟨by decide, by decide, by decide +kernel⟩, aw_inG (List.mem_of_getElem? (i := 98) (by decide +kernel)) rfl, by decide⟩
theorem ciX12_sum : Cond.instanceMethod MX12_sum.1 ∈ aw_G ∧ Cond.selects MX12_sum.1.cls MX12_sum.1 MX12_sum.1 ∈ aw_G := ⟨aw_inG (List.mem_of_getElem? (i := 1532) (by decide +kernel)) rfl, aw_inG (List.mem_of_getElem? (i := 44) (by decide +kernel)) rfl⟩
theorem cv_RX12_164 : aw_CV RX12 164 MX12_sum 0 := ⟨cbX12_sum, aw_inG (List.mem_of_getElem? (i := 1530) (by decide +kernel)) rfl, ciX12_sum.1, ciX12_sum.2⟩
abbrev MX12_term : aw_M := (yX12_term, cX12_term, 5, some .int)
set_option maxRecDepth 20000 in
theorem cbX12_term : aw_CB MX12_term 0 := ⟨List.mem_of_getElem? (i := 1537) rfl, ⟨by decide, by decide, by decide +kernel⟩, aw_inG (List.mem_of_getElem? (i := 98) (by decide +kernel)) rfl, by decide⟩
theorem ciX12_term : Cond.instanceMethod MX12_term.1 ∈ aw_G ∧ Cond.selects MX12_term.1.cls MX12_term.1 MX12_term.1 ∈ aw_G := ⟨aw_inG (List.mem_of_getElem? (i := 1536) (by decide +kernel)) rfl, aw_inG (List.mem_of_getElem? (i := 45) (by decide +kernel)) rfl⟩
theorem cv_RX12_181 : aw_CV RX12 181 MX12_term 0 := ⟨cbX12_term, aw_inG (List.mem_of_getElem? (i := 1534) (by decide +kernel)) rfl, ciX12_term.1, ciX12_term.2⟩
abbrev MX12_atom : aw_M := (yX12_atom, cX12_atom, 4, some .int)
set_option maxRecDepth 20000 in
theorem cbX12_atom : aw_CB MX12_atom 0 := ⟨List.mem_of_getElem? (i := 1541) rfl, ⟨by decide, by decide, by decide +kernel⟩, aw_inG (List.mem_of_getElem? (i := 98) (by decide +kernel)) rfl, by decide⟩
theorem ciX12_atom : Cond.instanceMethod MX12_atom.1 ∈ aw_G ∧ Cond.selects MX12_atom.1.cls MX12_atom.1 MX12_atom.1 ∈ aw_G := ⟨aw_inG (List.mem_of_getElem? (i := 1540) (by decide +kernel)) rfl, aw_inG (List.mem_of_getElem? (i := 46) (by decide +kernel)) rfl⟩
theorem cv_RX12_174 : aw_CV RX12 174 MX12_atom 0 := ⟨cbX12_atom, aw_inG (List.mem_of_getElem? (i := 1538) (by decide +kernel)) rfl, ciX12_atom.1, ciX12_atom.2⟩
abbrev MX12_isDigit : aw_M := (yX12_isDigit, cX12_isDigit, 1, some .boolean)
set_option maxRecDepth 20000 in
theorem cbX12_isDigit : aw_CB MX12_isDigit 0 := ⟨List.mem_of_getElem? (i := 1492) rfl, ⟨by decide, by decide, by decide +kernel⟩, aw_inG (List.mem_of_getElem? (i := 98) (by decide +kernel)) rfl, by decide⟩
theorem ciX12_isDigit : Cond.instanceMethod MX12_isDigit.1 ∈ aw_G ∧ Cond.selects MX12_isDigit.1.cls MX12_isDigit.1 MX12_isDigit.1 ∈ aw_G := ⟨aw_inG (List.mem_of_getElem? (i := 1491) (by decide +kernel)) rfl, aw_inG (List.mem_of_getElem? (i := 36) (by decide +kernel)) rfl⟩
theorem cv_RX12_171 : aw_CV RX12 171 MX12_isDigit 0 := ⟨cbX12_isDigit, aw_inG (List.mem_of_getElem? (i := 1489) (by decide +kernel)) rfl, ciX12_isDigit.1, ciX12_isDigit.2⟩
abbrev MX12_goesIn : aw_M := (yX12_goesIn, cX12_goesIn, 1, some .boolean)
set_option maxRecDepth 20000 in
theorem cbX12_goesIn : aw_CB MX12_goesIn 0 := ⟨List.mem_of_getElem? (i := 1545) rfl, ⟨by decide, by decide, by decide +kernel⟩, aw_inG (List.mem_of_getElem? (i := 98) (by decide +kernel)) rfl, by decide⟩
theorem ciX12_goesIn : Cond.instanceMethod MX12_goesIn.1 ∈ aw_G ∧ Cond.selects MX12_goesIn.1.cls MX12_goesIn.1 MX12_goesIn.1 ∈ aw_G := ⟨aw_inG (List.mem_of_getElem? (i := 1544) (by decide +kernel)) rfl, aw_inG (List.mem_of_getElem? (i := 47) (by decide +kernel)) rfl⟩
theorem cv_RX12_161 : aw_CV RX12 161 MX12_goesIn 0 := ⟨cbX12_goesIn, aw_inG (List.mem_of_getElem? (i := 1542) (by decide +kernel)) rfl, ciX12_goesIn.1, ciX12_goesIn.2⟩
theorem fl_RX12_134 : aw_FL RX12 134 12 12 := ⟨RX12, TX12, 52, rfl, by decide, fG_12, aw_inG (List.mem_of_getElem? (i := 1234) (by decide +kernel)) rfl⟩
abbrev MX12_within : aw_M := (yX12_within, cX12_within, 2, some .int)
set_option maxRecDepth 20000 in
theorem cbX12_within : aw_CB MX12_within 1 := ⟨List.mem_of_getElem? (i := 1548) rfl, ⟨by decide, by decide, by decide +kernel⟩, aw_inG (List.mem_of_getElem? (i := 98) (by decide +kernel)) rfl, by decide⟩
theorem cs_RX12_177 : aw_CS RX12 177 MX12_within 1 := ⟨cbX12_within, aw_inG (List.mem_of_getElem? (i := 1546) (by decide +kernel)) rfl, aw_inG (List.mem_of_getElem? (i := 1547) (by decide +kernel)) rfl⟩
theorem cl_RX12_144 : Cond.constantLong RX12 144 (Int64.ofInt (-1000000)) ∈ aw_G := aw_inG (List.mem_of_getElem? (i := 1549) (by decide +kernel)) rfl
theorem cl_RX12_146 : Cond.constantLong RX12 146 (Int64.ofInt 1000000) ∈ aw_G := aw_inG (List.mem_of_getElem? (i := 1550) (by decide +kernel)) rfl
theorem cm_RX12_148 : aw_CM RX12 148 Lib.MathLoose.min_long.x Lib.MathLoose.min_long.code 4 (some .long) := ⟨aw_inG (List.mem_of_getElem? (i := 1551) (by decide +kernel)) rfl, cy_mminL⟩
theorem cm_RX12_154 : aw_CM RX12 154 Lib.MathLoose.max_long.x Lib.MathLoose.max_long.code 4 (some .long) := ⟨aw_inG (List.mem_of_getElem? (i := 1552) (by decide +kernel)) rfl, cy_mmaxL⟩
abbrev MX12_isSign : aw_M := (yX12_isSign, cX12_isSign, 1, some .boolean)
set_option maxRecDepth 20000 in
theorem cbX12_isSign : aw_CB MX12_isSign 1 := ⟨List.mem_of_getElem? (i := 1555) rfl, ⟨by decide, by decide, by decide +kernel⟩, aw_inG (List.mem_of_getElem? (i := 98) (by decide +kernel)) rfl, by decide⟩
theorem cs_RX12_184 : aw_CS RX12 184 MX12_isSign 1 := ⟨cbX12_isSign, aw_inG (List.mem_of_getElem? (i := 1553) (by decide +kernel)) rfl, aw_inG (List.mem_of_getElem? (i := 1554) (by decide +kernel)) rfl⟩
theorem fl_RX12_200 : aw_FL RX12 200 12 17 := ⟨RX12, TX12, 52, rfl, by decide, fG_12, aw_inG (List.mem_of_getElem? (i := 1239) (by decide +kernel)) rfl⟩
theorem fl_RX12_204 : aw_FL RX12 204 12 13 := ⟨RX12, TX12, 52, rfl, by decide, fG_12, aw_inG (List.mem_of_getElem? (i := 1235) (by decide +kernel)) rfl⟩
theorem fl_RX12_207 : aw_FL RX12 207 12 14 := ⟨RX12, TX12, 52, rfl, by decide, fG_12, aw_inG (List.mem_of_getElem? (i := 1236) (by decide +kernel)) rfl⟩
theorem cm_RX12_299 : aw_CM RX12 299 Lib.Math.max.name Lib.Math.max.code 2 (some .int) := ⟨aw_inG (List.mem_of_getElem? (i := 1610) (by decide +kernel)) rfl, cy_mmax⟩
theorem cl_RX12_285 : Cond.constantLong RX12 285 (Int64.ofInt 4) ∈ aw_G := aw_inG (List.mem_of_getElem? (i := 1573) (by decide +kernel)) rfl
abbrev MX12_leastOf : aw_M := (yX12_leastOf, cX12_leastOf, 2, some .int)
set_option maxRecDepth 20000 in
theorem cbX12_leastOf : aw_CB MX12_leastOf 2 := ⟨List.mem_of_getElem? (i := 1499) rfl, ⟨by decide, by decide, by decide +kernel⟩, aw_inG (List.mem_of_getElem? (i := 98) (by decide +kernel)) rfl, by decide⟩
theorem cs_RX12_220 : aw_CS RX12 220 MX12_leastOf 2 := ⟨cbX12_leastOf, aw_inG (List.mem_of_getElem? (i := 1497) (by decide +kernel)) rfl, aw_inG (List.mem_of_getElem? (i := 1498) (by decide +kernel)) rfl⟩
abbrev MX12_mostOf : aw_M := (yX12_mostOf, cX12_mostOf, 2, some .int)
set_option maxRecDepth 20000 in
theorem cbX12_mostOf : aw_CB MX12_mostOf 2 := ⟨List.mem_of_getElem? (i := 1502) rfl, ⟨by decide, by decide, by decide +kernel⟩, aw_inG (List.mem_of_getElem? (i := 98) (by decide +kernel)) rfl, by decide⟩
theorem cs_RX12_224 : aw_CS RX12 224 MX12_mostOf 2 := ⟨cbX12_mostOf, aw_inG (List.mem_of_getElem? (i := 1500) (by decide +kernel)) rfl, aw_inG (List.mem_of_getElem? (i := 1501) (by decide +kernel)) rfl⟩
abbrev MX12_hasBy : aw_M := (yX12_hasBy, cX12_hasBy, 5, some .boolean)
set_option maxRecDepth 20000 in
theorem cbX12_hasBy : aw_CB MX12_hasBy 2 := ⟨List.mem_of_getElem? (i := 1836) rfl, ⟨by decide, by decide, by decide +kernel⟩, aw_inG (List.mem_of_getElem? (i := 98) (by decide +kernel)) rfl, by decide⟩
theorem ciX12_hasBy : Cond.instanceMethod MX12_hasBy.1 ∈ aw_G ∧ Cond.selects MX12_hasBy.1.cls MX12_hasBy.1 MX12_hasBy.1 ∈ aw_G := ⟨aw_inG (List.mem_of_getElem? (i := 1835) (by decide +kernel)) rfl, aw_inG (List.mem_of_getElem? (i := 84) (by decide +kernel)) rfl⟩
theorem cv_RX12_439 : aw_CV RX12 439 MX12_hasBy 2 := ⟨cbX12_hasBy, aw_inG (List.mem_of_getElem? (i := 1833) (by decide +kernel)) rfl, ciX12_hasBy.1, ciX12_hasBy.2⟩
theorem fl_RX12_265 : aw_FL RX12 265 12 7 := ⟨RX12, TX12, 52, rfl, by decide, fG_12, aw_inG (List.mem_of_getElem? (i := 1229) (by decide +kernel)) rfl⟩
theorem fl_RX12_112 : aw_FL RX12 112 12 6 := ⟨RX12, TX12, 52, rfl, by decide, fG_12, aw_inG (List.mem_of_getElem? (i := 1228) (by decide +kernel)) rfl⟩
theorem cl_RX12_313 : Cond.constantLong RX12 313 (Int64.ofInt 2) ∈ aw_G := aw_inG (List.mem_of_getElem? (i := 1595) (by decide +kernel)) rfl
abbrev MX12_layBest : aw_M := (yX12_layBest, cX12_layBest, 6, none)
set_option maxRecDepth 20000 in
theorem cbX12_layBest : aw_CB MX12_layBest 1 := ⟨List.mem_of_getElem? (i := 1692) rfl, ⟨by decide, by decide, by decide +kernel⟩, aw_inG (List.mem_of_getElem? (i := 98) (by decide +kernel)) rfl, by decide⟩
theorem ciX12_layBest : Cond.instanceMethod MX12_layBest.1 ∈ aw_G ∧ Cond.selects MX12_layBest.1.cls MX12_layBest.1 MX12_layBest.1 ∈ aw_G := ⟨aw_inG (List.mem_of_getElem? (i := 1691) (by decide +kernel)) rfl, aw_inG (List.mem_of_getElem? (i := 68) (by decide +kernel)) rfl⟩
theorem cv_RX12_357 : aw_CV RX12 357 MX12_layBest 1 := ⟨cbX12_layBest, aw_inG (List.mem_of_getElem? (i := 1689) (by decide +kernel)) rfl, ciX12_layBest.1, ciX12_layBest.2⟩
theorem fp_RX12_351 : aw_FP RX12 351 12 34 .int := ⟨RX12, TX12, 52, tyX12, rfl, by decide, fG_12, aw_inG (List.mem_of_getElem? (i := 1256) (by decide +kernel)) rfl, tyX12_ok, nmX12, rfl, rfl⟩
theorem fp_RX12_354 : aw_FP RX12 354 12 35 .int := ⟨RX12, TX12, 52, tyX12, rfl, by decide, fG_12, aw_inG (List.mem_of_getElem? (i := 1257) (by decide +kernel)) rfl, tyX12_ok, nmX12, rfl, rfl⟩
theorem fl_RX12_354 : aw_FL RX12 354 12 35 := ⟨RX12, TX12, 52, rfl, by decide, fG_12, aw_inG (List.mem_of_getElem? (i := 1257) (by decide +kernel)) rfl⟩
theorem fl_RX12_351 : aw_FL RX12 351 12 34 := ⟨RX12, TX12, 52, rfl, by decide, fG_12, aw_inG (List.mem_of_getElem? (i := 1256) (by decide +kernel)) rfl⟩
theorem fp_RX12_112 : aw_FP RX12 112 12 6 .int := ⟨RX12, TX12, 52, tyX12, rfl, by decide, fG_12, aw_inG (List.mem_of_getElem? (i := 1228) (by decide +kernel)) rfl, tyX12_ok, nmX12, rfl, rfl⟩
theorem fl_RX12_9 : aw_FL RX12 9 12 1 := ⟨RX12, TX12, 52, rfl, by decide, fG_12, aw_inG (List.mem_of_getElem? (i := 1223) (by decide +kernel)) rfl⟩
abbrev MX12_readLand : aw_M := (yX12_readLand, cX12_readLand, 2, none)
set_option maxRecDepth 20000 in
theorem cbX12_readLand : aw_CB MX12_readLand 0 := ⟨List.mem_of_getElem? (i := 1409) rfl, ⟨by decide, by decide, by decide +kernel⟩, aw_inG (List.mem_of_getElem? (i := 98) (by decide +kernel)) rfl, by decide⟩
theorem ciX12_readLand : Cond.instanceMethod MX12_readLand.1 ∈ aw_G ∧ Cond.selects MX12_readLand.1.cls MX12_readLand.1 MX12_readLand.1 ∈ aw_G := ⟨aw_inG (List.mem_of_getElem? (i := 1408) (by decide +kernel)) rfl, aw_inG (List.mem_of_getElem? (i := 30) (by decide +kernel)) rfl⟩
theorem cv_RX12_259 : aw_CV RX12 259 MX12_readLand 0 := ⟨cbX12_readLand, aw_inG (List.mem_of_getElem? (i := 1406) (by decide +kernel)) rfl, ciX12_readLand.1, ciX12_readLand.2⟩
theorem fp_RX12_234 : aw_FP RX12 234 12 23 .int := ⟨RX12, TX12, 52, tyX12, rfl, by decide, fG_12, aw_inG (List.mem_of_getElem? (i := 1245) (by decide +kernel)) rfl, tyX12_ok, nmX12, rfl, rfl⟩
theorem fp_RX12_231 : aw_FP RX12 231 12 24 .boolean := ⟨RX12, TX12, 52, tyX12, rfl, by decide, fG_12, aw_inG (List.mem_of_getElem? (i := 1246) (by decide +kernel)) rfl, tyX12_ok, nmX12, rfl, rfl⟩
theorem fl_RX12_234 : aw_FL RX12 234 12 23 := ⟨RX12, TX12, 52, rfl, by decide, fG_12, aw_inG (List.mem_of_getElem? (i := 1245) (by decide +kernel)) rfl⟩
abbrev MX12_readClause : aw_M := (yX12_readClause, cX12_readClause, 8, none)
set_option maxRecDepth 20000 in
theorem cbX12_readClause : aw_CB MX12_readClause 0 := ⟨List.mem_of_getElem? (i := 1420) rfl, ⟨by decide, by decide, by decide +kernel⟩, aw_inG (List.mem_of_getElem? (i := 98) (by decide +kernel)) rfl, by decide⟩
theorem ciX12_readClause : Cond.instanceMethod MX12_readClause.1 ∈ aw_G ∧ Cond.selects MX12_readClause.1.cls MX12_readClause.1 MX12_readClause.1 ∈ aw_G := ⟨aw_inG (List.mem_of_getElem? (i := 1419) (by decide +kernel)) rfl, aw_inG (List.mem_of_getElem? (i := 32) (by decide +kernel)) rfl⟩
theorem cv_RX12_256 : aw_CV RX12 256 MX12_readClause 0 := ⟨cbX12_readClause, aw_inG (List.mem_of_getElem? (i := 1417) (by decide +kernel)) rfl, ciX12_readClause.1, ciX12_readClause.2⟩
theorem fl_RX12_40 : aw_FL RX12 40 12 19 := ⟨RX12, TX12, 52, rfl, by decide, fG_12, aw_inG (List.mem_of_getElem? (i := 1241) (by decide +kernel)) rfl⟩
abbrev MX12_placeOf : aw_M := (yX12_placeOf, cX12_placeOf, 3, some .int)
set_option maxRecDepth 20000 in
theorem cbX12_placeOf : aw_CB MX12_placeOf 2 := ⟨List.mem_of_getElem? (i := 1443) rfl, ⟨by decide, by decide, by decide +kernel⟩, aw_inG (List.mem_of_getElem? (i := 98) (by decide +kernel)) rfl, by decide⟩
theorem cs_RX12_244 : aw_CS RX12 244 MX12_placeOf 2 := ⟨cbX12_placeOf, aw_inG (List.mem_of_getElem? (i := 1441) (by decide +kernel)) rfl, aw_inG (List.mem_of_getElem? (i := 1442) (by decide +kernel)) rfl⟩
abbrev MX12_readItem : aw_M := (yX12_readItem, cX12_readItem, 7, none)
set_option maxRecDepth 20000 in
theorem cbX12_readItem : aw_CB MX12_readItem 4 := ⟨List.mem_of_getElem? (i := 1488) rfl, ⟨by decide, by decide, by decide +kernel⟩, aw_inG (List.mem_of_getElem? (i := 98) (by decide +kernel)) rfl, by decide⟩
theorem ciX12_readItem : Cond.instanceMethod MX12_readItem.1 ∈ aw_G ∧ Cond.selects MX12_readItem.1.cls MX12_readItem.1 MX12_readItem.1 ∈ aw_G := ⟨aw_inG (List.mem_of_getElem? (i := 1487) (by decide +kernel)) rfl, aw_inG (List.mem_of_getElem? (i := 35) (by decide +kernel)) rfl⟩
theorem cv_RX12_252 : aw_CV RX12 252 MX12_readItem 4 := ⟨cbX12_readItem, aw_inG (List.mem_of_getElem? (i := 1485) (by decide +kernel)) rfl, ciX12_readItem.1, ciX12_readItem.2⟩
abbrev MX12_here : aw_M := (yX12_here, cX12_here, 1, some .int)
set_option maxRecDepth 20000 in
theorem cbX12_here : aw_CB MX12_here 0 := ⟨List.mem_of_getElem? (i := 1496) rfl, ⟨by decide, by decide, by decide +kernel⟩, aw_inG (List.mem_of_getElem? (i := 98) (by decide +kernel)) rfl, by decide⟩
theorem ciX12_here : Cond.instanceMethod MX12_here.1 ∈ aw_G ∧ Cond.selects MX12_here.1.cls MX12_here.1 MX12_here.1 ∈ aw_G := ⟨aw_inG (List.mem_of_getElem? (i := 1495) (by decide +kernel)) rfl, aw_inG (List.mem_of_getElem? (i := 37) (by decide +kernel)) rfl⟩
theorem cv_RX12_217 : aw_CV RX12 217 MX12_here 0 := ⟨cbX12_here, aw_inG (List.mem_of_getElem? (i := 1493) (by decide +kernel)) rfl, ciX12_here.1, ciX12_here.2⟩
abbrev MX12_usual : aw_M := (yX12_usual, cX12_usual, 2, some .int)
set_option maxRecDepth 20000 in
theorem cbX12_usual : aw_CB MX12_usual 2 := ⟨List.mem_of_getElem? (i := 1416) rfl, ⟨by decide, by decide, by decide +kernel⟩, aw_inG (List.mem_of_getElem? (i := 98) (by decide +kernel)) rfl, by decide⟩
theorem cs_RX12_241 : aw_CS RX12 241 MX12_usual 2 := ⟨cbX12_usual, aw_inG (List.mem_of_getElem? (i := 1414) (by decide +kernel)) rfl, aw_inG (List.mem_of_getElem? (i := 1415) (by decide +kernel)) rfl⟩
theorem fl_RX12_46 : aw_FL RX12 46 12 21 := ⟨RX12, TX12, 52, rfl, by decide, fG_12, aw_inG (List.mem_of_getElem? (i := 1243) (by decide +kernel)) rfl⟩
theorem fl_RX12_231 : aw_FL RX12 231 12 24 := ⟨RX12, TX12, 52, rfl, by decide, fG_12, aw_inG (List.mem_of_getElem? (i := 1246) (by decide +kernel)) rfl⟩
abbrev MX12_bytesIn : aw_M := (yX12_bytesIn, cX12_bytesIn, 3, some .int)
set_option maxRecDepth 20000 in
theorem cbX12_bytesIn : aw_CB MX12_bytesIn 1 := ⟨List.mem_of_getElem? (i := 1390) rfl, ⟨by decide, by decide, by decide +kernel⟩, aw_inG (List.mem_of_getElem? (i := 98) (by decide +kernel)) rfl, by decide⟩
theorem cs_RX12_114 : aw_CS RX12 114 MX12_bytesIn 1 := ⟨cbX12_bytesIn, aw_inG (List.mem_of_getElem? (i := 1388) (by decide +kernel)) rfl, aw_inG (List.mem_of_getElem? (i := 1389) (by decide +kernel)) rfl⟩
abbrev MX12_put : aw_M := (yX12_put, cX12_put, 3, none)
set_option maxRecDepth 20000 in
theorem cbX12_put : aw_CB MX12_put 1 := ⟨List.mem_of_getElem? (i := 1394) rfl, ⟨by decide, by decide, by decide +kernel⟩, aw_inG (List.mem_of_getElem? (i := 98) (by decide +kernel)) rfl, by decide⟩
theorem ciX12_put : Cond.instanceMethod MX12_put.1 ∈ aw_G ∧ Cond.selects MX12_put.1.cls MX12_put.1 MX12_put.1 ∈ aw_G := ⟨aw_inG (List.mem_of_getElem? (i := 1393) (by decide +kernel)) rfl, aw_inG (List.mem_of_getElem? (i := 29) (by decide +kernel)) rfl⟩
theorem cv_RX12_118 : aw_CV RX12 118 MX12_put 1 := ⟨cbX12_put, aw_inG (List.mem_of_getElem? (i := 1391) (by decide +kernel)) rfl, ciX12_put.1, ciX12_put.2⟩
abbrev MX12_isPact : aw_M := (yX12_isPact, cX12_isPact, 3, some .boolean)
set_option maxRecDepth 20000 in
theorem cbX12_isPact : aw_CB MX12_isPact 2 := ⟨List.mem_of_getElem? (i := 1708) rfl, ⟨by decide, by decide, by decide +kernel⟩, aw_inG (List.mem_of_getElem? (i := 98) (by decide +kernel)) rfl, by decide⟩
theorem ciX12_isPact : Cond.instanceMethod MX12_isPact.1 ∈ aw_G ∧ Cond.selects MX12_isPact.1.cls MX12_isPact.1 MX12_isPact.1 ∈ aw_G := ⟨aw_inG (List.mem_of_getElem? (i := 1707) (by decide +kernel)) rfl, aw_inG (List.mem_of_getElem? (i := 69) (by decide +kernel)) rfl⟩
theorem cv_RX12_369 : aw_CV RX12 369 MX12_isPact 2 := ⟨cbX12_isPact, aw_inG (List.mem_of_getElem? (i := 1705) (by decide +kernel)) rfl, ciX12_isPact.1, ciX12_isPact.2⟩
theorem fp_RX12_442 : aw_FP RX12 442 12 50 .int := ⟨RX12, TX12, 52, tyX12, rfl, by decide, fG_12, aw_inG (List.mem_of_getElem? (i := 1272) (by decide +kernel)) rfl, tyX12_ok, nmX12, rfl, rfl⟩
theorem fp_RX12_276 : aw_FP RX12 276 12 51 .boolean := ⟨RX12, TX12, 52, tyX12, rfl, by decide, fG_12, aw_inG (List.mem_of_getElem? (i := 1273) (by decide +kernel)) rfl, tyX12_ok, nmX12, rfl, rfl⟩
abbrev MX12_madeBy : aw_M := (yX12_madeBy, cX12_madeBy, 5, some .int)
set_option maxRecDepth 20000 in
theorem cbX12_madeBy : aw_CB MX12_madeBy 2 := ⟨List.mem_of_getElem? (i := 1800) rfl, ⟨by decide, by decide, by decide +kernel⟩, aw_inG (List.mem_of_getElem? (i := 98) (by decide +kernel)) rfl, by decide⟩
theorem ciX12_madeBy : Cond.instanceMethod MX12_madeBy.1 ∈ aw_G ∧ Cond.selects MX12_madeBy.1.cls MX12_madeBy.1 MX12_madeBy.1 ∈ aw_G := ⟨aw_inG (List.mem_of_getElem? (i := 1799) (by decide +kernel)) rfl, aw_inG (List.mem_of_getElem? (i := 81) (by decide +kernel)) rfl⟩
theorem cv_RX12_424 : aw_CV RX12 424 MX12_madeBy 2 := ⟨cbX12_madeBy, aw_inG (List.mem_of_getElem? (i := 1797) (by decide +kernel)) rfl, ciX12_madeBy.1, ciX12_madeBy.2⟩
abbrev MX12_layBooked : aw_M := (yX12_layBooked, cX12_layBooked, 4, none)
set_option maxRecDepth 20000 in
theorem cbX12_layBooked : aw_CB MX12_layBooked 1 := ⟨List.mem_of_getElem? (i := 1792) rfl, ⟨by decide, by decide, by decide +kernel⟩, aw_inG (List.mem_of_getElem? (i := 98) (by decide +kernel)) rfl, by decide⟩
theorem ciX12_layBooked : Cond.instanceMethod MX12_layBooked.1 ∈ aw_G ∧ Cond.selects MX12_layBooked.1.cls MX12_layBooked.1 MX12_layBooked.1 ∈ aw_G := ⟨aw_inG (List.mem_of_getElem? (i := 1791) (by decide +kernel)) rfl, aw_inG (List.mem_of_getElem? (i := 80) (by decide +kernel)) rfl⟩
theorem cv_RX12_421 : aw_CV RX12 421 MX12_layBooked 1 := ⟨cbX12_layBooked, aw_inG (List.mem_of_getElem? (i := 1789) (by decide +kernel)) rfl, ciX12_layBooked.1, ciX12_layBooked.2⟩
theorem fl_RX12_301 : aw_FL RX12 301 12 31 := ⟨RX12, TX12, 52, rfl, by decide, fG_12, aw_inG (List.mem_of_getElem? (i := 1253) (by decide +kernel)) rfl⟩
abbrev MX12_rowMany : aw_M := (yX12_rowMany, cX12_rowMany, 3, some .int)
set_option maxRecDepth 20000 in
theorem cbX12_rowMany : aw_CB MX12_rowMany 0 := ⟨List.mem_of_getElem? (i := 1684) rfl, ⟨by decide, by decide, by decide +kernel⟩, aw_inG (List.mem_of_getElem? (i := 98) (by decide +kernel)) rfl, by decide⟩
theorem ciX12_rowMany : Cond.instanceMethod MX12_rowMany.1 ∈ aw_G ∧ Cond.selects MX12_rowMany.1.cls MX12_rowMany.1 MX12_rowMany.1 ∈ aw_G := ⟨aw_inG (List.mem_of_getElem? (i := 1683) (by decide +kernel)) rfl, aw_inG (List.mem_of_getElem? (i := 66) (by decide +kernel)) rfl⟩
theorem cv_RX12_363 : aw_CV RX12 363 MX12_rowMany 0 := ⟨cbX12_rowMany, aw_inG (List.mem_of_getElem? (i := 1681) (by decide +kernel)) rfl, ciX12_rowMany.1, ciX12_rowMany.2⟩
abbrev MX12_isRest : aw_M := (yX12_isRest, cX12_isRest, 2, some .boolean)
set_option maxRecDepth 20000 in
theorem cbX12_isRest : aw_CB MX12_isRest 0 := ⟨List.mem_of_getElem? (i := 1688) rfl, ⟨by decide, by decide, by decide +kernel⟩, aw_inG (List.mem_of_getElem? (i := 98) (by decide +kernel)) rfl, by decide⟩
theorem ciX12_isRest : Cond.instanceMethod MX12_isRest.1 ∈ aw_G ∧ Cond.selects MX12_isRest.1.cls MX12_isRest.1 MX12_isRest.1 ∈ aw_G := ⟨aw_inG (List.mem_of_getElem? (i := 1687) (by decide +kernel)) rfl, aw_inG (List.mem_of_getElem? (i := 67) (by decide +kernel)) rfl⟩
theorem cv_RX12_366 : aw_CV RX12 366 MX12_isRest 0 := ⟨cbX12_isRest, aw_inG (List.mem_of_getElem? (i := 1685) (by decide +kernel)) rfl, ciX12_isRest.1, ciX12_isRest.2⟩
abbrev MX12_rowOf : aw_M := (yX12_rowOf, cX12_rowOf, 3, some .int)
set_option maxRecDepth 20000 in
theorem cbX12_rowOf : aw_CB MX12_rowOf 0 := ⟨List.mem_of_getElem? (i := 1724) rfl, ⟨by decide, by decide, by decide +kernel⟩, aw_inG (List.mem_of_getElem? (i := 98) (by decide +kernel)) rfl, by decide⟩
theorem ciX12_rowOf : Cond.instanceMethod MX12_rowOf.1 ∈ aw_G ∧ Cond.selects MX12_rowOf.1.cls MX12_rowOf.1 MX12_rowOf.1 ∈ aw_G := ⟨aw_inG (List.mem_of_getElem? (i := 1723) (by decide +kernel)) rfl, aw_inG (List.mem_of_getElem? (i := 72) (by decide +kernel)) rfl⟩
theorem cv_RX12_378 : aw_CV RX12 378 MX12_rowOf 0 := ⟨cbX12_rowOf, aw_inG (List.mem_of_getElem? (i := 1721) (by decide +kernel)) rfl, ciX12_rowOf.1, ciX12_rowOf.2⟩
abbrev MX12_ringFrom : aw_M := (yX12_ringFrom, cX12_ringFrom, 4, some .int)
set_option maxRecDepth 20000 in
theorem cbX12_ringFrom : aw_CB MX12_ringFrom 0 := ⟨List.mem_of_getElem? (i := 1769) rfl, ⟨by decide, by decide, by decide +kernel⟩, aw_inG (List.mem_of_getElem? (i := 98) (by decide +kernel)) rfl, by decide⟩
theorem ciX12_ringFrom : Cond.instanceMethod MX12_ringFrom.1 ∈ aw_G ∧ Cond.selects MX12_ringFrom.1.cls MX12_ringFrom.1 MX12_ringFrom.1 ∈ aw_G := ⟨aw_inG (List.mem_of_getElem? (i := 1768) (by decide +kernel)) rfl, aw_inG (List.mem_of_getElem? (i := 79) (by decide +kernel)) rfl⟩
theorem cv_RX12_408 : aw_CV RX12 408 MX12_ringFrom 0 := ⟨cbX12_ringFrom, aw_inG (List.mem_of_getElem? (i := 1766) (by decide +kernel)) rfl, ciX12_ringFrom.1, ciX12_ringFrom.2⟩
abbrev MX12_round : aw_M := (yX12_round, cX12_round, 2, none)
set_option maxRecDepth 20000 in
theorem cbX12_round : aw_CB MX12_round 0 := ⟨List.mem_of_getElem? (i := 1761) rfl, ⟨by decide, by decide, by decide +kernel⟩, aw_inG (List.mem_of_getElem? (i := 98) (by decide +kernel)) rfl, by decide⟩
theorem ciX12_round : Cond.instanceMethod MX12_round.1 ∈ aw_G ∧ Cond.selects MX12_round.1.cls MX12_round.1 MX12_round.1 ∈ aw_G := ⟨aw_inG (List.mem_of_getElem? (i := 1760) (by decide +kernel)) rfl, aw_inG (List.mem_of_getElem? (i := 77) (by decide +kernel)) rfl⟩
theorem cv_RX12_405 : aw_CV RX12 405 MX12_round 0 := ⟨cbX12_round, aw_inG (List.mem_of_getElem? (i := 1758) (by decide +kernel)) rfl, ciX12_round.1, ciX12_round.2⟩
theorem fl_RX12_84 : aw_FL RX12 84 12 41 := ⟨RX12, TX12, 52, rfl, by decide, fG_12, aw_inG (List.mem_of_getElem? (i := 1263) (by decide +kernel)) rfl⟩
abbrev MX12_greatestFor : aw_M := (yX12_greatestFor, cX12_greatestFor, 7, some .int)
set_option maxRecDepth 20000 in
theorem cbX12_greatestFor : aw_CB MX12_greatestFor 1 := ⟨List.mem_of_getElem? (i := 1765) rfl, ⟨by decide, by decide, by decide +kernel⟩, aw_inG (List.mem_of_getElem? (i := 98) (by decide +kernel)) rfl, by decide⟩
theorem ciX12_greatestFor : Cond.instanceMethod MX12_greatestFor.1 ∈ aw_G ∧ Cond.selects MX12_greatestFor.1.cls MX12_greatestFor.1 MX12_greatestFor.1 ∈ aw_G := ⟨aw_inG (List.mem_of_getElem? (i := 1764) (by decide +kernel)) rfl, aw_inG (List.mem_of_getElem? (i := 78) (by decide +kernel)) rfl⟩
theorem cv_RX12_402 : aw_CV RX12 402 MX12_greatestFor 1 := ⟨cbX12_greatestFor, aw_inG (List.mem_of_getElem? (i := 1762) (by decide +kernel)) rfl, ciX12_greatestFor.1, ciX12_greatestFor.2⟩
abbrev MX12_told : aw_M := (yX12_told, cX12_told, 3, some .int)
set_option maxRecDepth 20000 in
theorem cbX12_told : aw_CB MX12_told 2 := ⟨List.mem_of_getElem? (i := 1757) rfl, ⟨by decide, by decide, by decide +kernel⟩, aw_inG (List.mem_of_getElem? (i := 98) (by decide +kernel)) rfl, by decide⟩
theorem ciX12_told : Cond.instanceMethod MX12_told.1 ∈ aw_G ∧ Cond.selects MX12_told.1.cls MX12_told.1 MX12_told.1 ∈ aw_G := ⟨aw_inG (List.mem_of_getElem? (i := 1756) (by decide +kernel)) rfl, aw_inG (List.mem_of_getElem? (i := 76) (by decide +kernel)) rfl⟩
theorem cv_RX12_399 : aw_CV RX12 399 MX12_told 2 := ⟨cbX12_told, aw_inG (List.mem_of_getElem? (i := 1754) (by decide +kernel)) rfl, ciX12_told.1, ciX12_told.2⟩
abbrev MX12_areTurns : aw_M := (yX12_areTurns, cX12_areTurns, 2, some .boolean)
set_option maxRecDepth 20000 in
theorem cbX12_areTurns : aw_CB MX12_areTurns 1 := ⟨List.mem_of_getElem? (i := 1736) rfl, ⟨by decide, by decide, by decide +kernel⟩, aw_inG (List.mem_of_getElem? (i := 98) (by decide +kernel)) rfl, by decide⟩
theorem ciX12_areTurns : Cond.instanceMethod MX12_areTurns.1 ∈ aw_G ∧ Cond.selects MX12_areTurns.1.cls MX12_areTurns.1 MX12_areTurns.1 ∈ aw_G := ⟨aw_inG (List.mem_of_getElem? (i := 1735) (by decide +kernel)) rfl, aw_inG (List.mem_of_getElem? (i := 73) (by decide +kernel)) rfl⟩
theorem cv_RX12_393 : aw_CV RX12 393 MX12_areTurns 1 := ⟨cbX12_areTurns, aw_inG (List.mem_of_getElem? (i := 1733) (by decide +kernel)) rfl, ciX12_areTurns.1, ciX12_areTurns.2⟩
theorem cl_RX12_391 : Cond.constantLong RX12 391 (Int64.ofInt 60) ∈ aw_G := aw_inG (List.mem_of_getElem? (i := 1737) (by decide +kernel)) rfl
abbrev MX12_layTurns : aw_M := (yX12_layTurns, cX12_layTurns, 9, none)
set_option maxRecDepth 20000 in
theorem cbX12_layTurns : aw_CB MX12_layTurns 2 := ⟨List.mem_of_getElem? (i := 1741) rfl, ⟨by decide, by decide, by decide +kernel⟩, aw_inG (List.mem_of_getElem? (i := 98) (by decide +kernel)) rfl, by decide⟩
theorem ciX12_layTurns : Cond.instanceMethod MX12_layTurns.1 ∈ aw_G ∧ Cond.selects MX12_layTurns.1.cls MX12_layTurns.1 MX12_layTurns.1 ∈ aw_G := ⟨aw_inG (List.mem_of_getElem? (i := 1740) (by decide +kernel)) rfl, aw_inG (List.mem_of_getElem? (i := 74) (by decide +kernel)) rfl⟩
theorem cv_RX12_396 : aw_CV RX12 396 MX12_layTurns 2 := ⟨cbX12_layTurns, aw_inG (List.mem_of_getElem? (i := 1738) (by decide +kernel)) rfl, ciX12_layTurns.1, ciX12_layTurns.2⟩
theorem fl_RX12_78 : aw_FL RX12 78 12 39 := ⟨RX12, TX12, 52, rfl, by decide, fG_12, aw_inG (List.mem_of_getElem? (i := 1261) (by decide +kernel)) rfl⟩
theorem fl_RX12_81 : aw_FL RX12 81 12 40 := ⟨RX12, TX12, 52, rfl, by decide, fG_12, aw_inG (List.mem_of_getElem? (i := 1262) (by decide +kernel)) rfl⟩
theorem fl_RX12_75 : aw_FL RX12 75 12 38 := ⟨RX12, TX12, 52, rfl, by decide, fG_12, aw_inG (List.mem_of_getElem? (i := 1260) (by decide +kernel)) rfl⟩
abbrev MX12_hasAt : aw_M := (yX12_hasAt, cX12_hasAt, 4, some .int)
set_option maxRecDepth 20000 in
theorem cbX12_hasAt : aw_CB MX12_hasAt 3 := ⟨List.mem_of_getElem? (i := 1745) rfl, ⟨by decide, by decide, by decide +kernel⟩, aw_inG (List.mem_of_getElem? (i := 98) (by decide +kernel)) rfl, by decide⟩
theorem ciX12_hasAt : Cond.instanceMethod MX12_hasAt.1 ∈ aw_G ∧ Cond.selects MX12_hasAt.1.cls MX12_hasAt.1 MX12_hasAt.1 ∈ aw_G := ⟨aw_inG (List.mem_of_getElem? (i := 1744) (by decide +kernel)) rfl, aw_inG (List.mem_of_getElem? (i := 75) (by decide +kernel)) rfl⟩
theorem cv_RX12_387 : aw_CV RX12 387 MX12_hasAt 3 := ⟨cbX12_hasAt, aw_inG (List.mem_of_getElem? (i := 1742) (by decide +kernel)) rfl, ciX12_hasAt.1, ciX12_hasAt.2⟩
theorem fl_RX12_99 : aw_FL RX12 99 12 0 := ⟨RX12, TX12, 52, rfl, by decide, fG_12, aw_inG (List.mem_of_getElem? (i := 1222) (by decide +kernel)) rfl⟩
abbrev MX12_fault : aw_M := (yX12_fault, cX12_fault, 2, some .int)
set_option maxRecDepth 20000 in
theorem cbX12_fault : aw_CB MX12_fault 1 := ⟨List.mem_of_getElem? (i := 1402) rfl, ⟨by decide, by decide, by decide +kernel⟩, aw_inG (List.mem_of_getElem? (i := 98) (by decide +kernel)) rfl, by decide⟩
theorem ciX12_fault : Cond.instanceMethod MX12_fault.1 ∈ aw_G ∧ Cond.selects MX12_fault.1.cls MX12_fault.1 MX12_fault.1 ∈ aw_G := ⟨aw_inG (List.mem_of_getElem? (i := 1400) (by decide +kernel)) rfl, aw_inG (List.mem_of_getElem? (i := 1401) (by decide +kernel)) rfl⟩
theorem cv_RX12_268 : aw_CV RX12 268 MX12_fault 1 := ⟨cbX12_fault, aw_inG (List.mem_of_getElem? (i := 1564) (by decide +kernel)) rfl, ciX12_fault.1, ciX12_fault.2⟩
theorem fp_RX12_270 : aw_FP RX12 270 12 22 .int := ⟨RX12, TX12, 52, tyX12, rfl, by decide, fG_12, aw_inG (List.mem_of_getElem? (i := 1244) (by decide +kernel)) rfl, tyX12_ok, nmX12, rfl, rfl⟩
theorem fp_RX12_265 : aw_FP RX12 265 12 7 .int := ⟨RX12, TX12, 52, tyX12, rfl, by decide, fG_12, aw_inG (List.mem_of_getElem? (i := 1229) (by decide +kernel)) rfl, tyX12_ok, nmX12, rfl, rfl⟩
abbrev MX12_goesPact : aw_M := (yX12_goesPact, cX12_goesPact, 3, some .boolean)
set_option maxRecDepth 20000 in
theorem cbX12_goesPact : aw_CB MX12_goesPact 2 := ⟨List.mem_of_getElem? (i := 1716) rfl, ⟨by decide, by decide, by decide +kernel⟩, aw_inG (List.mem_of_getElem? (i := 98) (by decide +kernel)) rfl, by decide⟩
theorem ciX12_goesPact : Cond.instanceMethod MX12_goesPact.1 ∈ aw_G ∧ Cond.selects MX12_goesPact.1.cls MX12_goesPact.1 MX12_goesPact.1 ∈ aw_G := ⟨aw_inG (List.mem_of_getElem? (i := 1715) (by decide +kernel)) rfl, aw_inG (List.mem_of_getElem? (i := 70) (by decide +kernel)) rfl⟩
theorem cv_RX12_384 : aw_CV RX12 384 MX12_goesPact 2 := ⟨cbX12_goesPact, aw_inG (List.mem_of_getElem? (i := 1713) (by decide +kernel)) rfl, ciX12_goesPact.1, ciX12_goesPact.2⟩
theorem fp_RX12_372 : aw_FP RX12 372 12 37 .int := ⟨RX12, TX12, 52, tyX12, rfl, by decide, fG_12, aw_inG (List.mem_of_getElem? (i := 1259) (by decide +kernel)) rfl, tyX12_ok, nmX12, rfl, rfl⟩
abbrev MX12_goPact : aw_M := (yX12_goPact, cX12_goPact, 5, none)
set_option maxRecDepth 20000 in
theorem cbX12_goPact : aw_CB MX12_goPact 2 := ⟨List.mem_of_getElem? (i := 1720) rfl, ⟨by decide, by decide, by decide +kernel⟩, aw_inG (List.mem_of_getElem? (i := 98) (by decide +kernel)) rfl, by decide⟩
theorem ciX12_goPact : Cond.instanceMethod MX12_goPact.1 ∈ aw_G ∧ Cond.selects MX12_goPact.1.cls MX12_goPact.1 MX12_goPact.1 ∈ aw_G := ⟨aw_inG (List.mem_of_getElem? (i := 1719) (by decide +kernel)) rfl, aw_inG (List.mem_of_getElem? (i := 71) (by decide +kernel)) rfl⟩
theorem cv_RX12_381 : aw_CV RX12 381 MX12_goPact 2 := ⟨cbX12_goPact, aw_inG (List.mem_of_getElem? (i := 1717) (by decide +kernel)) rfl, ciX12_goPact.1, ciX12_goPact.2⟩
theorem fl_RX12_372 : aw_FL RX12 372 12 37 := ⟨RX12, TX12, 52, rfl, by decide, fG_12, aw_inG (List.mem_of_getElem? (i := 1259) (by decide +kernel)) rfl⟩
theorem fp_RX12_375 : aw_FP RX12 375 12 36 .int := ⟨RX12, TX12, 52, tyX12, rfl, by decide, fG_12, aw_inG (List.mem_of_getElem? (i := 1258) (by decide +kernel)) rfl, tyX12_ok, nmX12, rfl, rfl⟩
theorem fl_RX12_375 : aw_FL RX12 375 12 36 := ⟨RX12, TX12, 52, rfl, by decide, fG_12, aw_inG (List.mem_of_getElem? (i := 1258) (by decide +kernel)) rfl⟩
theorem fp_RX12_68 : aw_FP RX12 68 12 32 .int := ⟨RX12, TX12, 52, tyX12, rfl, by decide, fG_12, aw_inG (List.mem_of_getElem? (i := 1254) (by decide +kernel)) rfl, tyX12_ok, nmX12, rfl, rfl⟩
theorem cl_RX12_411 : Cond.constantLong RX12 411 (Int64.ofInt 40) ∈ aw_G := aw_inG (List.mem_of_getElem? (i := 1778) (by decide +kernel)) rfl
theorem fp_RX12_413 : aw_FP RX12 413 12 44 .long := ⟨RX12, TX12, 52, tyX12, rfl, by decide, fG_12, aw_inG (List.mem_of_getElem? (i := 1266) (by decide +kernel)) rfl, tyX12_ok, nmX12, rfl, rfl⟩
theorem fl_RX12_413 : aw_FL RX12 413 12 44 := ⟨RX12, TX12, 52, rfl, by decide, fG_12, aw_inG (List.mem_of_getElem? (i := 1266) (by decide +kernel)) rfl⟩
theorem cl_RX12_417 : Cond.constantLong RX12 417 (Int64.ofInt 6364136223846793005) ∈ aw_G := aw_inG (List.mem_of_getElem? (i := 1779) (by decide +kernel)) rfl
theorem cl_RX12_419 : Cond.constantLong RX12 419 (Int64.ofInt 1442695040888963407) ∈ aw_G := aw_inG (List.mem_of_getElem? (i := 1780) (by decide +kernel)) rfl
abbrev MX11_back : aw_M := (yX11_back, cX11_back, 1, some .int)
abbrev MX11_bids : aw_M := (yX11_bids, cX11_bids, 3, some .int)
abbrev MX11_bold : aw_M := (yX11_bold, cX11_bold, 2, some .int)
abbrev MX11_came : aw_M := (yX11_came, cX11_came, 4, some .int)
abbrev MX11_change : aw_M := (yX11_change, cX11_change, 3, some .boolean)
abbrev MX11_changes : aw_M := (yX11_changes, cX11_changes, 2, some .int)
abbrev MX11_choice : aw_M := (yX11_choice, cX11_choice, 5, some .int)
abbrev MX11_count : aw_M := (yX11_count, cX11_count, 2, some .int)
abbrev MX11_cure : aw_M := (yX11_cure, cX11_cure, 3, some .int)
abbrev MX11_end : aw_M := (yX11_end, cX11_end, 2, some .boolean)
abbrev MX11_fault : aw_M := (yX11_fault, cX11_fault, 2, some .int)
abbrev MX11_feed : aw_M := (yX11_feed, cX11_feed, 7, some .int)
abbrev MX11_firm : aw_M := (yX11_firm, cX11_firm, 3, some .int)
abbrev MX11_gain : aw_M := (yX11_gain, cX11_gain, 3, some .int)
abbrev MX11_honour : aw_M := (yX11_honour, cX11_honour, 2, some .int)
abbrev MX11_hope : aw_M := (yX11_hope, cX11_hope, 4, some .int)
abbrev MX11_image : aw_M := (yX11_image, cX11_image, 1, some .int)
abbrev MX11_latest : aw_M := (yX11_latest, cX11_latest, 3, some .int)
abbrev MX11_law : aw_M := (yX11_law, cX11_law, 2, some .int)
abbrev MX11_made : aw_M := (yX11_made, cX11_made, 3, some .int)
abbrev MX11_medal : aw_M := (yX11_medal, cX11_medal, 4, some .int)
abbrev MX11_near : aw_M := (yX11_near, cX11_near, 3, some .int)
abbrev MX11_often : aw_M := (yX11_often, cX11_often, 2, some .int)
abbrev MX11_pair : aw_M := (yX11_pair, cX11_pair, 1, some .int)
abbrev MX11_race : aw_M := (yX11_race, cX11_race, 4, some .int)
abbrev MX11_rests : aw_M := (yX11_rests, cX11_rests, 2, some .int)
abbrev MX11_rounds : aw_M := (yX11_rounds, cX11_rounds, 2, some .int)
abbrev MX11_rule : aw_M := (yX11_rule, cX11_rule, 3, some .boolean)
abbrev MX11_seller : aw_M := (yX11_seller, cX11_seller, 2, some .int)
abbrev MX11_spur : aw_M := (yX11_spur, cX11_spur, 3, some .int)
abbrev MX11_step : aw_M := (yX11_step, cX11_step, 5, some .int)
abbrev MX11_sum : aw_M := (yX11_sum, cX11_sum, 2, some .int)
abbrev MX11_text : aw_M := (yX11_text, cX11_text, 2, some .int)
abbrev MX11_together : aw_M := (yX11_together, cX11_together, 4, some .int)
abbrev MX11_treason : aw_M := (yX11_treason, cX11_treason, 3, some .int)
abbrev MX11_undo : aw_M := (yX11_undo, cX11_undo, 1, some .int)
abbrev MX11_voids : aw_M := (yX11_voids, cX11_voids, 1, some .int)
abbrev MX11_waits : aw_M := (yX11_waits, cX11_waits, 3, some .int)
abbrev MX11_without : aw_M := (yX11_without, cX11_without, 4, some .int)
abbrev MX11_years : aw_M := (yX11_years, cX11_years, 4, some .int)
abbrev MX12_back : aw_M := (yX12_back, cX12_back, 2, some .int)
abbrev MX12_bids : aw_M := (yX12_bids, cX12_bids, 3, some .int)
abbrev MX12_bold : aw_M := (yX12_bold, cX12_bold, 5, some .int)
abbrev MX12_came : aw_M := (yX12_came, cX12_came, 4, some .int)
abbrev MX12_change : aw_M := (yX12_change, cX12_change, 3, some .boolean)
abbrev MX12_changes : aw_M := (yX12_changes, cX12_changes, 6, some .int)
abbrev MX12_choice : aw_M := (yX12_choice, cX12_choice, 7, some .int)
abbrev MX12_count : aw_M := (yX12_count, cX12_count, 2, some .int)
abbrev MX12_cure : aw_M := (yX12_cure, cX12_cure, 7, some .int)
abbrev MX12_end : aw_M := (yX12_end, cX12_end, 2, some .boolean)
abbrev MX12_feed : aw_M := (yX12_feed, cX12_feed, 6, some .int)
abbrev MX12_firm : aw_M := (yX12_firm, cX12_firm, 4, some .int)
abbrev MX12_gain : aw_M := (yX12_gain, cX12_gain, 3, some .int)
abbrev MX12_honour : aw_M := (yX12_honour, cX12_honour, 2, some .int)
abbrev MX12_hope : aw_M := (yX12_hope, cX12_hope, 4, some .int)
abbrev MX12_image : aw_M := (yX12_image, cX12_image, 2, some .int)
abbrev MX12_latest : aw_M := (yX12_latest, cX12_latest, 3, some .int)
abbrev MX12_law : aw_M := (yX12_law, cX12_law, 2, some .int)
abbrev MX12_made : aw_M := (yX12_made, cX12_made, 3, some .int)
abbrev MX12_medal : aw_M := (yX12_medal, cX12_medal, 4, some .int)
abbrev MX12_near : aw_M := (yX12_near, cX12_near, 4, some .int)
abbrev MX12_often : aw_M := (yX12_often, cX12_often, 4, some .int)
abbrev MX12_pair : aw_M := (yX12_pair, cX12_pair, 5, some .int)
abbrev MX12_race : aw_M := (yX12_race, cX12_race, 6, some .int)
abbrev MX12_rests : aw_M := (yX12_rests, cX12_rests, 4, some .int)
abbrev MX12_rounds : aw_M := (yX12_rounds, cX12_rounds, 5, some .int)
abbrev MX12_rule : aw_M := (yX12_rule, cX12_rule, 3, some .boolean)
abbrev MX12_seller : aw_M := (yX12_seller, cX12_seller, 5, some .int)
abbrev MX12_spur : aw_M := (yX12_spur, cX12_spur, 5, some .int)
abbrev MX12_step : aw_M := (yX12_step, cX12_step, 5, some .int)
abbrev MX12_striver : aw_M := (yX12_striver, cX12_striver, 3, some .int)
abbrev MX12_sum_ : aw_M := (yX12_sum_, cX12_sum_, 4, some .int)
abbrev MX12_text : aw_M := (yX12_text, cX12_text, 4, some .int)
abbrev MX12_thrown : aw_M := (yX12_thrown, cX12_thrown, 1, some .int)
abbrev MX12_together : aw_M := (yX12_together, cX12_together, 4, some .int)
abbrev MX12_treason : aw_M := (yX12_treason, cX12_treason, 7, some .int)
abbrev MX12_undo : aw_M := (yX12_undo, cX12_undo, 1, some .int)
abbrev MX12_voids : aw_M := (yX12_voids, cX12_voids, 3, some .int)
abbrev MX12_waits : aw_M := (yX12_waits, cX12_waits, 3, some .int)
abbrev MX12_without : aw_M := (yX12_without, cX12_without, 4, some .int)
abbrev MX12_years : aw_M := (yX12_years, cX12_years, 6, some .int)
