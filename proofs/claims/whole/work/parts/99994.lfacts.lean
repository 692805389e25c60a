theorem cnl_RL_123 : Cond.constantLong RL 123 (Int64.ofInt 4294967295) ∈ aw_G := aw_inG (List.mem_of_getElem? (i := 1869) (by decide +kernel)) rfl
set_option maxRecDepth 20000 in
theorem cbX11_feed : aw_CB MX11_feed 5 := ⟨List.mem_of_getElem? (i := 507) rfl, ⟨by decide, by decide, by decide +kernel⟩, aw_inG (List.mem_of_getElem? (i := 86) (by decide +kernel)) rfl, by decide⟩
theorem ciX11_feed : Cond.instanceMethod MX11_feed.1 ∈ aw_G ∧ Cond.selects MX11_feed.1.cls MX11_feed.1 MX11_feed.1 ∈ aw_G := ⟨aw_inG (List.mem_of_getElem? (i := 505) (by decide +kernel)) rfl, aw_inG (List.mem_of_getElem? (i := 506) (by decide +kernel)) rfl⟩
theorem cv_RL_19 : aw_CV RL 19 MX11_feed 5 := ⟨cbX11_feed, aw_inG (List.mem_of_getElem? (i := 504) (by decide +kernel)) rfl, ciX11_feed.1, ciX11_feed.2⟩
set_option maxRecDepth 20000 in
theorem cbX12_feed : aw_CB MX12_feed 5 := ⟨List.mem_of_getElem? (i := 1387) rfl, ⟨by decide, by decide, by decide +kernel⟩, aw_inG (List.mem_of_getElem? (i := 98) (by decide +kernel)) rfl, by decide⟩
theorem ciX12_feed : Cond.instanceMethod MX12_feed.1 ∈ aw_G ∧ Cond.selects MX12_feed.1.cls MX12_feed.1 MX12_feed.1 ∈ aw_G := ⟨aw_inG (List.mem_of_getElem? (i := 1385) (by decide +kernel)) rfl, aw_inG (List.mem_of_getElem? (i := 1386) (by decide +kernel)) rfl⟩
theorem cv_RL_23 : aw_CV RL 23 MX12_feed 5 := ⟨cbX12_feed, aw_inG (List.mem_of_getElem? (i := 1384) (by decide +kernel)) rfl, ciX12_feed.1, ciX12_feed.2⟩
set_option maxRecDepth 20000 in
theorem cbX11_end : aw_CB MX11_end 1 := ⟨List.mem_of_getElem? (i := 518) rfl, ⟨by decide, by decide, by decide +kernel⟩, aw_inG (List.mem_of_getElem? (i := 86) (by decide +kernel)) rfl, by decide⟩
theorem ciX11_end : Cond.instanceMethod MX11_end.1 ∈ aw_G ∧ Cond.selects MX11_end.1.cls MX11_end.1 MX11_end.1 ∈ aw_G := ⟨aw_inG (List.mem_of_getElem? (i := 516) (by decide +kernel)) rfl, aw_inG (List.mem_of_getElem? (i := 517) (by decide +kernel)) rfl⟩
theorem cv_RL_24 : aw_CV RL 24 MX11_end 1 := ⟨cbX11_end, aw_inG (List.mem_of_getElem? (i := 515) (by decide +kernel)) rfl, ciX11_end.1, ciX11_end.2⟩
set_option maxRecDepth 20000 in
theorem cbX12_end : aw_CB MX12_end 1 := ⟨List.mem_of_getElem? (i := 1398) rfl, ⟨by decide, by decide, by decide +kernel⟩, aw_inG (List.mem_of_getElem? (i := 98) (by decide +kernel)) rfl, by decide⟩
theorem ciX12_end : Cond.instanceMethod MX12_end.1 ∈ aw_G ∧ Cond.selects MX12_end.1.cls MX12_end.1 MX12_end.1 ∈ aw_G := ⟨aw_inG (List.mem_of_getElem? (i := 1396) (by decide +kernel)) rfl, aw_inG (List.mem_of_getElem? (i := 1397) (by decide +kernel)) rfl⟩
theorem cv_RL_28 : aw_CV RL 28 MX12_end 1 := ⟨cbX12_end, aw_inG (List.mem_of_getElem? (i := 1395) (by decide +kernel)) rfl, ciX12_end.1, ciX12_end.2⟩
set_option maxRecDepth 20000 in
theorem cbX11_fault : aw_CB MX11_fault 1 := ⟨List.mem_of_getElem? (i := 522) rfl, ⟨by decide, by decide, by decide +kernel⟩, aw_inG (List.mem_of_getElem? (i := 86) (by decide +kernel)) rfl, by decide⟩
theorem ciX11_fault : Cond.instanceMethod MX11_fault.1 ∈ aw_G ∧ Cond.selects MX11_fault.1.cls MX11_fault.1 MX11_fault.1 ∈ aw_G := ⟨aw_inG (List.mem_of_getElem? (i := 520) (by decide +kernel)) rfl, aw_inG (List.mem_of_getElem? (i := 521) (by decide +kernel)) rfl⟩
theorem cv_RL_29 : aw_CV RL 29 MX11_fault 1 := ⟨cbX11_fault, aw_inG (List.mem_of_getElem? (i := 519) (by decide +kernel)) rfl, ciX11_fault.1, ciX11_fault.2⟩
theorem cv_RL_33 : aw_CV RL 33 MX12_fault 1 := ⟨cbX12_fault, aw_inG (List.mem_of_getElem? (i := 1399) (by decide +kernel)) rfl, ciX12_fault.1, ciX12_fault.2⟩
set_option maxRecDepth 20000 in
theorem cbX11_text : aw_CB MX11_text 1 := ⟨List.mem_of_getElem? (i := 611) rfl, ⟨by decide, by decide, by decide +kernel⟩, aw_inG (List.mem_of_getElem? (i := 86) (by decide +kernel)) rfl, by decide⟩
theorem ciX11_text : Cond.instanceMethod MX11_text.1 ∈ aw_G ∧ Cond.selects MX11_text.1.cls MX11_text.1 MX11_text.1 ∈ aw_G := ⟨aw_inG (List.mem_of_getElem? (i := 609) (by decide +kernel)) rfl, aw_inG (List.mem_of_getElem? (i := 610) (by decide +kernel)) rfl⟩
theorem cv_RL_34 : aw_CV RL 34 MX11_text 1 := ⟨cbX11_text, aw_inG (List.mem_of_getElem? (i := 608) (by decide +kernel)) rfl, ciX11_text.1, ciX11_text.2⟩
set_option maxRecDepth 20000 in
theorem cbX12_text : aw_CB MX12_text 1 := ⟨List.mem_of_getElem? (i := 1563) rfl, ⟨by decide, by decide, by decide +kernel⟩, aw_inG (List.mem_of_getElem? (i := 98) (by decide +kernel)) rfl, by decide⟩
theorem ciX12_text : Cond.instanceMethod MX12_text.1 ∈ aw_G ∧ Cond.selects MX12_text.1.cls MX12_text.1 MX12_text.1 ∈ aw_G := ⟨aw_inG (List.mem_of_getElem? (i := 1561) (by decide +kernel)) rfl, aw_inG (List.mem_of_getElem? (i := 1562) (by decide +kernel)) rfl⟩
theorem cv_RL_37 : aw_CV RL 37 MX12_text 1 := ⟨cbX12_text, aw_inG (List.mem_of_getElem? (i := 1560) (by decide +kernel)) rfl, ciX12_text.1, ciX12_text.2⟩
set_option maxRecDepth 20000 in
theorem cbX11_law : aw_CB MX11_law 1 := ⟨List.mem_of_getElem? (i := 631) rfl, ⟨by decide, by decide, by decide +kernel⟩, aw_inG (List.mem_of_getElem? (i := 86) (by decide +kernel)) rfl, by decide⟩
theorem ciX11_law : Cond.instanceMethod MX11_law.1 ∈ aw_G ∧ Cond.selects MX11_law.1.cls MX11_law.1 MX11_law.1 ∈ aw_G := ⟨aw_inG (List.mem_of_getElem? (i := 629) (by decide +kernel)) rfl, aw_inG (List.mem_of_getElem? (i := 630) (by decide +kernel)) rfl⟩
theorem cv_RL_48 : aw_CV RL 48 MX11_law 1 := ⟨cbX11_law, aw_inG (List.mem_of_getElem? (i := 628) (by decide +kernel)) rfl, ciX11_law.1, ciX11_law.2⟩
set_option maxRecDepth 20000 in
theorem cbX12_law : aw_CB MX12_law 1 := ⟨List.mem_of_getElem? (i := 1577) rfl, ⟨by decide, by decide, by decide +kernel⟩, aw_inG (List.mem_of_getElem? (i := 98) (by decide +kernel)) rfl, by decide⟩
theorem ciX12_law : Cond.instanceMethod MX12_law.1 ∈ aw_G ∧ Cond.selects MX12_law.1.cls MX12_law.1 MX12_law.1 ∈ aw_G := ⟨aw_inG (List.mem_of_getElem? (i := 1575) (by decide +kernel)) rfl, aw_inG (List.mem_of_getElem? (i := 1576) (by decide +kernel)) rfl⟩
theorem cv_RL_51 : aw_CV RL 51 MX12_law 1 := ⟨cbX12_law, aw_inG (List.mem_of_getElem? (i := 1574) (by decide +kernel)) rfl, ciX12_law.1, ciX12_law.2⟩
set_option maxRecDepth 20000 in
theorem cbX11_change : aw_CB MX11_change 2 := ⟨List.mem_of_getElem? (i := 635) rfl, ⟨by decide, by decide, by decide +kernel⟩, aw_inG (List.mem_of_getElem? (i := 86) (by decide +kernel)) rfl, by decide⟩
theorem ciX11_change : Cond.instanceMethod MX11_change.1 ∈ aw_G ∧ Cond.selects MX11_change.1.cls MX11_change.1 MX11_change.1 ∈ aw_G := ⟨aw_inG (List.mem_of_getElem? (i := 633) (by decide +kernel)) rfl, aw_inG (List.mem_of_getElem? (i := 634) (by decide +kernel)) rfl⟩
theorem cv_RL_52 : aw_CV RL 52 MX11_change 2 := ⟨cbX11_change, aw_inG (List.mem_of_getElem? (i := 632) (by decide +kernel)) rfl, ciX11_change.1, ciX11_change.2⟩
set_option maxRecDepth 20000 in
theorem cbX12_change : aw_CB MX12_change 2 := ⟨List.mem_of_getElem? (i := 1581) rfl, ⟨by decide, by decide, by decide +kernel⟩, aw_inG (List.mem_of_getElem? (i := 98) (by decide +kernel)) rfl, by decide⟩
theorem ciX12_change : Cond.instanceMethod MX12_change.1 ∈ aw_G ∧ Cond.selects MX12_change.1.cls MX12_change.1 MX12_change.1 ∈ aw_G := ⟨aw_inG (List.mem_of_getElem? (i := 1579) (by decide +kernel)) rfl, aw_inG (List.mem_of_getElem? (i := 1580) (by decide +kernel)) rfl⟩
theorem cv_RL_56 : aw_CV RL 56 MX12_change 2 := ⟨cbX12_change, aw_inG (List.mem_of_getElem? (i := 1578) (by decide +kernel)) rfl, ciX12_change.1, ciX12_change.2⟩
set_option maxRecDepth 20000 in
theorem cbX11_rule : aw_CB MX11_rule 2 := ⟨List.mem_of_getElem? (i := 641) rfl, ⟨by decide, by decide, by decide +kernel⟩, aw_inG (List.mem_of_getElem? (i := 86) (by decide +kernel)) rfl, by decide⟩
theorem ciX11_rule : Cond.instanceMethod MX11_rule.1 ∈ aw_G ∧ Cond.selects MX11_rule.1.cls MX11_rule.1 MX11_rule.1 ∈ aw_G := ⟨aw_inG (List.mem_of_getElem? (i := 639) (by decide +kernel)) rfl, aw_inG (List.mem_of_getElem? (i := 640) (by decide +kernel)) rfl⟩
theorem cv_RL_57 : aw_CV RL 57 MX11_rule 2 := ⟨cbX11_rule, aw_inG (List.mem_of_getElem? (i := 638) (by decide +kernel)) rfl, ciX11_rule.1, ciX11_rule.2⟩
set_option maxRecDepth 20000 in
theorem cbX12_rule : aw_CB MX12_rule 2 := ⟨List.mem_of_getElem? (i := 1585) rfl, ⟨by decide, by decide, by decide +kernel⟩, aw_inG (List.mem_of_getElem? (i := 98) (by decide +kernel)) rfl, by decide⟩
theorem ciX12_rule : Cond.instanceMethod MX12_rule.1 ∈ aw_G ∧ Cond.selects MX12_rule.1.cls MX12_rule.1 MX12_rule.1 ∈ aw_G := ⟨aw_inG (List.mem_of_getElem? (i := 1583) (by decide +kernel)) rfl, aw_inG (List.mem_of_getElem? (i := 1584) (by decide +kernel)) rfl⟩
theorem cv_RL_60 : aw_CV RL 60 MX12_rule 2 := ⟨cbX12_rule, aw_inG (List.mem_of_getElem? (i := 1582) (by decide +kernel)) rfl, ciX12_rule.1, ciX12_rule.2⟩
set_option maxRecDepth 20000 in
theorem cbX11_race : aw_CB MX11_race 3 := ⟨List.mem_of_getElem? (i := 653) rfl, ⟨by decide, by decide, by decide +kernel⟩, aw_inG (List.mem_of_getElem? (i := 86) (by decide +kernel)) rfl, by decide⟩
theorem ciX11_race : Cond.instanceMethod MX11_race.1 ∈ aw_G ∧ Cond.selects MX11_race.1.cls MX11_race.1 MX11_race.1 ∈ aw_G := ⟨aw_inG (List.mem_of_getElem? (i := 651) (by decide +kernel)) rfl, aw_inG (List.mem_of_getElem? (i := 652) (by decide +kernel)) rfl⟩
theorem cv_RL_61 : aw_CV RL 61 MX11_race 3 := ⟨cbX11_race, aw_inG (List.mem_of_getElem? (i := 650) (by decide +kernel)) rfl, ciX11_race.1, ciX11_race.2⟩
set_option maxRecDepth 20000 in
theorem cbX12_race : aw_CB MX12_race 3 := ⟨List.mem_of_getElem? (i := 1589) rfl, ⟨by decide, by decide, by decide +kernel⟩, aw_inG (List.mem_of_getElem? (i := 98) (by decide +kernel)) rfl, by decide⟩
theorem ciX12_race : Cond.instanceMethod MX12_race.1 ∈ aw_G ∧ Cond.selects MX12_race.1.cls MX12_race.1 MX12_race.1 ∈ aw_G := ⟨aw_inG (List.mem_of_getElem? (i := 1587) (by decide +kernel)) rfl, aw_inG (List.mem_of_getElem? (i := 1588) (by decide +kernel)) rfl⟩
theorem cv_RL_65 : aw_CV RL 65 MX12_race 3 := ⟨cbX12_race, aw_inG (List.mem_of_getElem? (i := 1586) (by decide +kernel)) rfl, ciX12_race.1, ciX12_race.2⟩
set_option maxRecDepth 20000 in
theorem cbX11_came : aw_CB MX11_came 3 := ⟨List.mem_of_getElem? (i := 734) rfl, ⟨by decide, by decide, by decide +kernel⟩, aw_inG (List.mem_of_getElem? (i := 86) (by decide +kernel)) rfl, by decide⟩
theorem ciX11_came : Cond.instanceMethod MX11_came.1 ∈ aw_G ∧ Cond.selects MX11_came.1.cls MX11_came.1 MX11_came.1 ∈ aw_G := ⟨aw_inG (List.mem_of_getElem? (i := 732) (by decide +kernel)) rfl, aw_inG (List.mem_of_getElem? (i := 733) (by decide +kernel)) rfl⟩
theorem cv_RL_66 : aw_CV RL 66 MX11_came 3 := ⟨cbX11_came, aw_inG (List.mem_of_getElem? (i := 731) (by decide +kernel)) rfl, ciX11_came.1, ciX11_came.2⟩
set_option maxRecDepth 20000 in
theorem cbX12_came : aw_CB MX12_came 3 := ⟨List.mem_of_getElem? (i := 1630) rfl, ⟨by decide, by decide, by decide +kernel⟩, aw_inG (List.mem_of_getElem? (i := 98) (by decide +kernel)) rfl, by decide⟩
theorem ciX12_came : Cond.instanceMethod MX12_came.1 ∈ aw_G ∧ Cond.selects MX12_came.1.cls MX12_came.1 MX12_came.1 ∈ aw_G := ⟨aw_inG (List.mem_of_getElem? (i := 1628) (by decide +kernel)) rfl, aw_inG (List.mem_of_getElem? (i := 1629) (by decide +kernel)) rfl⟩
theorem cv_RL_69 : aw_CV RL 69 MX12_came 3 := ⟨cbX12_came, aw_inG (List.mem_of_getElem? (i := 1627) (by decide +kernel)) rfl, ciX12_came.1, ciX12_came.2⟩
set_option maxRecDepth 20000 in
theorem cbX11_step : aw_CB MX11_step 4 := ⟨List.mem_of_getElem? (i := 738) rfl, ⟨by decide, by decide, by decide +kernel⟩, aw_inG (List.mem_of_getElem? (i := 86) (by decide +kernel)) rfl, by decide⟩
theorem ciX11_step : Cond.instanceMethod MX11_step.1 ∈ aw_G ∧ Cond.selects MX11_step.1.cls MX11_step.1 MX11_step.1 ∈ aw_G := ⟨aw_inG (List.mem_of_getElem? (i := 736) (by decide +kernel)) rfl, aw_inG (List.mem_of_getElem? (i := 737) (by decide +kernel)) rfl⟩
theorem cv_RL_70 : aw_CV RL 70 MX11_step 4 := ⟨cbX11_step, aw_inG (List.mem_of_getElem? (i := 735) (by decide +kernel)) rfl, ciX11_step.1, ciX11_step.2⟩
set_option maxRecDepth 20000 in
theorem cbX12_step : aw_CB MX12_step 4 := ⟨List.mem_of_getElem? (i := 1634) rfl, ⟨by decide, by decide, by decide +kernel⟩, aw_inG (List.mem_of_getElem? (i := 98) (by decide +kernel)) rfl, by decide⟩
theorem ciX12_step : Cond.instanceMethod MX12_step.1 ∈ aw_G ∧ Cond.selects MX12_step.1.cls MX12_step.1 MX12_step.1 ∈ aw_G := ⟨aw_inG (List.mem_of_getElem? (i := 1632) (by decide +kernel)) rfl, aw_inG (List.mem_of_getElem? (i := 1633) (by decide +kernel)) rfl⟩
theorem cv_RL_74 : aw_CV RL 74 MX12_step 4 := ⟨cbX12_step, aw_inG (List.mem_of_getElem? (i := 1631) (by decide +kernel)) rfl, ciX12_step.1, ciX12_step.2⟩
set_option maxRecDepth 20000 in
theorem cbX11_bids : aw_CB MX11_bids 2 := ⟨List.mem_of_getElem? (i := 742) rfl, ⟨by decide, by decide, by decide +kernel⟩, aw_inG (List.mem_of_getElem? (i := 86) (by decide +kernel)) rfl, by decide⟩
theorem ciX11_bids : Cond.instanceMethod MX11_bids.1 ∈ aw_G ∧ Cond.selects MX11_bids.1.cls MX11_bids.1 MX11_bids.1 ∈ aw_G := ⟨aw_inG (List.mem_of_getElem? (i := 740) (by decide +kernel)) rfl, aw_inG (List.mem_of_getElem? (i := 741) (by decide +kernel)) rfl⟩
theorem cv_RL_75 : aw_CV RL 75 MX11_bids 2 := ⟨cbX11_bids, aw_inG (List.mem_of_getElem? (i := 739) (by decide +kernel)) rfl, ciX11_bids.1, ciX11_bids.2⟩
set_option maxRecDepth 20000 in
theorem cbX12_bids : aw_CB MX12_bids 2 := ⟨List.mem_of_getElem? (i := 1638) rfl, ⟨by decide, by decide, by decide +kernel⟩, aw_inG (List.mem_of_getElem? (i := 98) (by decide +kernel)) rfl, by decide⟩
theorem ciX12_bids : Cond.instanceMethod MX12_bids.1 ∈ aw_G ∧ Cond.selects MX12_bids.1.cls MX12_bids.1 MX12_bids.1 ∈ aw_G := ⟨aw_inG (List.mem_of_getElem? (i := 1636) (by decide +kernel)) rfl, aw_inG (List.mem_of_getElem? (i := 1637) (by decide +kernel)) rfl⟩
theorem cv_RL_78 : aw_CV RL 78 MX12_bids 2 := ⟨cbX12_bids, aw_inG (List.mem_of_getElem? (i := 1635) (by decide +kernel)) rfl, ciX12_bids.1, ciX12_bids.2⟩
set_option maxRecDepth 20000 in
theorem cbX11_gain : aw_CB MX11_gain 2 := ⟨List.mem_of_getElem? (i := 787) rfl, ⟨by decide, by decide, by decide +kernel⟩, aw_inG (List.mem_of_getElem? (i := 86) (by decide +kernel)) rfl, by decide⟩
theorem ciX11_gain : Cond.instanceMethod MX11_gain.1 ∈ aw_G ∧ Cond.selects MX11_gain.1.cls MX11_gain.1 MX11_gain.1 ∈ aw_G := ⟨aw_inG (List.mem_of_getElem? (i := 785) (by decide +kernel)) rfl, aw_inG (List.mem_of_getElem? (i := 786) (by decide +kernel)) rfl⟩
theorem cv_RL_79 : aw_CV RL 79 MX11_gain 2 := ⟨cbX11_gain, aw_inG (List.mem_of_getElem? (i := 784) (by decide +kernel)) rfl, ciX11_gain.1, ciX11_gain.2⟩
set_option maxRecDepth 20000 in
theorem cbX12_gain : aw_CB MX12_gain 2 := ⟨List.mem_of_getElem? (i := 1668) rfl, ⟨by decide, by decide, by decide +kernel⟩, aw_inG (List.mem_of_getElem? (i := 98) (by decide +kernel)) rfl, by decide⟩
theorem ciX12_gain : Cond.instanceMethod MX12_gain.1 ∈ aw_G ∧ Cond.selects MX12_gain.1.cls MX12_gain.1 MX12_gain.1 ∈ aw_G := ⟨aw_inG (List.mem_of_getElem? (i := 1666) (by decide +kernel)) rfl, aw_inG (List.mem_of_getElem? (i := 1667) (by decide +kernel)) rfl⟩
theorem cv_RL_82 : aw_CV RL 82 MX12_gain 2 := ⟨cbX12_gain, aw_inG (List.mem_of_getElem? (i := 1665) (by decide +kernel)) rfl, ciX12_gain.1, ciX12_gain.2⟩
set_option maxRecDepth 20000 in
theorem cbX11_rests : aw_CB MX11_rests 1 := ⟨List.mem_of_getElem? (i := 796) rfl, ⟨by decide, by decide, by decide +kernel⟩, aw_inG (List.mem_of_getElem? (i := 86) (by decide +kernel)) rfl, by decide⟩
theorem ciX11_rests : Cond.instanceMethod MX11_rests.1 ∈ aw_G ∧ Cond.selects MX11_rests.1.cls MX11_rests.1 MX11_rests.1 ∈ aw_G := ⟨aw_inG (List.mem_of_getElem? (i := 794) (by decide +kernel)) rfl, aw_inG (List.mem_of_getElem? (i := 795) (by decide +kernel)) rfl⟩
theorem cv_RL_83 : aw_CV RL 83 MX11_rests 1 := ⟨cbX11_rests, aw_inG (List.mem_of_getElem? (i := 793) (by decide +kernel)) rfl, ciX11_rests.1, ciX11_rests.2⟩
set_option maxRecDepth 20000 in
theorem cbX12_rests : aw_CB MX12_rests 1 := ⟨List.mem_of_getElem? (i := 1676) rfl, ⟨by decide, by decide, by decide +kernel⟩, aw_inG (List.mem_of_getElem? (i := 98) (by decide +kernel)) rfl, by decide⟩
theorem ciX12_rests : Cond.instanceMethod MX12_rests.1 ∈ aw_G ∧ Cond.selects MX12_rests.1.cls MX12_rests.1 MX12_rests.1 ∈ aw_G := ⟨aw_inG (List.mem_of_getElem? (i := 1674) (by decide +kernel)) rfl, aw_inG (List.mem_of_getElem? (i := 1675) (by decide +kernel)) rfl⟩
theorem cv_RL_86 : aw_CV RL 86 MX12_rests 1 := ⟨cbX12_rests, aw_inG (List.mem_of_getElem? (i := 1673) (by decide +kernel)) rfl, ciX12_rests.1, ciX12_rests.2⟩
set_option maxRecDepth 20000 in
theorem cbX11_seller : aw_CB MX11_seller 1 := ⟨List.mem_of_getElem? (i := 873) rfl, ⟨by decide, by decide, by decide +kernel⟩, aw_inG (List.mem_of_getElem? (i := 86) (by decide +kernel)) rfl, by decide⟩
theorem ciX11_seller : Cond.instanceMethod MX11_seller.1 ∈ aw_G ∧ Cond.selects MX11_seller.1.cls MX11_seller.1 MX11_seller.1 ∈ aw_G := ⟨aw_inG (List.mem_of_getElem? (i := 871) (by decide +kernel)) rfl, aw_inG (List.mem_of_getElem? (i := 872) (by decide +kernel)) rfl⟩
theorem cv_RL_87 : aw_CV RL 87 MX11_seller 1 := ⟨cbX11_seller, aw_inG (List.mem_of_getElem? (i := 870) (by decide +kernel)) rfl, ciX11_seller.1, ciX11_seller.2⟩
set_option maxRecDepth 20000 in
theorem cbX12_seller : aw_CB MX12_seller 1 := ⟨List.mem_of_getElem? (i := 1696) rfl, ⟨by decide, by decide, by decide +kernel⟩, aw_inG (List.mem_of_getElem? (i := 98) (by decide +kernel)) rfl, by decide⟩
theorem ciX12_seller : Cond.instanceMethod MX12_seller.1 ∈ aw_G ∧ Cond.selects MX12_seller.1.cls MX12_seller.1 MX12_seller.1 ∈ aw_G := ⟨aw_inG (List.mem_of_getElem? (i := 1694) (by decide +kernel)) rfl, aw_inG (List.mem_of_getElem? (i := 1695) (by decide +kernel)) rfl⟩
theorem cv_RL_90 : aw_CV RL 90 MX12_seller 1 := ⟨cbX12_seller, aw_inG (List.mem_of_getElem? (i := 1693) (by decide +kernel)) rfl, ciX12_seller.1, ciX12_seller.2⟩
set_option maxRecDepth 20000 in
theorem cbX11_cure : aw_CB MX11_cure 2 := ⟨List.mem_of_getElem? (i := 877) rfl, ⟨by decide, by decide, by decide +kernel⟩, aw_inG (List.mem_of_getElem? (i := 86) (by decide +kernel)) rfl, by decide⟩
theorem ciX11_cure : Cond.instanceMethod MX11_cure.1 ∈ aw_G ∧ Cond.selects MX11_cure.1.cls MX11_cure.1 MX11_cure.1 ∈ aw_G := ⟨aw_inG (List.mem_of_getElem? (i := 875) (by decide +kernel)) rfl, aw_inG (List.mem_of_getElem? (i := 876) (by decide +kernel)) rfl⟩
theorem cv_RL_91 : aw_CV RL 91 MX11_cure 2 := ⟨cbX11_cure, aw_inG (List.mem_of_getElem? (i := 874) (by decide +kernel)) rfl, ciX11_cure.1, ciX11_cure.2⟩
set_option maxRecDepth 20000 in
theorem cbX12_cure : aw_CB MX12_cure 2 := ⟨List.mem_of_getElem? (i := 1700) rfl, ⟨by decide, by decide, by decide +kernel⟩, aw_inG (List.mem_of_getElem? (i := 98) (by decide +kernel)) rfl, by decide⟩
theorem ciX12_cure : Cond.instanceMethod MX12_cure.1 ∈ aw_G ∧ Cond.selects MX12_cure.1.cls MX12_cure.1 MX12_cure.1 ∈ aw_G := ⟨aw_inG (List.mem_of_getElem? (i := 1698) (by decide +kernel)) rfl, aw_inG (List.mem_of_getElem? (i := 1699) (by decide +kernel)) rfl⟩
theorem cv_RL_94 : aw_CV RL 94 MX12_cure 2 := ⟨cbX12_cure, aw_inG (List.mem_of_getElem? (i := 1697) (by decide +kernel)) rfl, ciX12_cure.1, ciX12_cure.2⟩
set_option maxRecDepth 20000 in
theorem cbX11_firm : aw_CB MX11_firm 2 := ⟨List.mem_of_getElem? (i := 891) rfl, ⟨by decide, by decide, by decide +kernel⟩, aw_inG (List.mem_of_getElem? (i := 86) (by decide +kernel)) rfl, by decide⟩
theorem ciX11_firm : Cond.instanceMethod MX11_firm.1 ∈ aw_G ∧ Cond.selects MX11_firm.1.cls MX11_firm.1 MX11_firm.1 ∈ aw_G := ⟨aw_inG (List.mem_of_getElem? (i := 889) (by decide +kernel)) rfl, aw_inG (List.mem_of_getElem? (i := 890) (by decide +kernel)) rfl⟩
theorem cv_RL_95 : aw_CV RL 95 MX11_firm 2 := ⟨cbX11_firm, aw_inG (List.mem_of_getElem? (i := 888) (by decide +kernel)) rfl, ciX11_firm.1, ciX11_firm.2⟩
set_option maxRecDepth 20000 in
theorem cbX12_firm : aw_CB MX12_firm 2 := ⟨List.mem_of_getElem? (i := 1704) rfl, ⟨by decide, by decide, by decide +kernel⟩, aw_inG (List.mem_of_getElem? (i := 98) (by decide +kernel)) rfl, by decide⟩
theorem ciX12_firm : Cond.instanceMethod MX12_firm.1 ∈ aw_G ∧ Cond.selects MX12_firm.1.cls MX12_firm.1 MX12_firm.1 ∈ aw_G := ⟨aw_inG (List.mem_of_getElem? (i := 1702) (by decide +kernel)) rfl, aw_inG (List.mem_of_getElem? (i := 1703) (by decide +kernel)) rfl⟩
theorem cv_RL_98 : aw_CV RL 98 MX12_firm 2 := ⟨cbX12_firm, aw_inG (List.mem_of_getElem? (i := 1701) (by decide +kernel)) rfl, ciX12_firm.1, ciX12_firm.2⟩
set_option maxRecDepth 20000 in
theorem cbX11_together : aw_CB MX11_together 3 := ⟨List.mem_of_getElem? (i := 900) rfl, ⟨by decide, by decide, by decide +kernel⟩, aw_inG (List.mem_of_getElem? (i := 86) (by decide +kernel)) rfl, by decide⟩
theorem ciX11_together : Cond.instanceMethod MX11_together.1 ∈ aw_G ∧ Cond.selects MX11_together.1.cls MX11_together.1 MX11_together.1 ∈ aw_G := ⟨aw_inG (List.mem_of_getElem? (i := 898) (by decide +kernel)) rfl, aw_inG (List.mem_of_getElem? (i := 899) (by decide +kernel)) rfl⟩
theorem cv_RL_99 : aw_CV RL 99 MX11_together 3 := ⟨cbX11_together, aw_inG (List.mem_of_getElem? (i := 897) (by decide +kernel)) rfl, ciX11_together.1, ciX11_together.2⟩
set_option maxRecDepth 20000 in
theorem cbX12_together : aw_CB MX12_together 3 := ⟨List.mem_of_getElem? (i := 1712) rfl, ⟨by decide, by decide, by decide +kernel⟩, aw_inG (List.mem_of_getElem? (i := 98) (by decide +kernel)) rfl, by decide⟩
theorem ciX12_together : Cond.instanceMethod MX12_together.1 ∈ aw_G ∧ Cond.selects MX12_together.1.cls MX12_together.1 MX12_together.1 ∈ aw_G := ⟨aw_inG (List.mem_of_getElem? (i := 1710) (by decide +kernel)) rfl, aw_inG (List.mem_of_getElem? (i := 1711) (by decide +kernel)) rfl⟩
theorem cv_RL_102 : aw_CV RL 102 MX12_together 3 := ⟨cbX12_together, aw_inG (List.mem_of_getElem? (i := 1709) (by decide +kernel)) rfl, ciX12_together.1, ciX12_together.2⟩
set_option maxRecDepth 20000 in
theorem cbX11_treason : aw_CB MX11_treason 2 := ⟨List.mem_of_getElem? (i := 923) rfl, ⟨by decide, by decide, by decide +kernel⟩, aw_inG (List.mem_of_getElem? (i := 86) (by decide +kernel)) rfl, by decide⟩
theorem ciX11_treason : Cond.instanceMethod MX11_treason.1 ∈ aw_G ∧ Cond.selects MX11_treason.1.cls MX11_treason.1 MX11_treason.1 ∈ aw_G := ⟨aw_inG (List.mem_of_getElem? (i := 921) (by decide +kernel)) rfl, aw_inG (List.mem_of_getElem? (i := 922) (by decide +kernel)) rfl⟩
theorem cv_RL_103 : aw_CV RL 103 MX11_treason 2 := ⟨cbX11_treason, aw_inG (List.mem_of_getElem? (i := 920) (by decide +kernel)) rfl, ciX11_treason.1, ciX11_treason.2⟩
set_option maxRecDepth 20000 in
theorem cbX12_treason : aw_CB MX12_treason 2 := ⟨List.mem_of_getElem? (i := 1728) rfl, ⟨by decide, by decide, by decide +kernel⟩, aw_inG (List.mem_of_getElem? (i := 98) (by decide +kernel)) rfl, by decide⟩
theorem ciX12_treason : Cond.instanceMethod MX12_treason.1 ∈ aw_G ∧ Cond.selects MX12_treason.1.cls MX12_treason.1 MX12_treason.1 ∈ aw_G := ⟨aw_inG (List.mem_of_getElem? (i := 1726) (by decide +kernel)) rfl, aw_inG (List.mem_of_getElem? (i := 1727) (by decide +kernel)) rfl⟩
theorem cv_RL_106 : aw_CV RL 106 MX12_treason 2 := ⟨cbX12_treason, aw_inG (List.mem_of_getElem? (i := 1725) (by decide +kernel)) rfl, ciX12_treason.1, ciX12_treason.2⟩
set_option maxRecDepth 20000 in
theorem cbX11_waits : aw_CB MX11_waits 2 := ⟨List.mem_of_getElem? (i := 928) rfl, ⟨by decide, by decide, by decide +kernel⟩, aw_inG (List.mem_of_getElem? (i := 86) (by decide +kernel)) rfl, by decide⟩
theorem ciX11_waits : Cond.instanceMethod MX11_waits.1 ∈ aw_G ∧ Cond.selects MX11_waits.1.cls MX11_waits.1 MX11_waits.1 ∈ aw_G := ⟨aw_inG (List.mem_of_getElem? (i := 926) (by decide +kernel)) rfl, aw_inG (List.mem_of_getElem? (i := 927) (by decide +kernel)) rfl⟩
theorem cv_RL_107 : aw_CV RL 107 MX11_waits 2 := ⟨cbX11_waits, aw_inG (List.mem_of_getElem? (i := 925) (by decide +kernel)) rfl, ciX11_waits.1, ciX11_waits.2⟩
set_option maxRecDepth 20000 in
theorem cbX12_waits : aw_CB MX12_waits 2 := ⟨List.mem_of_getElem? (i := 1732) rfl, ⟨by decide, by decide, by decide +kernel⟩, aw_inG (List.mem_of_getElem? (i := 98) (by decide +kernel)) rfl, by decide⟩
theorem ciX12_waits : Cond.instanceMethod MX12_waits.1 ∈ aw_G ∧ Cond.selects MX12_waits.1.cls MX12_waits.1 MX12_waits.1 ∈ aw_G := ⟨aw_inG (List.mem_of_getElem? (i := 1730) (by decide +kernel)) rfl, aw_inG (List.mem_of_getElem? (i := 1731) (by decide +kernel)) rfl⟩
theorem cv_RL_110 : aw_CV RL 110 MX12_waits 2 := ⟨cbX12_waits, aw_inG (List.mem_of_getElem? (i := 1729) (by decide +kernel)) rfl, ciX12_waits.1, ciX12_waits.2⟩
set_option maxRecDepth 20000 in
theorem cbX11_spur : aw_CB MX11_spur 1 := ⟨List.mem_of_getElem? (i := 953) rfl, ⟨by decide, by decide, by decide +kernel⟩, aw_inG (List.mem_of_getElem? (i := 86) (by decide +kernel)) rfl, by decide⟩
theorem ciX11_spur : Cond.instanceMethod MX11_spur.1 ∈ aw_G ∧ Cond.selects MX11_spur.1.cls MX11_spur.1 MX11_spur.1 ∈ aw_G := ⟨aw_inG (List.mem_of_getElem? (i := 951) (by decide +kernel)) rfl, aw_inG (List.mem_of_getElem? (i := 952) (by decide +kernel)) rfl⟩
theorem cv_RL_111 : aw_CV RL 111 MX11_spur 1 := ⟨cbX11_spur, aw_inG (List.mem_of_getElem? (i := 950) (by decide +kernel)) rfl, ciX11_spur.1, ciX11_spur.2⟩
set_option maxRecDepth 20000 in
theorem cbX12_spur : aw_CB MX12_spur 1 := ⟨List.mem_of_getElem? (i := 1749) rfl, ⟨by decide, by decide, by decide +kernel⟩, aw_inG (List.mem_of_getElem? (i := 98) (by decide +kernel)) rfl, by decide⟩
theorem ciX12_spur : Cond.instanceMethod MX12_spur.1 ∈ aw_G ∧ Cond.selects MX12_spur.1.cls MX12_spur.1 MX12_spur.1 ∈ aw_G := ⟨aw_inG (List.mem_of_getElem? (i := 1747) (by decide +kernel)) rfl, aw_inG (List.mem_of_getElem? (i := 1748) (by decide +kernel)) rfl⟩
theorem cv_RL_114 : aw_CV RL 114 MX12_spur 1 := ⟨cbX12_spur, aw_inG (List.mem_of_getElem? (i := 1746) (by decide +kernel)) rfl, ciX12_spur.1, ciX12_spur.2⟩
set_option maxRecDepth 20000 in
theorem cbX11_rounds : aw_CB MX11_rounds 1 := ⟨List.mem_of_getElem? (i := 957) rfl, ⟨by decide, by decide, by decide +kernel⟩, aw_inG (List.mem_of_getElem? (i := 86) (by decide +kernel)) rfl, by decide⟩
theorem ciX11_rounds : Cond.instanceMethod MX11_rounds.1 ∈ aw_G ∧ Cond.selects MX11_rounds.1.cls MX11_rounds.1 MX11_rounds.1 ∈ aw_G := ⟨aw_inG (List.mem_of_getElem? (i := 955) (by decide +kernel)) rfl, aw_inG (List.mem_of_getElem? (i := 956) (by decide +kernel)) rfl⟩
theorem cv_RL_115 : aw_CV RL 115 MX11_rounds 1 := ⟨cbX11_rounds, aw_inG (List.mem_of_getElem? (i := 954) (by decide +kernel)) rfl, ciX11_rounds.1, ciX11_rounds.2⟩
set_option maxRecDepth 20000 in
theorem cbX12_rounds : aw_CB MX12_rounds 1 := ⟨List.mem_of_getElem? (i := 1753) rfl, ⟨by decide, by decide, by decide +kernel⟩, aw_inG (List.mem_of_getElem? (i := 98) (by decide +kernel)) rfl, by decide⟩
theorem ciX12_rounds : Cond.instanceMethod MX12_rounds.1 ∈ aw_G ∧ Cond.selects MX12_rounds.1.cls MX12_rounds.1 MX12_rounds.1 ∈ aw_G := ⟨aw_inG (List.mem_of_getElem? (i := 1751) (by decide +kernel)) rfl, aw_inG (List.mem_of_getElem? (i := 1752) (by decide +kernel)) rfl⟩
theorem cv_RL_118 : aw_CV RL 118 MX12_rounds 1 := ⟨cbX12_rounds, aw_inG (List.mem_of_getElem? (i := 1750) (by decide +kernel)) rfl, ciX12_rounds.1, ciX12_rounds.2⟩
set_option maxRecDepth 20000 in
theorem cbX11_honour : aw_CB MX11_honour 1 := ⟨List.mem_of_getElem? (i := 988) rfl, ⟨by decide, by decide, by decide +kernel⟩, aw_inG (List.mem_of_getElem? (i := 86) (by decide +kernel)) rfl, by decide⟩
theorem ciX11_honour : Cond.instanceMethod MX11_honour.1 ∈ aw_G ∧ Cond.selects MX11_honour.1.cls MX11_honour.1 MX11_honour.1 ∈ aw_G := ⟨aw_inG (List.mem_of_getElem? (i := 986) (by decide +kernel)) rfl, aw_inG (List.mem_of_getElem? (i := 987) (by decide +kernel)) rfl⟩
theorem cv_RL_119 : aw_CV RL 119 MX11_honour 1 := ⟨cbX11_honour, aw_inG (List.mem_of_getElem? (i := 985) (by decide +kernel)) rfl, ciX11_honour.1, ciX11_honour.2⟩
set_option maxRecDepth 20000 in
theorem cbX12_honour : aw_CB MX12_honour 1 := ⟨List.mem_of_getElem? (i := 1773) rfl, ⟨by decide, by decide, by decide +kernel⟩, aw_inG (List.mem_of_getElem? (i := 98) (by decide +kernel)) rfl, by decide⟩
theorem ciX12_honour : Cond.instanceMethod MX12_honour.1 ∈ aw_G ∧ Cond.selects MX12_honour.1.cls MX12_honour.1 MX12_honour.1 ∈ aw_G := ⟨aw_inG (List.mem_of_getElem? (i := 1771) (by decide +kernel)) rfl, aw_inG (List.mem_of_getElem? (i := 1772) (by decide +kernel)) rfl⟩
theorem cv_RL_122 : aw_CV RL 122 MX12_honour 1 := ⟨cbX12_honour, aw_inG (List.mem_of_getElem? (i := 1770) (by decide +kernel)) rfl, ciX12_honour.1, ciX12_honour.2⟩
set_option maxRecDepth 20000 in
theorem cbX11_years : aw_CB MX11_years 2 := ⟨List.mem_of_getElem? (i := 996) rfl, ⟨by decide, by decide, by decide +kernel⟩, aw_inG (List.mem_of_getElem? (i := 86) (by decide +kernel)) rfl, by decide⟩
theorem ciX11_years : Cond.instanceMethod MX11_years.1 ∈ aw_G ∧ Cond.selects MX11_years.1.cls MX11_years.1 MX11_years.1 ∈ aw_G := ⟨aw_inG (List.mem_of_getElem? (i := 994) (by decide +kernel)) rfl, aw_inG (List.mem_of_getElem? (i := 995) (by decide +kernel)) rfl⟩
theorem cv_RL_125 : aw_CV RL 125 MX11_years 2 := ⟨cbX11_years, aw_inG (List.mem_of_getElem? (i := 993) (by decide +kernel)) rfl, ciX11_years.1, ciX11_years.2⟩
set_option maxRecDepth 20000 in
theorem cbX12_years : aw_CB MX12_years 2 := ⟨List.mem_of_getElem? (i := 1777) rfl, ⟨by decide, by decide, by decide +kernel⟩, aw_inG (List.mem_of_getElem? (i := 98) (by decide +kernel)) rfl, by decide⟩
theorem ciX12_years : Cond.instanceMethod MX12_years.1 ∈ aw_G ∧ Cond.selects MX12_years.1.cls MX12_years.1 MX12_years.1 ∈ aw_G := ⟨aw_inG (List.mem_of_getElem? (i := 1775) (by decide +kernel)) rfl, aw_inG (List.mem_of_getElem? (i := 1776) (by decide +kernel)) rfl⟩
theorem cv_RL_129 : aw_CV RL 129 MX12_years 2 := ⟨cbX12_years, aw_inG (List.mem_of_getElem? (i := 1774) (by decide +kernel)) rfl, ciX12_years.1, ciX12_years.2⟩
set_option maxRecDepth 20000 in
theorem cbX11_undo : aw_CB MX11_undo 0 := ⟨List.mem_of_getElem? (i := 1011) rfl, ⟨by decide, by decide, by decide +kernel⟩, aw_inG (List.mem_of_getElem? (i := 86) (by decide +kernel)) rfl, by decide⟩
theorem ciX11_undo : Cond.instanceMethod MX11_undo.1 ∈ aw_G ∧ Cond.selects MX11_undo.1.cls MX11_undo.1 MX11_undo.1 ∈ aw_G := ⟨aw_inG (List.mem_of_getElem? (i := 1009) (by decide +kernel)) rfl, aw_inG (List.mem_of_getElem? (i := 1010) (by decide +kernel)) rfl⟩
theorem cv_RL_130 : aw_CV RL 130 MX11_undo 0 := ⟨cbX11_undo, aw_inG (List.mem_of_getElem? (i := 1008) (by decide +kernel)) rfl, ciX11_undo.1, ciX11_undo.2⟩
set_option maxRecDepth 20000 in
theorem cbX12_undo : aw_CB MX12_undo 0 := ⟨List.mem_of_getElem? (i := 1784) rfl, ⟨by decide, by decide, by decide +kernel⟩, aw_inG (List.mem_of_getElem? (i := 98) (by decide +kernel)) rfl, by decide⟩
theorem ciX12_undo : Cond.instanceMethod MX12_undo.1 ∈ aw_G ∧ Cond.selects MX12_undo.1.cls MX12_undo.1 MX12_undo.1 ∈ aw_G := ⟨aw_inG (List.mem_of_getElem? (i := 1782) (by decide +kernel)) rfl, aw_inG (List.mem_of_getElem? (i := 1783) (by decide +kernel)) rfl⟩
theorem cv_RL_133 : aw_CV RL 133 MX12_undo 0 := ⟨cbX12_undo, aw_inG (List.mem_of_getElem? (i := 1781) (by decide +kernel)) rfl, ciX12_undo.1, ciX12_undo.2⟩
set_option maxRecDepth 20000 in
theorem cbX11_often : aw_CB MX11_often 1 := ⟨List.mem_of_getElem? (i := 1015) rfl, ⟨by decide, by decide, by decide +kernel⟩, aw_inG (List.mem_of_getElem? (i := 86) (by decide +kernel)) rfl, by decide⟩
theorem ciX11_often : Cond.instanceMethod MX11_often.1 ∈ aw_G ∧ Cond.selects MX11_often.1.cls MX11_often.1 MX11_often.1 ∈ aw_G := ⟨aw_inG (List.mem_of_getElem? (i := 1013) (by decide +kernel)) rfl, aw_inG (List.mem_of_getElem? (i := 1014) (by decide +kernel)) rfl⟩
theorem cv_RL_134 : aw_CV RL 134 MX11_often 1 := ⟨cbX11_often, aw_inG (List.mem_of_getElem? (i := 1012) (by decide +kernel)) rfl, ciX11_often.1, ciX11_often.2⟩
set_option maxRecDepth 20000 in
theorem cbX12_often : aw_CB MX12_often 1 := ⟨List.mem_of_getElem? (i := 1788) rfl, ⟨by decide, by decide, by decide +kernel⟩, aw_inG (List.mem_of_getElem? (i := 98) (by decide +kernel)) rfl, by decide⟩
theorem ciX12_often : Cond.instanceMethod MX12_often.1 ∈ aw_G ∧ Cond.selects MX12_often.1.cls MX12_often.1 MX12_often.1 ∈ aw_G := ⟨aw_inG (List.mem_of_getElem? (i := 1786) (by decide +kernel)) rfl, aw_inG (List.mem_of_getElem? (i := 1787) (by decide +kernel)) rfl⟩
theorem cv_RL_137 : aw_CV RL 137 MX12_often 1 := ⟨cbX12_often, aw_inG (List.mem_of_getElem? (i := 1785) (by decide +kernel)) rfl, ciX12_often.1, ciX12_often.2⟩
set_option maxRecDepth 20000 in
theorem cbX11_made : aw_CB MX11_made 2 := ⟨List.mem_of_getElem? (i := 1025) rfl, ⟨by decide, by decide, by decide +kernel⟩, aw_inG (List.mem_of_getElem? (i := 86) (by decide +kernel)) rfl, by decide⟩
theorem ciX11_made : Cond.instanceMethod MX11_made.1 ∈ aw_G ∧ Cond.selects MX11_made.1.cls MX11_made.1 MX11_made.1 ∈ aw_G := ⟨aw_inG (List.mem_of_getElem? (i := 1023) (by decide +kernel)) rfl, aw_inG (List.mem_of_getElem? (i := 1024) (by decide +kernel)) rfl⟩
theorem cv_RL_138 : aw_CV RL 138 MX11_made 2 := ⟨cbX11_made, aw_inG (List.mem_of_getElem? (i := 1022) (by decide +kernel)) rfl, ciX11_made.1, ciX11_made.2⟩
set_option maxRecDepth 20000 in
theorem cbX12_made : aw_CB MX12_made 2 := ⟨List.mem_of_getElem? (i := 1796) rfl, ⟨by decide, by decide, by decide +kernel⟩, aw_inG (List.mem_of_getElem? (i := 98) (by decide +kernel)) rfl, by decide⟩
theorem ciX12_made : Cond.instanceMethod MX12_made.1 ∈ aw_G ∧ Cond.selects MX12_made.1.cls MX12_made.1 MX12_made.1 ∈ aw_G := ⟨aw_inG (List.mem_of_getElem? (i := 1794) (by decide +kernel)) rfl, aw_inG (List.mem_of_getElem? (i := 1795) (by decide +kernel)) rfl⟩
theorem cv_RL_141 : aw_CV RL 141 MX12_made 2 := ⟨cbX12_made, aw_inG (List.mem_of_getElem? (i := 1793) (by decide +kernel)) rfl, ciX12_made.1, ciX12_made.2⟩
set_option maxRecDepth 20000 in
theorem cbX11_pair : aw_CB MX11_pair 0 := ⟨List.mem_of_getElem? (i := 1038) rfl, ⟨by decide, by decide, by decide +kernel⟩, aw_inG (List.mem_of_getElem? (i := 86) (by decide +kernel)) rfl, by decide⟩
theorem ciX11_pair : Cond.instanceMethod MX11_pair.1 ∈ aw_G ∧ Cond.selects MX11_pair.1.cls MX11_pair.1 MX11_pair.1 ∈ aw_G := ⟨aw_inG (List.mem_of_getElem? (i := 1036) (by decide +kernel)) rfl, aw_inG (List.mem_of_getElem? (i := 1037) (by decide +kernel)) rfl⟩
theorem cv_RL_142 : aw_CV RL 142 MX11_pair 0 := ⟨cbX11_pair, aw_inG (List.mem_of_getElem? (i := 1035) (by decide +kernel)) rfl, ciX11_pair.1, ciX11_pair.2⟩
set_option maxRecDepth 20000 in
theorem cbX12_pair : aw_CB MX12_pair 0 := ⟨List.mem_of_getElem? (i := 1804) rfl, ⟨by decide, by decide, by decide +kernel⟩, aw_inG (List.mem_of_getElem? (i := 98) (by decide +kernel)) rfl, by decide⟩
theorem ciX12_pair : Cond.instanceMethod MX12_pair.1 ∈ aw_G ∧ Cond.selects MX12_pair.1.cls MX12_pair.1 MX12_pair.1 ∈ aw_G := ⟨aw_inG (List.mem_of_getElem? (i := 1802) (by decide +kernel)) rfl, aw_inG (List.mem_of_getElem? (i := 1803) (by decide +kernel)) rfl⟩
theorem cv_RL_145 : aw_CV RL 145 MX12_pair 0 := ⟨cbX12_pair, aw_inG (List.mem_of_getElem? (i := 1801) (by decide +kernel)) rfl, ciX12_pair.1, ciX12_pair.2⟩
set_option maxRecDepth 20000 in
theorem cbX11_sum : aw_CB MX11_sum 1 := ⟨List.mem_of_getElem? (i := 1046) rfl, ⟨by decide, by decide, by decide +kernel⟩, aw_inG (List.mem_of_getElem? (i := 86) (by decide +kernel)) rfl, by decide⟩
theorem ciX11_sum : Cond.instanceMethod MX11_sum.1 ∈ aw_G ∧ Cond.selects MX11_sum.1.cls MX11_sum.1 MX11_sum.1 ∈ aw_G := ⟨aw_inG (List.mem_of_getElem? (i := 1044) (by decide +kernel)) rfl, aw_inG (List.mem_of_getElem? (i := 1045) (by decide +kernel)) rfl⟩
theorem cv_RL_146 : aw_CV RL 146 MX11_sum 1 := ⟨cbX11_sum, aw_inG (List.mem_of_getElem? (i := 1043) (by decide +kernel)) rfl, ciX11_sum.1, ciX11_sum.2⟩
set_option maxRecDepth 20000 in
theorem cbX12_sum_ : aw_CB MX12_sum_ 1 := ⟨List.mem_of_getElem? (i := 1808) rfl, ⟨by decide, by decide, by decide +kernel⟩, aw_inG (List.mem_of_getElem? (i := 98) (by decide +kernel)) rfl, by decide⟩
theorem ciX12_sum_ : Cond.instanceMethod MX12_sum_.1 ∈ aw_G ∧ Cond.selects MX12_sum_.1.cls MX12_sum_.1 MX12_sum_.1 ∈ aw_G := ⟨aw_inG (List.mem_of_getElem? (i := 1806) (by decide +kernel)) rfl, aw_inG (List.mem_of_getElem? (i := 1807) (by decide +kernel)) rfl⟩
theorem cv_RL_149 : aw_CV RL 149 MX12_sum_ 1 := ⟨cbX12_sum_, aw_inG (List.mem_of_getElem? (i := 1805) (by decide +kernel)) rfl, ciX12_sum_.1, ciX12_sum_.2⟩
set_option maxRecDepth 20000 in
theorem cbX11_hope : aw_CB MX11_hope 3 := ⟨List.mem_of_getElem? (i := 1055) rfl, ⟨by decide, by decide, by decide +kernel⟩, aw_inG (List.mem_of_getElem? (i := 86) (by decide +kernel)) rfl, by decide⟩
theorem ciX11_hope : Cond.instanceMethod MX11_hope.1 ∈ aw_G ∧ Cond.selects MX11_hope.1.cls MX11_hope.1 MX11_hope.1 ∈ aw_G := ⟨aw_inG (List.mem_of_getElem? (i := 1053) (by decide +kernel)) rfl, aw_inG (List.mem_of_getElem? (i := 1054) (by decide +kernel)) rfl⟩
theorem cv_RL_150 : aw_CV RL 150 MX11_hope 3 := ⟨cbX11_hope, aw_inG (List.mem_of_getElem? (i := 1052) (by decide +kernel)) rfl, ciX11_hope.1, ciX11_hope.2⟩
set_option maxRecDepth 20000 in
theorem cbX12_hope : aw_CB MX12_hope 3 := ⟨List.mem_of_getElem? (i := 1812) rfl, ⟨by decide, by decide, by decide +kernel⟩, aw_inG (List.mem_of_getElem? (i := 98) (by decide +kernel)) rfl, by decide⟩
theorem ciX12_hope : Cond.instanceMethod MX12_hope.1 ∈ aw_G ∧ Cond.selects MX12_hope.1.cls MX12_hope.1 MX12_hope.1 ∈ aw_G := ⟨aw_inG (List.mem_of_getElem? (i := 1810) (by decide +kernel)) rfl, aw_inG (List.mem_of_getElem? (i := 1811) (by decide +kernel)) rfl⟩
theorem cv_RL_153 : aw_CV RL 153 MX12_hope 3 := ⟨cbX12_hope, aw_inG (List.mem_of_getElem? (i := 1809) (by decide +kernel)) rfl, ciX12_hope.1, ciX12_hope.2⟩
set_option maxRecDepth 20000 in
theorem cbX11_bold : aw_CB MX11_bold 1 := ⟨List.mem_of_getElem? (i := 1064) rfl, ⟨by decide, by decide, by decide +kernel⟩, aw_inG (List.mem_of_getElem? (i := 86) (by decide +kernel)) rfl, by decide⟩
theorem ciX11_bold : Cond.instanceMethod MX11_bold.1 ∈ aw_G ∧ Cond.selects MX11_bold.1.cls MX11_bold.1 MX11_bold.1 ∈ aw_G := ⟨aw_inG (List.mem_of_getElem? (i := 1062) (by decide +kernel)) rfl, aw_inG (List.mem_of_getElem? (i := 1063) (by decide +kernel)) rfl⟩
theorem cv_RL_154 : aw_CV RL 154 MX11_bold 1 := ⟨cbX11_bold, aw_inG (List.mem_of_getElem? (i := 1061) (by decide +kernel)) rfl, ciX11_bold.1, ciX11_bold.2⟩
set_option maxRecDepth 20000 in
theorem cbX12_bold : aw_CB MX12_bold 1 := ⟨List.mem_of_getElem? (i := 1824) rfl, ⟨by decide, by decide, by decide +kernel⟩, aw_inG (List.mem_of_getElem? (i := 98) (by decide +kernel)) rfl, by decide⟩
theorem ciX12_bold : Cond.instanceMethod MX12_bold.1 ∈ aw_G ∧ Cond.selects MX12_bold.1.cls MX12_bold.1 MX12_bold.1 ∈ aw_G := ⟨aw_inG (List.mem_of_getElem? (i := 1822) (by decide +kernel)) rfl, aw_inG (List.mem_of_getElem? (i := 1823) (by decide +kernel)) rfl⟩
theorem cv_RL_157 : aw_CV RL 157 MX12_bold 1 := ⟨cbX12_bold, aw_inG (List.mem_of_getElem? (i := 1821) (by decide +kernel)) rfl, ciX12_bold.1, ciX12_bold.2⟩
set_option maxRecDepth 20000 in
theorem cbX11_voids : aw_CB MX11_voids 0 := ⟨List.mem_of_getElem? (i := 1073) rfl, ⟨by decide, by decide, by decide +kernel⟩, aw_inG (List.mem_of_getElem? (i := 86) (by decide +kernel)) rfl, by decide⟩
theorem ciX11_voids : Cond.instanceMethod MX11_voids.1 ∈ aw_G ∧ Cond.selects MX11_voids.1.cls MX11_voids.1 MX11_voids.1 ∈ aw_G := ⟨aw_inG (List.mem_of_getElem? (i := 1071) (by decide +kernel)) rfl, aw_inG (List.mem_of_getElem? (i := 1072) (by decide +kernel)) rfl⟩
theorem cv_RL_158 : aw_CV RL 158 MX11_voids 0 := ⟨cbX11_voids, aw_inG (List.mem_of_getElem? (i := 1070) (by decide +kernel)) rfl, ciX11_voids.1, ciX11_voids.2⟩
set_option maxRecDepth 20000 in
theorem cbX12_voids : aw_CB MX12_voids 0 := ⟨List.mem_of_getElem? (i := 1828) rfl, ⟨by decide, by decide, by decide +kernel⟩, aw_inG (List.mem_of_getElem? (i := 98) (by decide +kernel)) rfl, by decide⟩
theorem ciX12_voids : Cond.instanceMethod MX12_voids.1 ∈ aw_G ∧ Cond.selects MX12_voids.1.cls MX12_voids.1 MX12_voids.1 ∈ aw_G := ⟨aw_inG (List.mem_of_getElem? (i := 1826) (by decide +kernel)) rfl, aw_inG (List.mem_of_getElem? (i := 1827) (by decide +kernel)) rfl⟩
theorem cv_RL_161 : aw_CV RL 161 MX12_voids 0 := ⟨cbX12_voids, aw_inG (List.mem_of_getElem? (i := 1825) (by decide +kernel)) rfl, ciX12_voids.1, ciX12_voids.2⟩
set_option maxRecDepth 20000 in
theorem cbX11_near : aw_CB MX11_near 2 := ⟨List.mem_of_getElem? (i := 1081) rfl, ⟨by decide, by decide, by decide +kernel⟩, aw_inG (List.mem_of_getElem? (i := 86) (by decide +kernel)) rfl, by decide⟩
theorem ciX11_near : Cond.instanceMethod MX11_near.1 ∈ aw_G ∧ Cond.selects MX11_near.1.cls MX11_near.1 MX11_near.1 ∈ aw_G := ⟨aw_inG (List.mem_of_getElem? (i := 1079) (by decide +kernel)) rfl, aw_inG (List.mem_of_getElem? (i := 1080) (by decide +kernel)) rfl⟩
theorem cv_RL_162 : aw_CV RL 162 MX11_near 2 := ⟨cbX11_near, aw_inG (List.mem_of_getElem? (i := 1078) (by decide +kernel)) rfl, ciX11_near.1, ciX11_near.2⟩
set_option maxRecDepth 20000 in
theorem cbX12_near : aw_CB MX12_near 2 := ⟨List.mem_of_getElem? (i := 1832) rfl, ⟨by decide, by decide, by decide +kernel⟩, aw_inG (List.mem_of_getElem? (i := 98) (by decide +kernel)) rfl, by decide⟩
theorem ciX12_near : Cond.instanceMethod MX12_near.1 ∈ aw_G ∧ Cond.selects MX12_near.1.cls MX12_near.1 MX12_near.1 ∈ aw_G := ⟨aw_inG (List.mem_of_getElem? (i := 1830) (by decide +kernel)) rfl, aw_inG (List.mem_of_getElem? (i := 1831) (by decide +kernel)) rfl⟩
theorem cv_RL_165 : aw_CV RL 165 MX12_near 2 := ⟨cbX12_near, aw_inG (List.mem_of_getElem? (i := 1829) (by decide +kernel)) rfl, ciX12_near.1, ciX12_near.2⟩
set_option maxRecDepth 20000 in
theorem cbX11_changes : aw_CB MX11_changes 1 := ⟨List.mem_of_getElem? (i := 1092) rfl, ⟨by decide, by decide, by decide +kernel⟩, aw_inG (List.mem_of_getElem? (i := 86) (by decide +kernel)) rfl, by decide⟩
theorem ciX11_changes : Cond.instanceMethod MX11_changes.1 ∈ aw_G ∧ Cond.selects MX11_changes.1.cls MX11_changes.1 MX11_changes.1 ∈ aw_G := ⟨aw_inG (List.mem_of_getElem? (i := 1090) (by decide +kernel)) rfl, aw_inG (List.mem_of_getElem? (i := 1091) (by decide +kernel)) rfl⟩
theorem cv_RL_166 : aw_CV RL 166 MX11_changes 1 := ⟨cbX11_changes, aw_inG (List.mem_of_getElem? (i := 1089) (by decide +kernel)) rfl, ciX11_changes.1, ciX11_changes.2⟩
set_option maxRecDepth 20000 in
theorem cbX12_changes : aw_CB MX12_changes 1 := ⟨List.mem_of_getElem? (i := 1840) rfl, ⟨by decide, by decide, by decide +kernel⟩, aw_inG (List.mem_of_getElem? (i := 98) (by decide +kernel)) rfl, by decide⟩
theorem ciX12_changes : Cond.instanceMethod MX12_changes.1 ∈ aw_G ∧ Cond.selects MX12_changes.1.cls MX12_changes.1 MX12_changes.1 ∈ aw_G := ⟨aw_inG (List.mem_of_getElem? (i := 1838) (by decide +kernel)) rfl, aw_inG (List.mem_of_getElem? (i := 1839) (by decide +kernel)) rfl⟩
theorem cv_RL_169 : aw_CV RL 169 MX12_changes 1 := ⟨cbX12_changes, aw_inG (List.mem_of_getElem? (i := 1837) (by decide +kernel)) rfl, ciX12_changes.1, ciX12_changes.2⟩
set_option maxRecDepth 20000 in
theorem cbX11_without : aw_CB MX11_without 3 := ⟨List.mem_of_getElem? (i := 1101) rfl, ⟨by decide, by decide, by decide +kernel⟩, aw_inG (List.mem_of_getElem? (i := 86) (by decide +kernel)) rfl, by decide⟩
theorem ciX11_without : Cond.instanceMethod MX11_without.1 ∈ aw_G ∧ Cond.selects MX11_without.1.cls MX11_without.1 MX11_without.1 ∈ aw_G := ⟨aw_inG (List.mem_of_getElem? (i := 1099) (by decide +kernel)) rfl, aw_inG (List.mem_of_getElem? (i := 1100) (by decide +kernel)) rfl⟩
theorem cv_RL_170 : aw_CV RL 170 MX11_without 3 := ⟨cbX11_without, aw_inG (List.mem_of_getElem? (i := 1098) (by decide +kernel)) rfl, ciX11_without.1, ciX11_without.2⟩
set_option maxRecDepth 20000 in
theorem cbX12_without : aw_CB MX12_without 3 := ⟨List.mem_of_getElem? (i := 1844) rfl, ⟨by decide, by decide, by decide +kernel⟩, aw_inG (List.mem_of_getElem? (i := 98) (by decide +kernel)) rfl, by decide⟩
theorem ciX12_without : Cond.instanceMethod MX12_without.1 ∈ aw_G ∧ Cond.selects MX12_without.1.cls MX12_without.1 MX12_without.1 ∈ aw_G := ⟨aw_inG (List.mem_of_getElem? (i := 1842) (by decide +kernel)) rfl, aw_inG (List.mem_of_getElem? (i := 1843) (by decide +kernel)) rfl⟩
theorem cv_RL_173 : aw_CV RL 173 MX12_without 3 := ⟨cbX12_without, aw_inG (List.mem_of_getElem? (i := 1841) (by decide +kernel)) rfl, ciX12_without.1, ciX12_without.2⟩
set_option maxRecDepth 20000 in
theorem cbX11_choice : aw_CB MX11_choice 3 := ⟨List.mem_of_getElem? (i := 1109) rfl, ⟨by decide, by decide, by decide +kernel⟩, aw_inG (List.mem_of_getElem? (i := 86) (by decide +kernel)) rfl, by decide⟩
theorem ciX11_choice : Cond.instanceMethod MX11_choice.1 ∈ aw_G ∧ Cond.selects MX11_choice.1.cls MX11_choice.1 MX11_choice.1 ∈ aw_G := ⟨aw_inG (List.mem_of_getElem? (i := 1107) (by decide +kernel)) rfl, aw_inG (List.mem_of_getElem? (i := 1108) (by decide +kernel)) rfl⟩
theorem cv_RL_174 : aw_CV RL 174 MX11_choice 3 := ⟨cbX11_choice, aw_inG (List.mem_of_getElem? (i := 1106) (by decide +kernel)) rfl, ciX11_choice.1, ciX11_choice.2⟩
set_option maxRecDepth 20000 in
theorem cbX12_choice : aw_CB MX12_choice 3 := ⟨List.mem_of_getElem? (i := 1848) rfl, ⟨by decide, by decide, by decide +kernel⟩, aw_inG (List.mem_of_getElem? (i := 98) (by decide +kernel)) rfl, by decide⟩
theorem ciX12_choice : Cond.instanceMethod MX12_choice.1 ∈ aw_G ∧ Cond.selects MX12_choice.1.cls MX12_choice.1 MX12_choice.1 ∈ aw_G := ⟨aw_inG (List.mem_of_getElem? (i := 1846) (by decide +kernel)) rfl, aw_inG (List.mem_of_getElem? (i := 1847) (by decide +kernel)) rfl⟩
theorem cv_RL_177 : aw_CV RL 177 MX12_choice 3 := ⟨cbX12_choice, aw_inG (List.mem_of_getElem? (i := 1845) (by decide +kernel)) rfl, ciX12_choice.1, ciX12_choice.2⟩
set_option maxRecDepth 20000 in
theorem cbX11_latest : aw_CB MX11_latest 1 := ⟨List.mem_of_getElem? (i := 1113) rfl, ⟨by decide, by decide, by decide +kernel⟩, aw_inG (List.mem_of_getElem? (i := 86) (by decide +kernel)) rfl, by decide⟩
theorem ciX11_latest : Cond.instanceMethod MX11_latest.1 ∈ aw_G ∧ Cond.selects MX11_latest.1.cls MX11_latest.1 MX11_latest.1 ∈ aw_G := ⟨aw_inG (List.mem_of_getElem? (i := 1111) (by decide +kernel)) rfl, aw_inG (List.mem_of_getElem? (i := 1112) (by decide +kernel)) rfl⟩
theorem cv_RL_178 : aw_CV RL 178 MX11_latest 1 := ⟨cbX11_latest, aw_inG (List.mem_of_getElem? (i := 1110) (by decide +kernel)) rfl, ciX11_latest.1, ciX11_latest.2⟩
set_option maxRecDepth 20000 in
theorem cbX12_latest : aw_CB MX12_latest 1 := ⟨List.mem_of_getElem? (i := 1852) rfl, ⟨by decide, by decide, by decide +kernel⟩, aw_inG (List.mem_of_getElem? (i := 98) (by decide +kernel)) rfl, by decide⟩
theorem ciX12_latest : Cond.instanceMethod MX12_latest.1 ∈ aw_G ∧ Cond.selects MX12_latest.1.cls MX12_latest.1 MX12_latest.1 ∈ aw_G := ⟨aw_inG (List.mem_of_getElem? (i := 1850) (by decide +kernel)) rfl, aw_inG (List.mem_of_getElem? (i := 1851) (by decide +kernel)) rfl⟩
theorem cv_RL_181 : aw_CV RL 181 MX12_latest 1 := ⟨cbX12_latest, aw_inG (List.mem_of_getElem? (i := 1849) (by decide +kernel)) rfl, ciX12_latest.1, ciX12_latest.2⟩
set_option maxRecDepth 20000 in
theorem cbX11_medal : aw_CB MX11_medal 3 := ⟨List.mem_of_getElem? (i := 1117) rfl, ⟨by decide, by decide, by decide +kernel⟩, aw_inG (List.mem_of_getElem? (i := 86) (by decide +kernel)) rfl, by decide⟩
theorem ciX11_medal : Cond.instanceMethod MX11_medal.1 ∈ aw_G ∧ Cond.selects MX11_medal.1.cls MX11_medal.1 MX11_medal.1 ∈ aw_G := ⟨aw_inG (List.mem_of_getElem? (i := 1115) (by decide +kernel)) rfl, aw_inG (List.mem_of_getElem? (i := 1116) (by decide +kernel)) rfl⟩
theorem cv_RL_182 : aw_CV RL 182 MX11_medal 3 := ⟨cbX11_medal, aw_inG (List.mem_of_getElem? (i := 1114) (by decide +kernel)) rfl, ciX11_medal.1, ciX11_medal.2⟩
set_option maxRecDepth 20000 in
theorem cbX12_medal : aw_CB MX12_medal 3 := ⟨List.mem_of_getElem? (i := 1856) rfl, ⟨by decide, by decide, by decide +kernel⟩, aw_inG (List.mem_of_getElem? (i := 98) (by decide +kernel)) rfl, by decide⟩
theorem ciX12_medal : Cond.instanceMethod MX12_medal.1 ∈ aw_G ∧ Cond.selects MX12_medal.1.cls MX12_medal.1 MX12_medal.1 ∈ aw_G := ⟨aw_inG (List.mem_of_getElem? (i := 1854) (by decide +kernel)) rfl, aw_inG (List.mem_of_getElem? (i := 1855) (by decide +kernel)) rfl⟩
theorem cv_RL_185 : aw_CV RL 185 MX12_medal 3 := ⟨cbX12_medal, aw_inG (List.mem_of_getElem? (i := 1853) (by decide +kernel)) rfl, ciX12_medal.1, ciX12_medal.2⟩
set_option maxRecDepth 20000 in
theorem cbX11_image : aw_CB MX11_image 0 := ⟨List.mem_of_getElem? (i := 1129) rfl, ⟨by decide, by decide, by decide +kernel⟩, aw_inG (List.mem_of_getElem? (i := 86) (by decide +kernel)) rfl, by decide⟩
theorem ciX11_image : Cond.instanceMethod MX11_image.1 ∈ aw_G ∧ Cond.selects MX11_image.1.cls MX11_image.1 MX11_image.1 ∈ aw_G := ⟨aw_inG (List.mem_of_getElem? (i := 1127) (by decide +kernel)) rfl, aw_inG (List.mem_of_getElem? (i := 1128) (by decide +kernel)) rfl⟩
theorem cv_RL_186 : aw_CV RL 186 MX11_image 0 := ⟨cbX11_image, aw_inG (List.mem_of_getElem? (i := 1126) (by decide +kernel)) rfl, ciX11_image.1, ciX11_image.2⟩
set_option maxRecDepth 20000 in
theorem cbX12_image : aw_CB MX12_image 0 := ⟨List.mem_of_getElem? (i := 1860) rfl, ⟨by decide, by decide, by decide +kernel⟩, aw_inG (List.mem_of_getElem? (i := 98) (by decide +kernel)) rfl, by decide⟩
theorem ciX12_image : Cond.instanceMethod MX12_image.1 ∈ aw_G ∧ Cond.selects MX12_image.1.cls MX12_image.1 MX12_image.1 ∈ aw_G := ⟨aw_inG (List.mem_of_getElem? (i := 1858) (by decide +kernel)) rfl, aw_inG (List.mem_of_getElem? (i := 1859) (by decide +kernel)) rfl⟩
theorem cv_RL_189 : aw_CV RL 189 MX12_image 0 := ⟨cbX12_image, aw_inG (List.mem_of_getElem? (i := 1857) (by decide +kernel)) rfl, ciX12_image.1, ciX12_image.2⟩
set_option maxRecDepth 20000 in
theorem cbX11_back : aw_CB MX11_back 0 := ⟨List.mem_of_getElem? (i := 1139) rfl, ⟨by decide, by decide, by decide +kernel⟩, aw_inG (List.mem_of_getElem? (i := 86) (by decide +kernel)) rfl, by decide⟩
theorem ciX11_back : Cond.instanceMethod MX11_back.1 ∈ aw_G ∧ Cond.selects MX11_back.1.cls MX11_back.1 MX11_back.1 ∈ aw_G := ⟨aw_inG (List.mem_of_getElem? (i := 1137) (by decide +kernel)) rfl, aw_inG (List.mem_of_getElem? (i := 1138) (by decide +kernel)) rfl⟩
theorem cv_RL_190 : aw_CV RL 190 MX11_back 0 := ⟨cbX11_back, aw_inG (List.mem_of_getElem? (i := 1136) (by decide +kernel)) rfl, ciX11_back.1, ciX11_back.2⟩
set_option maxRecDepth 20000 in
theorem cbX12_back : aw_CB MX12_back 0 := ⟨List.mem_of_getElem? (i := 1864) rfl, ⟨by decide, by decide, by decide +kernel⟩, aw_inG (List.mem_of_getElem? (i := 98) (by decide +kernel)) rfl, by decide⟩
theorem ciX12_back : Cond.instanceMethod MX12_back.1 ∈ aw_G ∧ Cond.selects MX12_back.1.cls MX12_back.1 MX12_back.1 ∈ aw_G := ⟨aw_inG (List.mem_of_getElem? (i := 1862) (by decide +kernel)) rfl, aw_inG (List.mem_of_getElem? (i := 1863) (by decide +kernel)) rfl⟩
theorem cv_RL_193 : aw_CV RL 193 MX12_back 0 := ⟨cbX12_back, aw_inG (List.mem_of_getElem? (i := 1861) (by decide +kernel)) rfl, ciX12_back.1, ciX12_back.2⟩
set_option maxRecDepth 20000 in
theorem cbX11_count : aw_CB MX11_count 1 := ⟨List.mem_of_getElem? (i := 1143) rfl, ⟨by decide, by decide, by decide +kernel⟩, aw_inG (List.mem_of_getElem? (i := 86) (by decide +kernel)) rfl, by decide⟩
theorem ciX11_count : Cond.instanceMethod MX11_count.1 ∈ aw_G ∧ Cond.selects MX11_count.1.cls MX11_count.1 MX11_count.1 ∈ aw_G := ⟨aw_inG (List.mem_of_getElem? (i := 1141) (by decide +kernel)) rfl, aw_inG (List.mem_of_getElem? (i := 1142) (by decide +kernel)) rfl⟩
theorem cv_RL_194 : aw_CV RL 194 MX11_count 1 := ⟨cbX11_count, aw_inG (List.mem_of_getElem? (i := 1140) (by decide +kernel)) rfl, ciX11_count.1, ciX11_count.2⟩
set_option maxRecDepth 20000 in
theorem cbX12_count : aw_CB MX12_count 1 := ⟨List.mem_of_getElem? (i := 1868) rfl, ⟨by decide, by decide, by decide +kernel⟩, aw_inG (List.mem_of_getElem? (i := 98) (by decide +kernel)) rfl, by decide⟩
theorem ciX12_count : Cond.instanceMethod MX12_count.1 ∈ aw_G ∧ Cond.selects MX12_count.1.cls MX12_count.1 MX12_count.1 ∈ aw_G := ⟨aw_inG (List.mem_of_getElem? (i := 1866) (by decide +kernel)) rfl, aw_inG (List.mem_of_getElem? (i := 1867) (by decide +kernel)) rfl⟩
theorem cv_RL_197 : aw_CV RL 197 MX12_count 1 := ⟨cbX12_count, aw_inG (List.mem_of_getElem? (i := 1865) (by decide +kernel)) rfl, ciX12_count.1, ciX12_count.2⟩
