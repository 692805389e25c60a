theorem dX11_striver_0 : decode cX11_striver 0 = .ok (.aload_n 0, 1) := by decide +kernel
theorem dX11_striver_1 : decode cX11_striver 1 = .ok (.getfield 19, 3) := by decide +kernel
theorem dX11_striver_4 : decode cX11_striver 4 = .ok (.iload_n 1, 1) := by decide +kernel
theorem dX11_striver_5 : decode cX11_striver 5 = .ok (.invokevirtual 137, 3) := by decide +kernel
theorem dX11_striver_8 : decode cX11_striver 8 = .ok (.ifCond .eq 12, 3) := by decide +kernel
theorem dX11_striver_11 : decode cX11_striver 11 = .ok (.iload_n 2, 1) := by decide +kernel
theorem dX11_striver_12 : decode cX11_striver 12 = .ok (.ifCond .lt 8, 3) := by decide +kernel
theorem dX11_striver_15 : decode cX11_striver 15 = .ok (.iload_n 2, 1) := by decide +kernel
theorem dX11_striver_16 : decode cX11_striver 16 = .ok (.iconst 4, 1) := by decide +kernel
theorem dX11_striver_17 : decode cX11_striver 17 = .ok (.if_icmp .le 11, 3) := by decide +kernel
theorem dX11_striver_20 : decode cX11_striver 20 = .ok (.new 141, 3) := by decide +kernel
theorem dX11_striver_23 : decode cX11_striver 23 = .ok (.dup, 1) := by decide +kernel
theorem dX11_striver_24 : decode cX11_striver 24 = .ok (.invokespecial 143, 3) := by decide +kernel
theorem dX11_striver_27 : decode cX11_striver 27 = .ok (.athrow, 1) := by decide +kernel
theorem dX11_striver_28 : decode cX11_striver 28 = .ok (.iload_n 2, 1) := by decide +kernel
theorem dX11_striver_29 : decode cX11_striver 29 = .ok (.iconst 4, 1) := by decide +kernel
theorem dX11_striver_30 : decode cX11_striver 30 = .ok (.if_icmp .ne 15, 3) := by decide +kernel
theorem dX11_striver_33 : decode cX11_striver 33 = .ok (.aload_n 0, 1) := by decide +kernel
theorem dX11_striver_34 : decode cX11_striver 34 = .ok (.getfield 19, 3) := by decide +kernel
theorem dX11_striver_37 : decode cX11_striver 37 = .ok (.getfield 144, 3) := by decide +kernel
theorem dX11_striver_40 : decode cX11_striver 40 = .ok (.iload_n 1, 1) := by decide +kernel
theorem dX11_striver_41 : decode cX11_striver 41 = .ok (.iaload, 1) := by decide +kernel
theorem dX11_striver_42 : decode cX11_striver 42 = .ok (.goto 12, 3) := by decide +kernel
theorem dX11_striver_45 : decode cX11_striver 45 = .ok (.aload_n 0, 1) := by decide +kernel
theorem dX11_striver_46 : decode cX11_striver 46 = .ok (.getfield 19, 3) := by decide +kernel
theorem dX11_striver_49 : decode cX11_striver 49 = .ok (.iload_n 1, 1) := by decide +kernel
theorem dX11_striver_50 : decode cX11_striver 50 = .ok (.iload_n 2, 1) := by decide +kernel
theorem dX11_striver_51 : decode cX11_striver 51 = .ok (.invokevirtual 147, 3) := by decide +kernel
theorem dX11_striver_54 : decode cX11_striver 54 = .ok (.ireturn, 1) := by decide +kernel
theorem dL_striver_0 : decode cL_striver 0 = .ok (.aload_n 3, 1) := by decide +kernel
theorem dL_striver_1 : decode cL_striver 1 = .ok (.iconst 0, 1) := by decide +kernel
theorem dL_striver_2 : decode cL_striver 2 = .ok (.aload_n 0, 1) := by decide +kernel
theorem dL_striver_3 : decode cL_striver 3 = .ok (.iload_n 1, 1) := by decide +kernel
theorem dL_striver_4 : decode cL_striver 4 = .ok (.iload_n 2, 1) := by decide +kernel
theorem dL_striver_5 : decode cL_striver 5 = .ok (.invokevirtual 7, 3) := by decide +kernel
theorem dL_striver_8 : decode cL_striver 8 = .ok (.i2l, 1) := by decide +kernel
theorem dL_striver_9 : decode cL_striver 9 = .ok (.lastore, 1) := by decide +kernel
theorem dL_striver_10 : decode cL_striver 10 = .ok (.goto 7, 3) := by decide +kernel
theorem dL_striver_13 : decode cL_striver 13 = .ok (.astore 4, 2) := by decide +kernel
theorem dL_striver_15 : decode cL_striver 15 = .ok (.iconst 1, 1) := by decide +kernel
theorem dL_striver_16 : decode cL_striver 16 = .ok (.ireturn, 1) := by decide +kernel
theorem dL_striver_17 : decode cL_striver 17 = .ok (.iconst 0, 1) := by decide +kernel
theorem dL_striver_18 : decode cL_striver 18 = .ok (.ireturn, 1) := by decide +kernel
abbrev MX11_striver : aw_M := (yX11_striver, cX11_striver, 3, some .int)
theorem cv_RX11_147 : aw_CV RX11 147 MX1_item 2 := ⟨cbX1_item, aw_inG (List.mem_of_getElem? (i := 1213) (by decide +kernel)) rfl, ciX1_item.1, ciX1_item.2⟩
set_option maxRecDepth 20000 in
theorem cbX11_striver : aw_CB MX11_striver 2 := ⟨List.mem_of_getElem? (i := 1151) rfl, ⟨by decide, by decide, by decide +kernel⟩, aw_inG (List.mem_of_getElem? (i := 86) (by decide +kernel)) rfl, by decide⟩
theorem cv_RL_7 : aw_CV RL 7 MX11_striver 2 := ⟨cbX11_striver, aw_inG (List.mem_of_getElem? (i := 1148) (by decide +kernel)) rfl, aw_inG (List.mem_of_getElem? (i := 1149) (by decide +kernel)) rfl, aw_inG (List.mem_of_getElem? (i := 1150) (by decide +kernel)) rfl⟩
theorem cl_RL_13 : Cond.classLink RL 13 "java/util/NoSuchElementException" ∈ aw_G := aw_inG (List.mem_of_getElem? (i := 1147) (by decide +kernel)) rfl
def ax_E : String := "java/util/NoSuchElementException"
def ax_L : List Cond := Cond.classLink RX11 141 ax_E :: Cond.initialized ax_E :: vx_at0 RX11 143 ax_E ["java/lang/RuntimeException", "java/lang/Exception"]
theorem ax_pos : [1152, 109, 106, 1174, 1183, 1185, 1188, 1190, 1175, 1176, 118, 119, 1177, 1182, 1186, 1202, 1164, 1203, 1166, 1204, 1168, 1178, 1180, 1170, 1192, 1193, 1194, 1195, 1155, 1195, 1196, 1197, 1198, 1157, 1198, 1199, 1200, 1175, 1159, 1191, 1153, 1154, 1161, 1162, 1163, 1165, 1167, 1169, 1173, 1172, 1171].map (fun i => lw_tbl[i]?) = ax_L.map some := by decide +kernel
theorem ax_in : ∀ w ∈ ax_L, w ∈ lw_tbl := by
  intro w hw
  have h : some w ∈ ax_L.map some := List.mem_map.mpr ⟨w, hw, rfl⟩
  rw [← ax_pos] at h
  obtain ⟨i, -, hi⟩ := List.mem_map.mp h
  exact List.mem_of_getElem? hi
def ax_B : List Cond := [.declares ⟨"java/lang/RuntimeException", "<init>", "()V"⟩, .declares ⟨"java/lang/Exception", "<init>", "()V"⟩, .declares ⟨"java/lang/Throwable", "<init>", "()V"⟩, .castable ax_E ax_E]
theorem ax_rest : ∀ w ∈ (vx_at0 RX11 143 ax_E ["java/lang/RuntimeException", "java/lang/Exception"]).filter (fun w => !goodWord w), w ∈ ax_B := by decide +kernel
theorem ax_ot : ∀ w ∈ ax_L, vx_ot w = true := by decide +kernel
theorem ax_Bot : ∀ w ∈ ax_B, w.onTables = true := by decide +kernel
theorem ax_g1 : Cond.classLink RX11 141 ax_E ∈ aw_G ∧ Cond.initialized ax_E ∈ aw_G := ⟨aw_inG (List.mem_of_getElem? (i := 1152) (by decide +kernel)) rfl, aw_inG (List.mem_of_getElem? (i := 109) (by decide +kernel)) rfl⟩
set_option maxRecDepth 20000 in
theorem ax_cw : Cond.codeWith yL_striver cL_striver 5 (some .int) [(0, 10, 13, 13)] ∈ aw_G := aw_inG (List.mem_of_getElem? (i := 1146) (by first | rfl | decide +kernel)) rfl
theorem ax_ms : Cond.methodLink RL 38 yL_striver ∈ aw_G ∧ Cond.static yL_striver ∈ aw_G ∧ Cond.initialized RL ∈ aw_G := ⟨aw_inG (List.mem_of_getElem? (i := 1144) (by decide +kernel)) rfl, aw_inG (List.mem_of_getElem? (i := 1145) (by decide +kernel)) rfl, aw_inG (List.mem_of_getElem? (i := 85) (by decide +kernel)) rfl⟩
