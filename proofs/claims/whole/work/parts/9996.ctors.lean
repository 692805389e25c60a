theorem dX9_init_0 : decode cX9_init 0 = .ok (.aload_n 0, 1) := by decide +kernel
theorem dX9_init_1 : decode cX9_init 1 = .ok (.invokespecial 3, 3) := by decide +kernel
theorem dX9_init_4 : decode cX9_init 4 = .ok (.aload_n 0, 1) := by decide +kernel
theorem dX9_init_5 : decode cX9_init 5 = .ok (.sipush 160, 3) := by decide +kernel
theorem dX9_init_8 : decode cX9_init 8 = .ok (.newarray .int, 2) := by decide +kernel
theorem dX9_init_10 : decode cX9_init 10 = .ok (.putfield 9, 3) := by decide +kernel
theorem dX9_init_13 : decode cX9_init 13 = .ok (.return_, 1) := by decide +kernel
set_option maxRecDepth 100000 in
set_option maxHeartbeats 4000000 in
theorem c_X9_init (l : Launch) (K : aw_K) (pre : va_W) (h0 : Nat) : ac_Met l K MX9_init 0 1 160 [.ref h0] pre [(h0, .inr (9, [.null, .int 0, .int 0]))] (fun t => ∃ q1, t = [(h0, .inr (9, [.ref q1, .int 0, .int 0])), ac_a K 0 160 q1]) := by
  refine ac_enter (by decide) (Nat.le_of_ble_eq_true rfl) (fun p e s m args below meth c C => ?_)
  show ac_AW p l e _ s m args below meth c _ K _ 0 0 0 [(0, .ref h0)] [] pre _
  refine ac_aload_n (q := 0) C dX9_init_0 rfl ?_
  refine ac_obj C dX9_init_1 co_RX9_3 (Nat.le_of_ble_eq_true rfl) (Nat.le_of_ble_eq_true rfl) ?_
  refine ac_aload_n (q := 0) C dX9_init_4 rfl ?_
  refine ac_sipush (x := 160) C dX9_init_5 (by decide) ?_
  refine ac_newa (t := 0) (n := 160) (a0 := (160, .inl (fun _ => 0))) C dX9_init_8 rfl ca_int (by decide) rfl (fun _ => rfl) (by decide) (by decide) (by decide) (Nat.le_of_ble_eq_true rfl) (Nat.le_of_ble_eq_true rfl) (fun q1 => ?_)
  refine ac_tl (tl' := [(h0, .inr (9, [.null, .int 0, .int 0])), ac_a K 0 160 q1]) rfl ?_
  refine ac_putF (j := 0) (tl' := [(h0, .inr (9, [.ref q1, .int 0, .int 0])), ac_a K 0 160 q1]) C dX9_init_10 ff_RX9_9 rfl rfl rfl rfl (Nat.le_of_ble_eq_true rfl) rfl ?_
  exact ac_ret C dX9_init_13 rfl (Nat.le_of_ble_eq_true rfl) (Nat.le_of_ble_eq_true rfl) ⟨q1, rfl⟩
theorem dX1_init_0 : decode cX1_init 0 = .ok (.aload_n 0, 1) := by decide +kernel
theorem dX1_init_1 : decode cX1_init 1 = .ok (.invokespecial 3, 3) := by decide +kernel
theorem dX1_init_4 : decode cX1_init 4 = .ok (.aload_n 0, 1) := by decide +kernel
theorem dX1_init_5 : decode cX1_init 5 = .ok (.bipush 24, 2) := by decide +kernel
theorem dX1_init_7 : decode cX1_init 7 = .ok (.newarray .int, 2) := by decide +kernel
theorem dX1_init_9 : decode cX1_init 9 = .ok (.putfield 9, 3) := by decide +kernel
theorem dX1_init_12 : decode cX1_init 12 = .ok (.aload_n 0, 1) := by decide +kernel
theorem dX1_init_13 : decode cX1_init 13 = .ok (.iconst 5, 1) := by decide +kernel
theorem dX1_init_14 : decode cX1_init 14 = .ok (.newarray .int, 2) := by decide +kernel
theorem dX1_init_16 : decode cX1_init 16 = .ok (.putfield 15, 3) := by decide +kernel
theorem dX1_init_19 : decode cX1_init 19 = .ok (.aload_n 0, 1) := by decide +kernel
theorem dX1_init_20 : decode cX1_init 20 = .ok (.bipush 6, 2) := by decide +kernel
theorem dX1_init_22 : decode cX1_init 22 = .ok (.newarray .int, 2) := by decide +kernel
theorem dX1_init_24 : decode cX1_init 24 = .ok (.putfield 18, 3) := by decide +kernel
theorem dX1_init_27 : decode cX1_init 27 = .ok (.return_, 1) := by decide +kernel
set_option maxRecDepth 100000 in
set_option maxHeartbeats 4000000 in
theorem c_X1_init (l : Launch) (K : aw_K) (pre : va_W) (h0 : Nat) : ac_Met l K MX1_init 0 3 35 [.ref h0] pre [(h0, .inr (1, [.null, .null, .null, .int 0, .int 0]))] (fun t => ∃ q1 q2 q3, t = [(h0, .inr (1, [.ref q1, .ref q2, .ref q3, .int 0, .int 0])), ac_a K 0 24 q1, ac_a K 0 5 q2, ac_a K 0 6 q3]) := by
  refine ac_enter (by decide) (Nat.le_of_ble_eq_true rfl) (fun p e s m args below meth c C => ?_)
  show ac_AW p l e _ s m args below meth c _ K _ 0 0 0 [(0, .ref h0)] [] pre _
  refine ac_aload_n (q := 0) C dX1_init_0 rfl ?_
  refine ac_obj C dX1_init_1 co_RX1_3 (Nat.le_of_ble_eq_true rfl) (Nat.le_of_ble_eq_true rfl) ?_
  refine ac_aload_n (q := 0) C dX1_init_4 rfl ?_
  refine ac_bipush (x := 24) C dX1_init_5 (by decide) ?_
  refine ac_newa (t := 0) (n := 24) (a0 := (24, .inl (fun _ => 0))) C dX1_init_7 rfl ca_int (by decide) rfl (fun _ => rfl) (by decide) (by decide) (by decide) (Nat.le_of_ble_eq_true rfl) (Nat.le_of_ble_eq_true rfl) (fun q1 => ?_)
  refine ac_tl (tl' := [(h0, .inr (1, [.null, .null, .null, .int 0, .int 0])), ac_a K 0 24 q1]) rfl ?_
  refine ac_putF (j := 0) (tl' := [(h0, .inr (1, [.ref q1, .null, .null, .int 0, .int 0])), ac_a K 0 24 q1]) C dX1_init_9 ff_RX1_9 rfl rfl rfl rfl (Nat.le_of_ble_eq_true rfl) rfl ?_
  refine ac_aload_n (q := 0) C dX1_init_12 rfl ?_
  refine ac_iconst (x := 5) C dX1_init_13 (by decide) ?_
  refine ac_newa (t := 0) (n := 5) (a0 := (5, .inl (fun _ => 0))) C dX1_init_14 rfl ca_int (by decide) rfl (fun _ => rfl) (by decide) (by decide) (by decide) (Nat.le_of_ble_eq_true rfl) (Nat.le_of_ble_eq_true rfl) (fun q2 => ?_)
  refine ac_tl (tl' := [(h0, .inr (1, [.ref q1, .null, .null, .int 0, .int 0])), ac_a K 0 24 q1, ac_a K 0 5 q2]) rfl ?_
  refine ac_putF (j := 0) (tl' := [(h0, .inr (1, [.ref q1, .ref q2, .null, .int 0, .int 0])), ac_a K 0 24 q1, ac_a K 0 5 q2]) C dX1_init_16 ff_RX1_15 rfl rfl rfl rfl (Nat.le_of_ble_eq_true rfl) rfl ?_
  refine ac_aload_n (q := 0) C dX1_init_19 rfl ?_
  refine ac_bipush (x := 6) C dX1_init_20 (by decide) ?_
  refine ac_newa (t := 0) (n := 6) (a0 := (6, .inl (fun _ => 0))) C dX1_init_22 rfl ca_int (by decide) rfl (fun _ => rfl) (by decide) (by decide) (by decide) (Nat.le_of_ble_eq_true rfl) (Nat.le_of_ble_eq_true rfl) (fun q3 => ?_)
  refine ac_tl (tl' := [(h0, .inr (1, [.ref q1, .ref q2, .null, .int 0, .int 0])), ac_a K 0 24 q1, ac_a K 0 5 q2, ac_a K 0 6 q3]) rfl ?_
  refine ac_putF (j := 0) (tl' := [(h0, .inr (1, [.ref q1, .ref q2, .ref q3, .int 0, .int 0])), ac_a K 0 24 q1, ac_a K 0 5 q2, ac_a K 0 6 q3]) C dX1_init_24 ff_RX1_18 rfl rfl rfl rfl (Nat.le_of_ble_eq_true rfl) rfl ?_
  exact ac_ret C dX1_init_27 rfl (Nat.le_of_ble_eq_true rfl) (Nat.le_of_ble_eq_true rfl) ⟨q1, q2, q3, rfl⟩
theorem dX7_init_0 : decode cX7_init 0 = .ok (.aload_n 0, 1) := by decide +kernel
theorem dX7_init_1 : decode cX7_init 1 = .ok (.invokespecial 3, 3) := by decide +kernel
theorem dX7_init_4 : decode cX7_init 4 = .ok (.aload_n 0, 1) := by decide +kernel
theorem dX7_init_5 : decode cX7_init 5 = .ok (.sipush 640, 3) := by decide +kernel
theorem dX7_init_8 : decode cX7_init 8 = .ok (.newarray .int, 2) := by decide +kernel
theorem dX7_init_10 : decode cX7_init 10 = .ok (.putfield 11, 3) := by decide +kernel
theorem dX7_init_13 : decode cX7_init 13 = .ok (.aload_n 0, 1) := by decide +kernel
theorem dX7_init_14 : decode cX7_init 14 = .ok (.iconst 4, 1) := by decide +kernel
theorem dX7_init_15 : decode cX7_init 15 = .ok (.newarray .int, 2) := by decide +kernel
theorem dX7_init_17 : decode cX7_init 17 = .ok (.putfield 15, 3) := by decide +kernel
theorem dX7_init_20 : decode cX7_init 20 = .ok (.aload_n 0, 1) := by decide +kernel
theorem dX7_init_21 : decode cX7_init 21 = .ok (.sipush 160, 3) := by decide +kernel
theorem dX7_init_24 : decode cX7_init 24 = .ok (.newarray .int, 2) := by decide +kernel
theorem dX7_init_26 : decode cX7_init 26 = .ok (.putfield 18, 3) := by decide +kernel
theorem dX7_init_29 : decode cX7_init 29 = .ok (.aload_n 0, 1) := by decide +kernel
theorem dX7_init_30 : decode cX7_init 30 = .ok (.bipush 64, 2) := by decide +kernel
theorem dX7_init_32 : decode cX7_init 32 = .ok (.newarray .int, 2) := by decide +kernel
theorem dX7_init_34 : decode cX7_init 34 = .ok (.putfield 21, 3) := by decide +kernel
theorem dX7_init_37 : decode cX7_init 37 = .ok (.aload_n 0, 1) := by decide +kernel
theorem dX7_init_38 : decode cX7_init 38 = .ok (.getstatic 24, 3) := by decide +kernel
theorem dX7_init_41 : decode cX7_init 41 = .ok (.arraylength, 1) := by decide +kernel
theorem dX7_init_42 : decode cX7_init 42 = .ok (.newarray .int, 2) := by decide +kernel
theorem dX7_init_44 : decode cX7_init 44 = .ok (.putfield 27, 3) := by decide +kernel
theorem dX7_init_47 : decode cX7_init 47 = .ok (.return_, 1) := by decide +kernel
set_option maxRecDepth 100000 in
set_option maxHeartbeats 4000000 in
theorem c_X7_init (l : Launch) (K : aw_K) (pre : va_W) (h0 : Nat) : ac_Met l K MX7_init 0 5 874 [.ref h0] pre [(h0, .inr (7, [.null, .null, .null, .null, .null, .int 0, .int 0]))] (fun t => ∃ q1 q2 q3 q4 q5, t = [(h0, .inr (7, [.ref q1, .ref q2, .ref q3, .ref q4, .ref q5, .int 0, .int 0])), ac_a K 0 640 q1, ac_a K 0 4 q2, ac_a K 0 160 q3, ac_a K 0 64 q4, ac_a K 0 6 q5]) := by
  refine ac_enter (by decide) (Nat.le_of_ble_eq_true rfl) (fun p e s m args below meth c C => ?_)
  show ac_AW p l e _ s m args below meth c _ K _ 0 0 0 [(0, .ref h0)] [] pre _
  refine ac_aload_n (q := 0) C dX7_init_0 rfl ?_
  refine ac_obj C dX7_init_1 co_RX7_3 (Nat.le_of_ble_eq_true rfl) (Nat.le_of_ble_eq_true rfl) ?_
  refine ac_aload_n (q := 0) C dX7_init_4 rfl ?_
  refine ac_sipush (x := 640) C dX7_init_5 (by decide) ?_
  refine ac_newa (t := 0) (n := 640) (a0 := (640, .inl (fun _ => 0))) C dX7_init_8 rfl ca_int (by decide) rfl (fun _ => rfl) (by decide) (by decide) (by decide) (Nat.le_of_ble_eq_true rfl) (Nat.le_of_ble_eq_true rfl) (fun q1 => ?_)
  refine ac_tl (tl' := [(h0, .inr (7, [.null, .null, .null, .null, .null, .int 0, .int 0])), ac_a K 0 640 q1]) rfl ?_
  refine ac_putF (j := 0) (tl' := [(h0, .inr (7, [.ref q1, .null, .null, .null, .null, .int 0, .int 0])), ac_a K 0 640 q1]) C dX7_init_10 ff_RX7_11 rfl rfl rfl rfl (Nat.le_of_ble_eq_true rfl) rfl ?_
  refine ac_aload_n (q := 0) C dX7_init_13 rfl ?_
  refine ac_iconst (x := 4) C dX7_init_14 (by decide) ?_
  refine ac_newa (t := 0) (n := 4) (a0 := (4, .inl (fun _ => 0))) C dX7_init_15 rfl ca_int (by decide) rfl (fun _ => rfl) (by decide) (by decide) (by decide) (Nat.le_of_ble_eq_true rfl) (Nat.le_of_ble_eq_true rfl) (fun q2 => ?_)
  refine ac_tl (tl' := [(h0, .inr (7, [.ref q1, .null, .null, .null, .null, .int 0, .int 0])), ac_a K 0 640 q1, ac_a K 0 4 q2]) rfl ?_
  refine ac_putF (j := 0) (tl' := [(h0, .inr (7, [.ref q1, .ref q2, .null, .null, .null, .int 0, .int 0])), ac_a K 0 640 q1, ac_a K 0 4 q2]) C dX7_init_17 ff_RX7_15 rfl rfl rfl rfl (Nat.le_of_ble_eq_true rfl) rfl ?_
  refine ac_aload_n (q := 0) C dX7_init_20 rfl ?_
  refine ac_sipush (x := 160) C dX7_init_21 (by decide) ?_
  refine ac_newa (t := 0) (n := 160) (a0 := (160, .inl (fun _ => 0))) C dX7_init_24 rfl ca_int (by decide) rfl (fun _ => rfl) (by decide) (by decide) (by decide) (Nat.le_of_ble_eq_true rfl) (Nat.le_of_ble_eq_true rfl) (fun q3 => ?_)
  refine ac_tl (tl' := [(h0, .inr (7, [.ref q1, .ref q2, .null, .null, .null, .int 0, .int 0])), ac_a K 0 640 q1, ac_a K 0 4 q2, ac_a K 0 160 q3]) rfl ?_
  refine ac_putF (j := 0) (tl' := [(h0, .inr (7, [.ref q1, .ref q2, .ref q3, .null, .null, .int 0, .int 0])), ac_a K 0 640 q1, ac_a K 0 4 q2, ac_a K 0 160 q3]) C dX7_init_26 ff_RX7_18 rfl rfl rfl rfl (Nat.le_of_ble_eq_true rfl) rfl ?_
  refine ac_aload_n (q := 0) C dX7_init_29 rfl ?_
  refine ac_bipush (x := 64) C dX7_init_30 (by decide) ?_
  refine ac_newa (t := 0) (n := 64) (a0 := (64, .inl (fun _ => 0))) C dX7_init_32 rfl ca_int (by decide) rfl (fun _ => rfl) (by decide) (by decide) (by decide) (Nat.le_of_ble_eq_true rfl) (Nat.le_of_ble_eq_true rfl) (fun q4 => ?_)
  refine ac_tl (tl' := [(h0, .inr (7, [.ref q1, .ref q2, .ref q3, .null, .null, .int 0, .int 0])), ac_a K 0 640 q1, ac_a K 0 4 q2, ac_a K 0 160 q3, ac_a K 0 64 q4]) rfl ?_
  refine ac_putF (j := 0) (tl' := [(h0, .inr (7, [.ref q1, .ref q2, .ref q3, .ref q4, .null, .int 0, .int 0])), ac_a K 0 640 q1, ac_a K 0 4 q2, ac_a K 0 160 q3, ac_a K 0 64 q4]) C dX7_init_34 ff_RX7_21 rfl rfl rfl rfl (Nat.le_of_ble_eq_true rfl) rfl ?_
  refine ac_aload_n (q := 0) C dX7_init_37 rfl ?_
  refine ac_letters (j := 8) (x := 6) C dX7_init_38 dX7_init_41 rfl (aw_inG (List.mem_of_getElem? (i := 186) (by decide +kernel)) rfl) (by decide) ?_
  refine ac_newa (t := 0) (n := 6) (a0 := (6, .inl (fun _ => 0))) C dX7_init_42 rfl ca_int (by decide) rfl (fun _ => rfl) (by decide) (by decide) (by decide) (Nat.le_of_ble_eq_true rfl) (Nat.le_of_ble_eq_true rfl) (fun q5 => ?_)
  refine ac_tl (tl' := [(h0, .inr (7, [.ref q1, .ref q2, .ref q3, .ref q4, .null, .int 0, .int 0])), ac_a K 0 640 q1, ac_a K 0 4 q2, ac_a K 0 160 q3, ac_a K 0 64 q4, ac_a K 0 6 q5]) rfl ?_
  refine ac_putF (j := 0) (tl' := [(h0, .inr (7, [.ref q1, .ref q2, .ref q3, .ref q4, .ref q5, .int 0, .int 0])), ac_a K 0 640 q1, ac_a K 0 4 q2, ac_a K 0 160 q3, ac_a K 0 64 q4, ac_a K 0 6 q5]) C dX7_init_44 ff_RX7_27 rfl rfl rfl rfl (Nat.le_of_ble_eq_true rfl) rfl ?_
  exact ac_ret C dX7_init_47 rfl (Nat.le_of_ble_eq_true rfl) (Nat.le_of_ble_eq_true rfl) ⟨q1, q2, q3, q4, q5, rfl⟩
theorem dX2_init_0 : decode cX2_init 0 = .ok (.aload_n 0, 1) := by decide +kernel
theorem dX2_init_1 : decode cX2_init 1 = .ok (.invokespecial 3, 3) := by decide +kernel
theorem dX2_init_4 : decode cX2_init 4 = .ok (.aload_n 0, 1) := by decide +kernel
theorem dX2_init_5 : decode cX2_init 5 = .ok (.bipush 6, 2) := by decide +kernel
theorem dX2_init_7 : decode cX2_init 7 = .ok (.newarray .int, 2) := by decide +kernel
theorem dX2_init_9 : decode cX2_init 9 = .ok (.putfield 9, 3) := by decide +kernel
theorem dX2_init_12 : decode cX2_init 12 = .ok (.aload_n 0, 1) := by decide +kernel
theorem dX2_init_13 : decode cX2_init 13 = .ok (.bipush 6, 2) := by decide +kernel
theorem dX2_init_15 : decode cX2_init 15 = .ok (.newarray .int, 2) := by decide +kernel
theorem dX2_init_17 : decode cX2_init 17 = .ok (.putfield 15, 3) := by decide +kernel
theorem dX2_init_20 : decode cX2_init 20 = .ok (.return_, 1) := by decide +kernel
set_option maxRecDepth 100000 in
set_option maxHeartbeats 4000000 in
theorem c_X2_init (l : Launch) (K : aw_K) (pre : va_W) (h0 : Nat) : ac_Met l K MX2_init 0 2 12 [.ref h0] pre [(h0, .inr (2, [.null, .null, .int 0]))] (fun t => ∃ q1 q2, t = [(h0, .inr (2, [.ref q1, .ref q2, .int 0])), ac_a K 0 6 q1, ac_a K 0 6 q2]) := by
  refine ac_enter (by decide) (Nat.le_of_ble_eq_true rfl) (fun p e s m args below meth c C => ?_)
  show ac_AW p l e _ s m args below meth c _ K _ 0 0 0 [(0, .ref h0)] [] pre _
  refine ac_aload_n (q := 0) C dX2_init_0 rfl ?_
  refine ac_obj C dX2_init_1 co_RX2_3 (Nat.le_of_ble_eq_true rfl) (Nat.le_of_ble_eq_true rfl) ?_
  refine ac_aload_n (q := 0) C dX2_init_4 rfl ?_
  refine ac_bipush (x := 6) C dX2_init_5 (by decide) ?_
  refine ac_newa (t := 0) (n := 6) (a0 := (6, .inl (fun _ => 0))) C dX2_init_7 rfl ca_int (by decide) rfl (fun _ => rfl) (by decide) (by decide) (by decide) (Nat.le_of_ble_eq_true rfl) (Nat.le_of_ble_eq_true rfl) (fun q1 => ?_)
  refine ac_tl (tl' := [(h0, .inr (2, [.null, .null, .int 0])), ac_a K 0 6 q1]) rfl ?_
  refine ac_putF (j := 0) (tl' := [(h0, .inr (2, [.ref q1, .null, .int 0])), ac_a K 0 6 q1]) C dX2_init_9 ff_RX2_9 rfl rfl rfl rfl (Nat.le_of_ble_eq_true rfl) rfl ?_
  refine ac_aload_n (q := 0) C dX2_init_12 rfl ?_
  refine ac_bipush (x := 6) C dX2_init_13 (by decide) ?_
  refine ac_newa (t := 0) (n := 6) (a0 := (6, .inl (fun _ => 0))) C dX2_init_15 rfl ca_int (by decide) rfl (fun _ => rfl) (by decide) (by decide) (by decide) (Nat.le_of_ble_eq_true rfl) (Nat.le_of_ble_eq_true rfl) (fun q2 => ?_)
  refine ac_tl (tl' := [(h0, .inr (2, [.ref q1, .null, .int 0])), ac_a K 0 6 q1, ac_a K 0 6 q2]) rfl ?_
  refine ac_putF (j := 0) (tl' := [(h0, .inr (2, [.ref q1, .ref q2, .int 0])), ac_a K 0 6 q1, ac_a K 0 6 q2]) C dX2_init_17 ff_RX2_15 rfl rfl rfl rfl (Nat.le_of_ble_eq_true rfl) rfl ?_
  exact ac_ret C dX2_init_20 rfl (Nat.le_of_ble_eq_true rfl) (Nat.le_of_ble_eq_true rfl) ⟨q1, q2, rfl⟩
theorem dX8_init_0 : decode cX8_init 0 = .ok (.aload_n 0, 1) := by decide +kernel
theorem dX8_init_1 : decode cX8_init 1 = .ok (.invokespecial 3, 3) := by decide +kernel
theorem dX8_init_4 : decode cX8_init 4 = .ok (.aload_n 0, 1) := by decide +kernel
theorem dX8_init_5 : decode cX8_init 5 = .ok (.new 9, 3) := by decide +kernel
theorem dX8_init_8 : decode cX8_init 8 = .ok (.dup, 1) := by decide +kernel
theorem dX8_init_9 : decode cX8_init 9 = .ok (.invokespecial 11, 3) := by decide +kernel
theorem dX8_init_12 : decode cX8_init 12 = .ok (.putfield 12, 3) := by decide +kernel
theorem dX8_init_15 : decode cX8_init 15 = .ok (.aload_n 0, 1) := by decide +kernel
theorem dX8_init_16 : decode cX8_init 16 = .ok (.bipush 6, 2) := by decide +kernel
theorem dX8_init_18 : decode cX8_init 18 = .ok (.newarray .int, 2) := by decide +kernel
theorem dX8_init_20 : decode cX8_init 20 = .ok (.putfield 18, 3) := by decide +kernel
theorem dX8_init_23 : decode cX8_init 23 = .ok (.aload_n 0, 1) := by decide +kernel
theorem dX8_init_24 : decode cX8_init 24 = .ok (.aload_n 1, 1) := by decide +kernel
theorem dX8_init_25 : decode cX8_init 25 = .ok (.putfield 22, 3) := by decide +kernel
theorem dX8_init_28 : decode cX8_init 28 = .ok (.return_, 1) := by decide +kernel
set_option maxRecDepth 100000 in
set_option maxHeartbeats 4000000 in
theorem c_X8_init (l : Launch) (K : aw_K) (pre : va_W) (h0 a1 : Nat) : ac_Met l K MX8_init 1 4 21 [.ref h0, .ref a1] pre [(h0, .inr (8, [.null, .null, .null, .int 0, .int 0, .int 0, .int 0, .int 0]))] (fun t => ∃ q1 q2 q3 q4, t = [(h0, .inr (8, [.ref a1, .ref q1, .ref q4, .int 0, .int 0, .int 0, .int 0, .int 0])), (q1, .inr (2, [.ref q2, .ref q3, .int 0])), ac_a K 0 6 q2, ac_a K 0 6 q3, ac_a K 0 6 q4]) := by
  refine ac_enter (by decide) (Nat.le_of_ble_eq_true rfl) (fun p e s m args below meth c C => ?_)
  show ac_AW p l e _ s m args below meth c _ K _ 0 0 0 [(0, .ref h0), (1, .ref a1)] [] pre _
  refine ac_aload_n (q := 0) C dX8_init_0 rfl ?_
  refine ac_obj C dX8_init_1 co_RX8_3 (Nat.le_of_ble_eq_true rfl) (Nat.le_of_ble_eq_true rfl) ?_
  refine ac_aload_n (q := 0) C dX8_init_4 rfl ?_
  refine ac_new C dX8_init_5 ce_RX8_9 (Nat.le_of_ble_eq_true rfl) (Nat.le_of_ble_eq_true rfl) (fun q1 => ?_)
  refine ac_tl (tl' := [(h0, .inr (8, [.null, .null, .null, .int 0, .int 0, .int 0, .int 0, .int 0])), (q1, .inr (2, [.null, .null, .int 0]))]) rfl ?_
  refine ac_dup C dX8_init_8 ?_
  refine ac_call (d := 0) (mc := 2) (ms := 12) (tl0 := [(h0, .inr (8, [.null, .null, .null, .int 0, .int 0, .int 0, .int 0, .int 0]))]) (x := (q1, .inr (2, [.null, .null, .int 0]))) (As := []) (rest := [.ref q1, .ref h0]) C dX8_init_9 ck_RX8_11 rfl rfl (Nat.le_of_ble_eq_true rfl) (Nat.le_of_ble_eq_true rfl) (Nat.le_of_ble_eq_true rfl) (Nat.le_of_ble_eq_true rfl) (Nat.le_of_ble_eq_true rfl) rfl (c_X2_init _ K  _ q1 ) (fun t1 hp => ?_)
  obtain ⟨q2, q3, rfl⟩ := hp
  refine ac_tl (tl' := [(h0, .inr (8, [.null, .null, .null, .int 0, .int 0, .int 0, .int 0, .int 0])), (q1, .inr (2, [.ref q2, .ref q3, .int 0])), ac_a K 0 6 q2, ac_a K 0 6 q3]) rfl ?_
  refine ac_putF (j := 0) (tl' := [(h0, .inr (8, [.null, .ref q1, .null, .int 0, .int 0, .int 0, .int 0, .int 0])), (q1, .inr (2, [.ref q2, .ref q3, .int 0])), ac_a K 0 6 q2, ac_a K 0 6 q3]) C dX8_init_12 ff_RX8_12 rfl rfl rfl rfl (Nat.le_of_ble_eq_true rfl) rfl ?_
  refine ac_aload_n (q := 0) C dX8_init_15 rfl ?_
  refine ac_bipush (x := 6) C dX8_init_16 (by decide) ?_
  refine ac_newa (t := 0) (n := 6) (a0 := (6, .inl (fun _ => 0))) C dX8_init_18 rfl ca_int (by decide) rfl (fun _ => rfl) (by decide) (by decide) (by decide) (Nat.le_of_ble_eq_true rfl) (Nat.le_of_ble_eq_true rfl) (fun q4 => ?_)
  refine ac_tl (tl' := [(h0, .inr (8, [.null, .ref q1, .null, .int 0, .int 0, .int 0, .int 0, .int 0])), (q1, .inr (2, [.ref q2, .ref q3, .int 0])), ac_a K 0 6 q2, ac_a K 0 6 q3, ac_a K 0 6 q4]) rfl ?_
  refine ac_putF (j := 0) (tl' := [(h0, .inr (8, [.null, .ref q1, .ref q4, .int 0, .int 0, .int 0, .int 0, .int 0])), (q1, .inr (2, [.ref q2, .ref q3, .int 0])), ac_a K 0 6 q2, ac_a K 0 6 q3, ac_a K 0 6 q4]) C dX8_init_20 ff_RX8_18 rfl rfl rfl rfl (Nat.le_of_ble_eq_true rfl) rfl ?_
  refine ac_aload_n (q := 0) C dX8_init_23 rfl ?_
  refine ac_aload_n (q := 1) C dX8_init_24 rfl ?_
  refine ac_putF (j := 0) (tl' := [(h0, .inr (8, [.ref a1, .ref q1, .ref q4, .int 0, .int 0, .int 0, .int 0, .int 0])), (q1, .inr (2, [.ref q2, .ref q3, .int 0])), ac_a K 0 6 q2, ac_a K 0 6 q3, ac_a K 0 6 q4]) C dX8_init_25 ff_RX8_22 rfl rfl rfl rfl (Nat.le_of_ble_eq_true rfl) rfl ?_
  exact ac_ret C dX8_init_28 rfl (Nat.le_of_ble_eq_true rfl) (Nat.le_of_ble_eq_true rfl) ⟨q1, q2, q3, q4, rfl⟩
theorem dX4_init_0 : decode cX4_init 0 = .ok (.aload_n 0, 1) := by decide +kernel
theorem dX4_init_1 : decode cX4_init 1 = .ok (.invokespecial 3, 3) := by decide +kernel
theorem dX4_init_4 : decode cX4_init 4 = .ok (.aload_n 0, 1) := by decide +kernel
theorem dX4_init_5 : decode cX4_init 5 = .ok (.aload_n 1, 1) := by decide +kernel
theorem dX4_init_6 : decode cX4_init 6 = .ok (.putfield 9, 3) := by decide +kernel
theorem dX4_init_9 : decode cX4_init 9 = .ok (.aload_n 0, 1) := by decide +kernel
theorem dX4_init_10 : decode cX4_init 10 = .ok (.aload_n 2, 1) := by decide +kernel
theorem dX4_init_11 : decode cX4_init 11 = .ok (.putfield 15, 3) := by decide +kernel
theorem dX4_init_14 : decode cX4_init 14 = .ok (.return_, 1) := by decide +kernel
set_option maxRecDepth 100000 in
set_option maxHeartbeats 4000000 in
theorem c_X4_init (l : Launch) (K : aw_K) (pre : va_W) (h0 a1 a2 : Nat) : ac_Met l K MX4_init 0 0 0 [.ref h0, .ref a1, .ref a2] pre [(h0, .inr (4, [.null, .null, .int 0, .int 0, .int 0, .int 0, .int 0, .int 0, .int 0]))] (fun t => t = [(h0, .inr (4, [.ref a1, .ref a2, .int 0, .int 0, .int 0, .int 0, .int 0, .int 0, .int 0]))]) := by
  refine ac_enter (by decide) (Nat.le_of_ble_eq_true rfl) (fun p e s m args below meth c C => ?_)
  show ac_AW p l e _ s m args below meth c _ K _ 0 0 0 [(0, .ref h0), (1, .ref a1), (2, .ref a2)] [] pre _
  refine ac_aload_n (q := 0) C dX4_init_0 rfl ?_
  refine ac_obj C dX4_init_1 co_RX4_3 (Nat.le_of_ble_eq_true rfl) (Nat.le_of_ble_eq_true rfl) ?_
  refine ac_aload_n (q := 0) C dX4_init_4 rfl ?_
  refine ac_aload_n (q := 1) C dX4_init_5 rfl ?_
  refine ac_putF (j := 0) (tl' := [(h0, .inr (4, [.ref a1, .null, .int 0, .int 0, .int 0, .int 0, .int 0, .int 0, .int 0]))]) C dX4_init_6 ff_RX4_9 rfl rfl rfl rfl (Nat.le_of_ble_eq_true rfl) rfl ?_
  refine ac_aload_n (q := 0) C dX4_init_9 rfl ?_
  refine ac_aload_n (q := 2) C dX4_init_10 rfl ?_
  refine ac_putF (j := 0) (tl' := [(h0, .inr (4, [.ref a1, .ref a2, .int 0, .int 0, .int 0, .int 0, .int 0, .int 0, .int 0]))]) C dX4_init_11 ff_RX4_15 rfl rfl rfl rfl (Nat.le_of_ble_eq_true rfl) rfl ?_
  exact ac_ret C dX4_init_14 rfl (Nat.le_of_ble_eq_true rfl) (Nat.le_of_ble_eq_true rfl) rfl
theorem dX5_init_0 : decode cX5_init 0 = .ok (.aload_n 0, 1) := by decide +kernel
theorem dX5_init_1 : decode cX5_init 1 = .ok (.invokespecial 3, 3) := by decide +kernel
theorem dX5_init_4 : decode cX5_init 4 = .ok (.aload_n 0, 1) := by decide +kernel
theorem dX5_init_5 : decode cX5_init 5 = .ok (.sipush 157, 3) := by decide +kernel
theorem dX5_init_8 : decode cX5_init 8 = .ok (.newarray .long, 2) := by decide +kernel
theorem dX5_init_10 : decode cX5_init 10 = .ok (.putfield 11, 3) := by decide +kernel
theorem dX5_init_13 : decode cX5_init 13 = .ok (.aload_n 0, 1) := by decide +kernel
theorem dX5_init_14 : decode cX5_init 14 = .ok (.bipush 10, 2) := by decide +kernel
theorem dX5_init_16 : decode cX5_init 16 = .ok (.newarray .int, 2) := by decide +kernel
theorem dX5_init_18 : decode cX5_init 18 = .ok (.putfield 15, 3) := by decide +kernel
theorem dX5_init_21 : decode cX5_init 21 = .ok (.aload_n 0, 1) := by decide +kernel
theorem dX5_init_22 : decode cX5_init 22 = .ok (.aload_n 1, 1) := by decide +kernel
theorem dX5_init_23 : decode cX5_init 23 = .ok (.putfield 19, 3) := by decide +kernel
theorem dX5_init_26 : decode cX5_init 26 = .ok (.aload_n 0, 1) := by decide +kernel
theorem dX5_init_27 : decode cX5_init 27 = .ok (.aload_n 2, 1) := by decide +kernel
theorem dX5_init_28 : decode cX5_init 28 = .ok (.putfield 23, 3) := by decide +kernel
theorem dX5_init_31 : decode cX5_init 31 = .ok (.return_, 1) := by decide +kernel
set_option maxRecDepth 100000 in
set_option maxHeartbeats 4000000 in
theorem c_X5_init (l : Launch) (K : aw_K) (pre : va_W) (h0 a1 a2 : Nat) : ac_Met l K MX5_init 0 2 167 [.ref h0, .ref a1, .ref a2] pre [(h0, .inr (5, [.null, .null, .null, .null, .int 0, .int 0, .int 0, .int 0]))] (fun t => ∃ q1 q2, t = [(h0, .inr (5, [.ref a1, .ref a2, .ref q1, .ref q2, .int 0, .int 0, .int 0, .int 0])), ac_l K 157 q1, ac_a K 0 10 q2]) := by
  refine ac_enter (by decide) (Nat.le_of_ble_eq_true rfl) (fun p e s m args below meth c C => ?_)
  show ac_AW p l e _ s m args below meth c _ K _ 0 0 0 [(0, .ref h0), (1, .ref a1), (2, .ref a2)] [] pre _
  refine ac_aload_n (q := 0) C dX5_init_0 rfl ?_
  refine ac_obj C dX5_init_1 co_RX5_3 (Nat.le_of_ble_eq_true rfl) (Nat.le_of_ble_eq_true rfl) ?_
  refine ac_aload_n (q := 0) C dX5_init_4 rfl ?_
  refine ac_sipush (x := 157) C dX5_init_5 (by decide) ?_
  refine ac_newa (t := 3) (n := 157) (a0 := (157, .inr (.inl (fun _ => 0)))) C dX5_init_8 rfl ca_long (by decide) rfl (fun _ => rfl) (by decide) (by decide) (by decide) (Nat.le_of_ble_eq_true rfl) (Nat.le_of_ble_eq_true rfl) (fun q1 => ?_)
  refine ac_tl (tl' := [(h0, .inr (5, [.null, .null, .null, .null, .int 0, .int 0, .int 0, .int 0])), ac_l K 157 q1]) rfl ?_
  refine ac_putF (j := 0) (tl' := [(h0, .inr (5, [.null, .null, .ref q1, .null, .int 0, .int 0, .int 0, .int 0])), ac_l K 157 q1]) C dX5_init_10 ff_RX5_11 rfl rfl rfl rfl (Nat.le_of_ble_eq_true rfl) rfl ?_
  refine ac_aload_n (q := 0) C dX5_init_13 rfl ?_
  refine ac_bipush (x := 10) C dX5_init_14 (by decide) ?_
  refine ac_newa (t := 0) (n := 10) (a0 := (10, .inl (fun _ => 0))) C dX5_init_16 rfl ca_int (by decide) rfl (fun _ => rfl) (by decide) (by decide) (by decide) (Nat.le_of_ble_eq_true rfl) (Nat.le_of_ble_eq_true rfl) (fun q2 => ?_)
  refine ac_tl (tl' := [(h0, .inr (5, [.null, .null, .ref q1, .null, .int 0, .int 0, .int 0, .int 0])), ac_l K 157 q1, ac_a K 0 10 q2]) rfl ?_
  refine ac_putF (j := 0) (tl' := [(h0, .inr (5, [.null, .null, .ref q1, .ref q2, .int 0, .int 0, .int 0, .int 0])), ac_l K 157 q1, ac_a K 0 10 q2]) C dX5_init_18 ff_RX5_15 rfl rfl rfl rfl (Nat.le_of_ble_eq_true rfl) rfl ?_
  refine ac_aload_n (q := 0) C dX5_init_21 rfl ?_
  refine ac_aload_n (q := 1) C dX5_init_22 rfl ?_
  refine ac_putF (j := 0) (tl' := [(h0, .inr (5, [.ref a1, .null, .ref q1, .ref q2, .int 0, .int 0, .int 0, .int 0])), ac_l K 157 q1, ac_a K 0 10 q2]) C dX5_init_23 ff_RX5_19 rfl rfl rfl rfl (Nat.le_of_ble_eq_true rfl) rfl ?_
  refine ac_aload_n (q := 0) C dX5_init_26 rfl ?_
  refine ac_aload_n (q := 2) C dX5_init_27 rfl ?_
  refine ac_putF (j := 0) (tl' := [(h0, .inr (5, [.ref a1, .ref a2, .ref q1, .ref q2, .int 0, .int 0, .int 0, .int 0])), ac_l K 157 q1, ac_a K 0 10 q2]) C dX5_init_28 ff_RX5_23 rfl rfl rfl rfl (Nat.le_of_ble_eq_true rfl) rfl ?_
  exact ac_ret C dX5_init_31 rfl (Nat.le_of_ble_eq_true rfl) (Nat.le_of_ble_eq_true rfl) ⟨q1, q2, rfl⟩
theorem dX3_init_0 : decode cX3_init 0 = .ok (.aload_n 0, 1) := by decide +kernel
theorem dX3_init_1 : decode cX3_init 1 = .ok (.invokespecial 3, 3) := by decide +kernel
theorem dX3_init_4 : decode cX3_init 4 = .ok (.aload_n 0, 1) := by decide +kernel
theorem dX3_init_5 : decode cX3_init 5 = .ok (.new 9, 3) := by decide +kernel
theorem dX3_init_8 : decode cX3_init 8 = .ok (.dup, 1) := by decide +kernel
theorem dX3_init_9 : decode cX3_init 9 = .ok (.invokespecial 11, 3) := by decide +kernel
theorem dX3_init_12 : decode cX3_init 12 = .ok (.putfield 12, 3) := by decide +kernel
theorem dX3_init_15 : decode cX3_init 15 = .ok (.aload_n 0, 1) := by decide +kernel
theorem dX3_init_16 : decode cX3_init 16 = .ok (.bipush 6, 2) := by decide +kernel
theorem dX3_init_18 : decode cX3_init 18 = .ok (.newarray .int, 2) := by decide +kernel
theorem dX3_init_20 : decode cX3_init 20 = .ok (.putfield 18, 3) := by decide +kernel
theorem dX3_init_23 : decode cX3_init 23 = .ok (.aload_n 0, 1) := by decide +kernel
theorem dX3_init_24 : decode cX3_init 24 = .ok (.bipush 6, 2) := by decide +kernel
theorem dX3_init_26 : decode cX3_init 26 = .ok (.newarray .int, 2) := by decide +kernel
theorem dX3_init_28 : decode cX3_init 28 = .ok (.putfield 22, 3) := by decide +kernel
theorem dX3_init_31 : decode cX3_init 31 = .ok (.aload_n 0, 1) := by decide +kernel
theorem dX3_init_32 : decode cX3_init 32 = .ok (.bipush 6, 2) := by decide +kernel
theorem dX3_init_34 : decode cX3_init 34 = .ok (.newarray .int, 2) := by decide +kernel
theorem dX3_init_36 : decode cX3_init 36 = .ok (.putfield 25, 3) := by decide +kernel
theorem dX3_init_39 : decode cX3_init 39 = .ok (.aload_n 0, 1) := by decide +kernel
theorem dX3_init_40 : decode cX3_init 40 = .ok (.bipush 6, 2) := by decide +kernel
theorem dX3_init_42 : decode cX3_init 42 = .ok (.newarray .int, 2) := by decide +kernel
theorem dX3_init_44 : decode cX3_init 44 = .ok (.putfield 28, 3) := by decide +kernel
theorem dX3_init_47 : decode cX3_init 47 = .ok (.aload_n 0, 1) := by decide +kernel
theorem dX3_init_48 : decode cX3_init 48 = .ok (.aload_n 1, 1) := by decide +kernel
theorem dX3_init_49 : decode cX3_init 49 = .ok (.putfield 31, 3) := by decide +kernel
theorem dX3_init_52 : decode cX3_init 52 = .ok (.aload_n 0, 1) := by decide +kernel
theorem dX3_init_53 : decode cX3_init 53 = .ok (.aload_n 2, 1) := by decide +kernel
theorem dX3_init_54 : decode cX3_init 54 = .ok (.putfield 35, 3) := by decide +kernel
theorem dX3_init_57 : decode cX3_init 57 = .ok (.return_, 1) := by decide +kernel
set_option maxRecDepth 100000 in
set_option maxHeartbeats 4000000 in
theorem c_X3_init (l : Launch) (K : aw_K) (pre : va_W) (h0 a1 a2 : Nat) : ac_Met l K MX3_init 1 7 39 [.ref h0, .ref a1, .ref a2] pre [(h0, .inr (3, [.null, .null, .null, .null, .null, .null, .null, .int 0, .int 0]))] (fun t => ∃ q1 q2 q3 q4 q5 q6 q7, t = [(h0, .inr (3, [.ref a1, .ref a2, .ref q1, .ref q4, .ref q5, .ref q6, .ref q7, .int 0, .int 0])), (q1, .inr (2, [.ref q2, .ref q3, .int 0])), ac_a K 0 6 q2, ac_a K 0 6 q3, ac_a K 0 6 q4, ac_a K 0 6 q5, ac_a K 0 6 q6, ac_a K 0 6 q7]) := by
  refine ac_enter (by decide) (Nat.le_of_ble_eq_true rfl) (fun p e s m args below meth c C => ?_)
  show ac_AW p l e _ s m args below meth c _ K _ 0 0 0 [(0, .ref h0), (1, .ref a1), (2, .ref a2)] [] pre _
  refine ac_aload_n (q := 0) C dX3_init_0 rfl ?_
  refine ac_obj C dX3_init_1 co_RX3_3 (Nat.le_of_ble_eq_true rfl) (Nat.le_of_ble_eq_true rfl) ?_
  refine ac_aload_n (q := 0) C dX3_init_4 rfl ?_
  refine ac_new C dX3_init_5 ce_RX3_9 (Nat.le_of_ble_eq_true rfl) (Nat.le_of_ble_eq_true rfl) (fun q1 => ?_)
  refine ac_tl (tl' := [(h0, .inr (3, [.null, .null, .null, .null, .null, .null, .null, .int 0, .int 0])), (q1, .inr (2, [.null, .null, .int 0]))]) rfl ?_
  refine ac_dup C dX3_init_8 ?_
  refine ac_call (d := 0) (mc := 2) (ms := 12) (tl0 := [(h0, .inr (3, [.null, .null, .null, .null, .null, .null, .null, .int 0, .int 0]))]) (x := (q1, .inr (2, [.null, .null, .int 0]))) (As := []) (rest := [.ref q1, .ref h0]) C dX3_init_9 ck_RX3_11 rfl rfl (Nat.le_of_ble_eq_true rfl) (Nat.le_of_ble_eq_true rfl) (Nat.le_of_ble_eq_true rfl) (Nat.le_of_ble_eq_true rfl) (Nat.le_of_ble_eq_true rfl) rfl (c_X2_init _ K  _ q1 ) (fun t1 hp => ?_)
  obtain ⟨q2, q3, rfl⟩ := hp
  refine ac_tl (tl' := [(h0, .inr (3, [.null, .null, .null, .null, .null, .null, .null, .int 0, .int 0])), (q1, .inr (2, [.ref q2, .ref q3, .int 0])), ac_a K 0 6 q2, ac_a K 0 6 q3]) rfl ?_
  refine ac_putF (j := 0) (tl' := [(h0, .inr (3, [.null, .null, .ref q1, .null, .null, .null, .null, .int 0, .int 0])), (q1, .inr (2, [.ref q2, .ref q3, .int 0])), ac_a K 0 6 q2, ac_a K 0 6 q3]) C dX3_init_12 ff_RX3_12 rfl rfl rfl rfl (Nat.le_of_ble_eq_true rfl) rfl ?_
  refine ac_aload_n (q := 0) C dX3_init_15 rfl ?_
  refine ac_bipush (x := 6) C dX3_init_16 (by decide) ?_
  refine ac_newa (t := 0) (n := 6) (a0 := (6, .inl (fun _ => 0))) C dX3_init_18 rfl ca_int (by decide) rfl (fun _ => rfl) (by decide) (by decide) (by decide) (Nat.le_of_ble_eq_true rfl) (Nat.le_of_ble_eq_true rfl) (fun q4 => ?_)
  refine ac_tl (tl' := [(h0, .inr (3, [.null, .null, .ref q1, .null, .null, .null, .null, .int 0, .int 0])), (q1, .inr (2, [.ref q2, .ref q3, .int 0])), ac_a K 0 6 q2, ac_a K 0 6 q3, ac_a K 0 6 q4]) rfl ?_
  refine ac_putF (j := 0) (tl' := [(h0, .inr (3, [.null, .null, .ref q1, .ref q4, .null, .null, .null, .int 0, .int 0])), (q1, .inr (2, [.ref q2, .ref q3, .int 0])), ac_a K 0 6 q2, ac_a K 0 6 q3, ac_a K 0 6 q4]) C dX3_init_20 ff_RX3_18 rfl rfl rfl rfl (Nat.le_of_ble_eq_true rfl) rfl ?_
  refine ac_aload_n (q := 0) C dX3_init_23 rfl ?_
  refine ac_bipush (x := 6) C dX3_init_24 (by decide) ?_
  refine ac_newa (t := 0) (n := 6) (a0 := (6, .inl (fun _ => 0))) C dX3_init_26 rfl ca_int (by decide) rfl (fun _ => rfl) (by decide) (by decide) (by decide) (Nat.le_of_ble_eq_true rfl) (Nat.le_of_ble_eq_true rfl) (fun q5 => ?_)
  refine ac_tl (tl' := [(h0, .inr (3, [.null, .null, .ref q1, .ref q4, .null, .null, .null, .int 0, .int 0])), (q1, .inr (2, [.ref q2, .ref q3, .int 0])), ac_a K 0 6 q2, ac_a K 0 6 q3, ac_a K 0 6 q4, ac_a K 0 6 q5]) rfl ?_
  refine ac_putF (j := 0) (tl' := [(h0, .inr (3, [.null, .null, .ref q1, .ref q4, .ref q5, .null, .null, .int 0, .int 0])), (q1, .inr (2, [.ref q2, .ref q3, .int 0])), ac_a K 0 6 q2, ac_a K 0 6 q3, ac_a K 0 6 q4, ac_a K 0 6 q5]) C dX3_init_28 ff_RX3_22 rfl rfl rfl rfl (Nat.le_of_ble_eq_true rfl) rfl ?_
  refine ac_aload_n (q := 0) C dX3_init_31 rfl ?_
  refine ac_bipush (x := 6) C dX3_init_32 (by decide) ?_
  refine ac_newa (t := 0) (n := 6) (a0 := (6, .inl (fun _ => 0))) C dX3_init_34 rfl ca_int (by decide) rfl (fun _ => rfl) (by decide) (by decide) (by decide) (Nat.le_of_ble_eq_true rfl) (Nat.le_of_ble_eq_true rfl) (fun q6 => ?_)
  refine ac_tl (tl' := [(h0, .inr (3, [.null, .null, .ref q1, .ref q4, .ref q5, .null, .null, .int 0, .int 0])), (q1, .inr (2, [.ref q2, .ref q3, .int 0])), ac_a K 0 6 q2, ac_a K 0 6 q3, ac_a K 0 6 q4, ac_a K 0 6 q5, ac_a K 0 6 q6]) rfl ?_
  refine ac_putF (j := 0) (tl' := [(h0, .inr (3, [.null, .null, .ref q1, .ref q4, .ref q5, .ref q6, .null, .int 0, .int 0])), (q1, .inr (2, [.ref q2, .ref q3, .int 0])), ac_a K 0 6 q2, ac_a K 0 6 q3, ac_a K 0 6 q4, ac_a K 0 6 q5, ac_a K 0 6 q6]) C dX3_init_36 ff_RX3_25 rfl rfl rfl rfl (Nat.le_of_ble_eq_true rfl) rfl ?_
  refine ac_aload_n (q := 0) C dX3_init_39 rfl ?_
  refine ac_bipush (x := 6) C dX3_init_40 (by decide) ?_
  refine ac_newa (t := 0) (n := 6) (a0 := (6, .inl (fun _ => 0))) C dX3_init_42 rfl ca_int (by decide) rfl (fun _ => rfl) (by decide) (by decide) (by decide) (Nat.le_of_ble_eq_true rfl) (Nat.le_of_ble_eq_true rfl) (fun q7 => ?_)
  refine ac_tl (tl' := [(h0, .inr (3, [.null, .null, .ref q1, .ref q4, .ref q5, .ref q6, .null, .int 0, .int 0])), (q1, .inr (2, [.ref q2, .ref q3, .int 0])), ac_a K 0 6 q2, ac_a K 0 6 q3, ac_a K 0 6 q4, ac_a K 0 6 q5, ac_a K 0 6 q6, ac_a K 0 6 q7]) rfl ?_
  refine ac_putF (j := 0) (tl' := [(h0, .inr (3, [.null, .null, .ref q1, .ref q4, .ref q5, .ref q6, .ref q7, .int 0, .int 0])), (q1, .inr (2, [.ref q2, .ref q3, .int 0])), ac_a K 0 6 q2, ac_a K 0 6 q3, ac_a K 0 6 q4, ac_a K 0 6 q5, ac_a K 0 6 q6, ac_a K 0 6 q7]) C dX3_init_44 ff_RX3_28 rfl rfl rfl rfl (Nat.le_of_ble_eq_true rfl) rfl ?_
  refine ac_aload_n (q := 0) C dX3_init_47 rfl ?_
  refine ac_aload_n (q := 1) C dX3_init_48 rfl ?_
  refine ac_putF (j := 0) (tl' := [(h0, .inr (3, [.ref a1, .null, .ref q1, .ref q4, .ref q5, .ref q6, .ref q7, .int 0, .int 0])), (q1, .inr (2, [.ref q2, .ref q3, .int 0])), ac_a K 0 6 q2, ac_a K 0 6 q3, ac_a K 0 6 q4, ac_a K 0 6 q5, ac_a K 0 6 q6, ac_a K 0 6 q7]) C dX3_init_49 ff_RX3_31 rfl rfl rfl rfl (Nat.le_of_ble_eq_true rfl) rfl ?_
  refine ac_aload_n (q := 0) C dX3_init_52 rfl ?_
  refine ac_aload_n (q := 2) C dX3_init_53 rfl ?_
  refine ac_putF (j := 0) (tl' := [(h0, .inr (3, [.ref a1, .ref a2, .ref q1, .ref q4, .ref q5, .ref q6, .ref q7, .int 0, .int 0])), (q1, .inr (2, [.ref q2, .ref q3, .int 0])), ac_a K 0 6 q2, ac_a K 0 6 q3, ac_a K 0 6 q4, ac_a K 0 6 q5, ac_a K 0 6 q6, ac_a K 0 6 q7]) C dX3_init_54 ff_RX3_35 rfl rfl rfl rfl (Nat.le_of_ble_eq_true rfl) rfl ?_
  exact ac_ret C dX3_init_57 rfl (Nat.le_of_ble_eq_true rfl) (Nat.le_of_ble_eq_true rfl) ⟨q1, q2, q3, q4, q5, q6, q7, rfl⟩
theorem dX10_init_0 : decode cX10_init 0 = .ok (.aload_n 0, 1) := by decide +kernel
theorem dX10_init_1 : decode cX10_init 1 = .ok (.invokespecial 3, 3) := by decide +kernel
theorem dX10_init_4 : decode cX10_init 4 = .ok (.aload_n 0, 1) := by decide +kernel
theorem dX10_init_5 : decode cX10_init 5 = .ok (.bipush 64, 2) := by decide +kernel
theorem dX10_init_7 : decode cX10_init 7 = .ok (.newarray .int, 2) := by decide +kernel
theorem dX10_init_9 : decode cX10_init 9 = .ok (.putfield 9, 3) := by decide +kernel
theorem dX10_init_12 : decode cX10_init 12 = .ok (.aload_n 0, 1) := by decide +kernel
theorem dX10_init_13 : decode cX10_init 13 = .ok (.bipush 60, 2) := by decide +kernel
theorem dX10_init_15 : decode cX10_init 15 = .ok (.newarray .long, 2) := by decide +kernel
theorem dX10_init_17 : decode cX10_init 17 = .ok (.putfield 15, 3) := by decide +kernel
theorem dX10_init_20 : decode cX10_init 20 = .ok (.aload_n 0, 1) := by decide +kernel
theorem dX10_init_21 : decode cX10_init 21 = .ok (.bipush 60, 2) := by decide +kernel
theorem dX10_init_23 : decode cX10_init 23 = .ok (.newarray .int, 2) := by decide +kernel
theorem dX10_init_25 : decode cX10_init 25 = .ok (.putfield 19, 3) := by decide +kernel
theorem dX10_init_28 : decode cX10_init 28 = .ok (.aload_n 0, 1) := by decide +kernel
theorem dX10_init_29 : decode cX10_init 29 = .ok (.bipush 60, 2) := by decide +kernel
theorem dX10_init_31 : decode cX10_init 31 = .ok (.newarray .boolean, 2) := by decide +kernel
theorem dX10_init_33 : decode cX10_init 33 = .ok (.putfield 22, 3) := by decide +kernel
theorem dX10_init_36 : decode cX10_init 36 = .ok (.aload_n 0, 1) := by decide +kernel
theorem dX10_init_37 : decode cX10_init 37 = .ok (.aload_n 1, 1) := by decide +kernel
theorem dX10_init_38 : decode cX10_init 38 = .ok (.putfield 26, 3) := by decide +kernel
theorem dX10_init_41 : decode cX10_init 41 = .ok (.return_, 1) := by decide +kernel
set_option maxRecDepth 100000 in
set_option maxHeartbeats 4000000 in
theorem c_X10_init (l : Launch) (K : aw_K) (pre : va_W) (h0 a1 : Nat) : ac_Met l K MX10_init 0 4 244 [.ref h0, .ref a1] pre [(h0, .inr (10, [.null, .null, .null, .null, .null]))] (fun t => ∃ q1 q2 q3 q4, t = [(h0, .inr (10, [.ref a1, .ref q1, .ref q2, .ref q3, .ref q4])), ac_a K 0 64 q1, ac_l K 60 q2, ac_a K 0 60 q3, ac_a K 2 60 q4]) := by
  refine ac_enter (by decide) (Nat.le_of_ble_eq_true rfl) (fun p e s m args below meth c C => ?_)
  show ac_AW p l e _ s m args below meth c _ K _ 0 0 0 [(0, .ref h0), (1, .ref a1)] [] pre _
  refine ac_aload_n (q := 0) C dX10_init_0 rfl ?_
  refine ac_obj C dX10_init_1 co_RX10_3 (Nat.le_of_ble_eq_true rfl) (Nat.le_of_ble_eq_true rfl) ?_
  refine ac_aload_n (q := 0) C dX10_init_4 rfl ?_
  refine ac_bipush (x := 64) C dX10_init_5 (by decide) ?_
  refine ac_newa (t := 0) (n := 64) (a0 := (64, .inl (fun _ => 0))) C dX10_init_7 rfl ca_int (by decide) rfl (fun _ => rfl) (by decide) (by decide) (by decide) (Nat.le_of_ble_eq_true rfl) (Nat.le_of_ble_eq_true rfl) (fun q1 => ?_)
  refine ac_tl (tl' := [(h0, .inr (10, [.null, .null, .null, .null, .null])), ac_a K 0 64 q1]) rfl ?_
  refine ac_putF (j := 0) (tl' := [(h0, .inr (10, [.null, .ref q1, .null, .null, .null])), ac_a K 0 64 q1]) C dX10_init_9 ff_RX10_9 rfl rfl rfl rfl (Nat.le_of_ble_eq_true rfl) rfl ?_
  refine ac_aload_n (q := 0) C dX10_init_12 rfl ?_
  refine ac_bipush (x := 60) C dX10_init_13 (by decide) ?_
  refine ac_newa (t := 3) (n := 60) (a0 := (60, .inr (.inl (fun _ => 0)))) C dX10_init_15 rfl ca_long (by decide) rfl (fun _ => rfl) (by decide) (by decide) (by decide) (Nat.le_of_ble_eq_true rfl) (Nat.le_of_ble_eq_true rfl) (fun q2 => ?_)
  refine ac_tl (tl' := [(h0, .inr (10, [.null, .ref q1, .null, .null, .null])), ac_a K 0 64 q1, ac_l K 60 q2]) rfl ?_
  refine ac_putF (j := 0) (tl' := [(h0, .inr (10, [.null, .ref q1, .ref q2, .null, .null])), ac_a K 0 64 q1, ac_l K 60 q2]) C dX10_init_17 ff_RX10_15 rfl rfl rfl rfl (Nat.le_of_ble_eq_true rfl) rfl ?_
  refine ac_aload_n (q := 0) C dX10_init_20 rfl ?_
  refine ac_bipush (x := 60) C dX10_init_21 (by decide) ?_
  refine ac_newa (t := 0) (n := 60) (a0 := (60, .inl (fun _ => 0))) C dX10_init_23 rfl ca_int (by decide) rfl (fun _ => rfl) (by decide) (by decide) (by decide) (Nat.le_of_ble_eq_true rfl) (Nat.le_of_ble_eq_true rfl) (fun q3 => ?_)
  refine ac_tl (tl' := [(h0, .inr (10, [.null, .ref q1, .ref q2, .null, .null])), ac_a K 0 64 q1, ac_l K 60 q2, ac_a K 0 60 q3]) rfl ?_
  refine ac_putF (j := 0) (tl' := [(h0, .inr (10, [.null, .ref q1, .ref q2, .ref q3, .null])), ac_a K 0 64 q1, ac_l K 60 q2, ac_a K 0 60 q3]) C dX10_init_25 ff_RX10_19 rfl rfl rfl rfl (Nat.le_of_ble_eq_true rfl) rfl ?_
  refine ac_aload_n (q := 0) C dX10_init_28 rfl ?_
  refine ac_bipush (x := 60) C dX10_init_29 (by decide) ?_
  refine ac_newa (t := 2) (n := 60) (a0 := (60, .inl (fun _ => 0))) C dX10_init_31 rfl ca_boolean (by decide) rfl (fun _ => rfl) (by decide) (by decide) (by decide) (Nat.le_of_ble_eq_true rfl) (Nat.le_of_ble_eq_true rfl) (fun q4 => ?_)
  refine ac_tl (tl' := [(h0, .inr (10, [.null, .ref q1, .ref q2, .ref q3, .null])), ac_a K 0 64 q1, ac_l K 60 q2, ac_a K 0 60 q3, ac_a K 2 60 q4]) rfl ?_
  refine ac_putF (j := 0) (tl' := [(h0, .inr (10, [.null, .ref q1, .ref q2, .ref q3, .ref q4])), ac_a K 0 64 q1, ac_l K 60 q2, ac_a K 0 60 q3, ac_a K 2 60 q4]) C dX10_init_33 ff_RX10_22 rfl rfl rfl rfl (Nat.le_of_ble_eq_true rfl) rfl ?_
  refine ac_aload_n (q := 0) C dX10_init_36 rfl ?_
  refine ac_aload_n (q := 1) C dX10_init_37 rfl ?_
  refine ac_putF (j := 0) (tl' := [(h0, .inr (10, [.ref a1, .ref q1, .ref q2, .ref q3, .ref q4])), ac_a K 0 64 q1, ac_l K 60 q2, ac_a K 0 60 q3, ac_a K 2 60 q4]) C dX10_init_38 ff_RX10_26 rfl rfl rfl rfl (Nat.le_of_ble_eq_true rfl) rfl ?_
  exact ac_ret C dX10_init_41 rfl (Nat.le_of_ble_eq_true rfl) (Nat.le_of_ble_eq_true rfl) ⟨q1, q2, q3, q4, rfl⟩
theorem dX6_init_0 : decode cX6_init 0 = .ok (.aload_n 0, 1) := by decide +kernel
theorem dX6_init_1 : decode cX6_init 1 = .ok (.invokespecial 3, 3) := by decide +kernel
theorem dX6_init_4 : decode cX6_init 4 = .ok (.aload_n 0, 1) := by decide +kernel
theorem dX6_init_5 : decode cX6_init 5 = .ok (.bipush 6, 2) := by decide +kernel
theorem dX6_init_7 : decode cX6_init 7 = .ok (.newarray .int, 2) := by decide +kernel
theorem dX6_init_9 : decode cX6_init 9 = .ok (.putfield 9, 3) := by decide +kernel
theorem dX6_init_12 : decode cX6_init 12 = .ok (.aload_n 0, 1) := by decide +kernel
theorem dX6_init_13 : decode cX6_init 13 = .ok (.aload_n 1, 1) := by decide +kernel
theorem dX6_init_14 : decode cX6_init 14 = .ok (.putfield 15, 3) := by decide +kernel
theorem dX6_init_17 : decode cX6_init 17 = .ok (.aload_n 0, 1) := by decide +kernel
theorem dX6_init_18 : decode cX6_init 18 = .ok (.aload_n 2, 1) := by decide +kernel
theorem dX6_init_19 : decode cX6_init 19 = .ok (.putfield 19, 3) := by decide +kernel
theorem dX6_init_22 : decode cX6_init 22 = .ok (.return_, 1) := by decide +kernel
set_option maxRecDepth 100000 in
set_option maxHeartbeats 4000000 in
theorem c_X6_init (l : Launch) (K : aw_K) (pre : va_W) (h0 a1 a2 : Nat) : ac_Met l K MX6_init 0 1 6 [.ref h0, .ref a1, .ref a2] pre [(h0, .inr (6, [.null, .null, .null, .int 0, .int 0]))] (fun t => ∃ q1, t = [(h0, .inr (6, [.ref a1, .ref a2, .ref q1, .int 0, .int 0])), ac_a K 0 6 q1]) := by
  refine ac_enter (by decide) (Nat.le_of_ble_eq_true rfl) (fun p e s m args below meth c C => ?_)
  show ac_AW p l e _ s m args below meth c _ K _ 0 0 0 [(0, .ref h0), (1, .ref a1), (2, .ref a2)] [] pre _
  refine ac_aload_n (q := 0) C dX6_init_0 rfl ?_
  refine ac_obj C dX6_init_1 co_RX6_3 (Nat.le_of_ble_eq_true rfl) (Nat.le_of_ble_eq_true rfl) ?_
  refine ac_aload_n (q := 0) C dX6_init_4 rfl ?_
  refine ac_bipush (x := 6) C dX6_init_5 (by decide) ?_
  refine ac_newa (t := 0) (n := 6) (a0 := (6, .inl (fun _ => 0))) C dX6_init_7 rfl ca_int (by decide) rfl (fun _ => rfl) (by decide) (by decide) (by decide) (Nat.le_of_ble_eq_true rfl) (Nat.le_of_ble_eq_true rfl) (fun q1 => ?_)
  refine ac_tl (tl' := [(h0, .inr (6, [.null, .null, .null, .int 0, .int 0])), ac_a K 0 6 q1]) rfl ?_
  refine ac_putF (j := 0) (tl' := [(h0, .inr (6, [.null, .null, .ref q1, .int 0, .int 0])), ac_a K 0 6 q1]) C dX6_init_9 ff_RX6_9 rfl rfl rfl rfl (Nat.le_of_ble_eq_true rfl) rfl ?_
  refine ac_aload_n (q := 0) C dX6_init_12 rfl ?_
  refine ac_aload_n (q := 1) C dX6_init_13 rfl ?_
  refine ac_putF (j := 0) (tl' := [(h0, .inr (6, [.ref a1, .null, .ref q1, .int 0, .int 0])), ac_a K 0 6 q1]) C dX6_init_14 ff_RX6_15 rfl rfl rfl rfl (Nat.le_of_ble_eq_true rfl) rfl ?_
  refine ac_aload_n (q := 0) C dX6_init_17 rfl ?_
  refine ac_aload_n (q := 2) C dX6_init_18 rfl ?_
  refine ac_putF (j := 0) (tl' := [(h0, .inr (6, [.ref a1, .ref a2, .ref q1, .int 0, .int 0])), ac_a K 0 6 q1]) C dX6_init_19 ff_RX6_19 rfl rfl rfl rfl (Nat.le_of_ble_eq_true rfl) rfl ?_
  exact ac_ret C dX6_init_22 rfl (Nat.le_of_ble_eq_true rfl) (Nat.le_of_ble_eq_true rfl) ⟨q1, rfl⟩
theorem dX0_init_0 : decode cX0_init 0 = .ok (.aload_n 0, 1) := by decide +kernel
theorem dX0_init_1 : decode cX0_init 1 = .ok (.invokespecial 3, 3) := by decide +kernel
theorem dX0_init_4 : decode cX0_init 4 = .ok (.aload_n 0, 1) := by decide +kernel
theorem dX0_init_5 : decode cX0_init 5 = .ok (.bipush 40, 2) := by decide +kernel
theorem dX0_init_7 : decode cX0_init 7 = .ok (.newarray .int, 2) := by decide +kernel
theorem dX0_init_9 : decode cX0_init 9 = .ok (.putfield 9, 3) := by decide +kernel
theorem dX0_init_12 : decode cX0_init 12 = .ok (.aload_n 0, 1) := by decide +kernel
theorem dX0_init_13 : decode cX0_init 13 = .ok (.bipush 60, 2) := by decide +kernel
theorem dX0_init_15 : decode cX0_init 15 = .ok (.newarray .int, 2) := by decide +kernel
theorem dX0_init_17 : decode cX0_init 17 = .ok (.putfield 15, 3) := by decide +kernel
theorem dX0_init_20 : decode cX0_init 20 = .ok (.aload_n 0, 1) := by decide +kernel
theorem dX0_init_21 : decode cX0_init 21 = .ok (.aload_n 1, 1) := by decide +kernel
theorem dX0_init_22 : decode cX0_init 22 = .ok (.putfield 18, 3) := by decide +kernel
theorem dX0_init_25 : decode cX0_init 25 = .ok (.aload_n 0, 1) := by decide +kernel
theorem dX0_init_26 : decode cX0_init 26 = .ok (.aload_n 2, 1) := by decide +kernel
theorem dX0_init_27 : decode cX0_init 27 = .ok (.putfield 22, 3) := by decide +kernel
theorem dX0_init_30 : decode cX0_init 30 = .ok (.return_, 1) := by decide +kernel
set_option maxRecDepth 100000 in
set_option maxHeartbeats 4000000 in
theorem c_X0_init (l : Launch) (K : aw_K) (pre : va_W) (h0 a1 a2 : Nat) : ac_Met l K MX0_init 0 2 100 [.ref h0, .ref a1, .ref a2] pre [(h0, .inr (0, [.null, .null, .null, .null, .int 0]))] (fun t => ∃ q1 q2, t = [(h0, .inr (0, [.ref a1, .ref a2, .ref q1, .ref q2, .int 0])), ac_a K 0 40 q1, ac_a K 0 60 q2]) := by
  refine ac_enter (by decide) (Nat.le_of_ble_eq_true rfl) (fun p e s m args below meth c C => ?_)
  show ac_AW p l e _ s m args below meth c _ K _ 0 0 0 [(0, .ref h0), (1, .ref a1), (2, .ref a2)] [] pre _
  refine ac_aload_n (q := 0) C dX0_init_0 rfl ?_
  refine ac_obj C dX0_init_1 co_RX0_3 (Nat.le_of_ble_eq_true rfl) (Nat.le_of_ble_eq_true rfl) ?_
  refine ac_aload_n (q := 0) C dX0_init_4 rfl ?_
  refine ac_bipush (x := 40) C dX0_init_5 (by decide) ?_
  refine ac_newa (t := 0) (n := 40) (a0 := (40, .inl (fun _ => 0))) C dX0_init_7 rfl ca_int (by decide) rfl (fun _ => rfl) (by decide) (by decide) (by decide) (Nat.le_of_ble_eq_true rfl) (Nat.le_of_ble_eq_true rfl) (fun q1 => ?_)
  refine ac_tl (tl' := [(h0, .inr (0, [.null, .null, .null, .null, .int 0])), ac_a K 0 40 q1]) rfl ?_
  refine ac_putF (j := 0) (tl' := [(h0, .inr (0, [.null, .null, .ref q1, .null, .int 0])), ac_a K 0 40 q1]) C dX0_init_9 ff_RX0_9 rfl rfl rfl rfl (Nat.le_of_ble_eq_true rfl) rfl ?_
  refine ac_aload_n (q := 0) C dX0_init_12 rfl ?_
  refine ac_bipush (x := 60) C dX0_init_13 (by decide) ?_
  refine ac_newa (t := 0) (n := 60) (a0 := (60, .inl (fun _ => 0))) C dX0_init_15 rfl ca_int (by decide) rfl (fun _ => rfl) (by decide) (by decide) (by decide) (Nat.le_of_ble_eq_true rfl) (Nat.le_of_ble_eq_true rfl) (fun q2 => ?_)
  refine ac_tl (tl' := [(h0, .inr (0, [.null, .null, .ref q1, .null, .int 0])), ac_a K 0 40 q1, ac_a K 0 60 q2]) rfl ?_
  refine ac_putF (j := 0) (tl' := [(h0, .inr (0, [.null, .null, .ref q1, .ref q2, .int 0])), ac_a K 0 40 q1, ac_a K 0 60 q2]) C dX0_init_17 ff_RX0_15 rfl rfl rfl rfl (Nat.le_of_ble_eq_true rfl) rfl ?_
  refine ac_aload_n (q := 0) C dX0_init_20 rfl ?_
  refine ac_aload_n (q := 1) C dX0_init_21 rfl ?_
  refine ac_putF (j := 0) (tl' := [(h0, .inr (0, [.ref a1, .null, .ref q1, .ref q2, .int 0])), ac_a K 0 40 q1, ac_a K 0 60 q2]) C dX0_init_22 ff_RX0_18 rfl rfl rfl rfl (Nat.le_of_ble_eq_true rfl) rfl ?_
  refine ac_aload_n (q := 0) C dX0_init_25 rfl ?_
  refine ac_aload_n (q := 2) C dX0_init_26 rfl ?_
  refine ac_putF (j := 0) (tl' := [(h0, .inr (0, [.ref a1, .ref a2, .ref q1, .ref q2, .int 0])), ac_a K 0 40 q1, ac_a K 0 60 q2]) C dX0_init_27 ff_RX0_22 rfl rfl rfl rfl (Nat.le_of_ble_eq_true rfl) rfl ?_
  exact ac_ret C dX0_init_30 rfl (Nat.le_of_ble_eq_true rfl) (Nat.le_of_ble_eq_true rfl) ⟨q1, q2, rfl⟩
