theorem dJ6_bitCount_0f7a4_0 : decode cJ6_bitCount_0f7a4 0 = .ok (.iload_n 0, 1) := by decide +kernel
theorem dJ6_bitCount_0f7a4_1 : decode cJ6_bitCount_0f7a4 1 = .ok (.iload_n 0, 1) := by decide +kernel
theorem dJ6_bitCount_0f7a4_2 : decode cJ6_bitCount_0f7a4 2 = .ok (.iconst 1, 1) := by decide +kernel
theorem dJ6_bitCount_0f7a4_3 : decode cJ6_bitCount_0f7a4 3 = .ok (.iushr, 1) := by decide +kernel
theorem dJ6_bitCount_0f7a4_4 : decode cJ6_bitCount_0f7a4 4 = .ok (.ldc_w 265, 3) := by decide +kernel
theorem dJ6_bitCount_0f7a4_7 : decode cJ6_bitCount_0f7a4 7 = .ok (.iand, 1) := by decide +kernel
theorem dJ6_bitCount_0f7a4_8 : decode cJ6_bitCount_0f7a4 8 = .ok (.isub, 1) := by decide +kernel
theorem dJ6_bitCount_0f7a4_9 : decode cJ6_bitCount_0f7a4 9 = .ok (.istore_n 0, 1) := by decide +kernel
theorem dJ6_bitCount_0f7a4_10 : decode cJ6_bitCount_0f7a4 10 = .ok (.iload_n 0, 1) := by decide +kernel
theorem dJ6_bitCount_0f7a4_11 : decode cJ6_bitCount_0f7a4 11 = .ok (.ldc_w 266, 3) := by decide +kernel
theorem dJ6_bitCount_0f7a4_14 : decode cJ6_bitCount_0f7a4 14 = .ok (.iand, 1) := by decide +kernel
theorem dJ6_bitCount_0f7a4_15 : decode cJ6_bitCount_0f7a4 15 = .ok (.iload_n 0, 1) := by decide +kernel
theorem dJ6_bitCount_0f7a4_16 : decode cJ6_bitCount_0f7a4 16 = .ok (.iconst 2, 1) := by decide +kernel
theorem dJ6_bitCount_0f7a4_17 : decode cJ6_bitCount_0f7a4 17 = .ok (.iushr, 1) := by decide +kernel
theorem dJ6_bitCount_0f7a4_18 : decode cJ6_bitCount_0f7a4 18 = .ok (.ldc_w 266, 3) := by decide +kernel
theorem dJ6_bitCount_0f7a4_21 : decode cJ6_bitCount_0f7a4 21 = .ok (.iand, 1) := by decide +kernel
theorem dJ6_bitCount_0f7a4_22 : decode cJ6_bitCount_0f7a4 22 = .ok (.iadd, 1) := by decide +kernel
theorem dJ6_bitCount_0f7a4_23 : decode cJ6_bitCount_0f7a4 23 = .ok (.istore_n 0, 1) := by decide +kernel
theorem dJ6_bitCount_0f7a4_24 : decode cJ6_bitCount_0f7a4 24 = .ok (.iload_n 0, 1) := by decide +kernel
theorem dJ6_bitCount_0f7a4_25 : decode cJ6_bitCount_0f7a4 25 = .ok (.iload_n 0, 1) := by decide +kernel
theorem dJ6_bitCount_0f7a4_26 : decode cJ6_bitCount_0f7a4 26 = .ok (.iconst 4, 1) := by decide +kernel
theorem dJ6_bitCount_0f7a4_27 : decode cJ6_bitCount_0f7a4 27 = .ok (.iushr, 1) := by decide +kernel
theorem dJ6_bitCount_0f7a4_28 : decode cJ6_bitCount_0f7a4 28 = .ok (.iadd, 1) := by decide +kernel
theorem dJ6_bitCount_0f7a4_29 : decode cJ6_bitCount_0f7a4 29 = .ok (.ldc_w 267, 3) := by decide +kernel
theorem dJ6_bitCount_0f7a4_32 : decode cJ6_bitCount_0f7a4 32 = .ok (.iand, 1) := by decide +kernel
theorem dJ6_bitCount_0f7a4_33 : decode cJ6_bitCount_0f7a4 33 = .ok (.istore_n 0, 1) := by decide +kernel
theorem dJ6_bitCount_0f7a4_34 : decode cJ6_bitCount_0f7a4 34 = .ok (.iload_n 0, 1) := by decide +kernel
theorem dJ6_bitCount_0f7a4_35 : decode cJ6_bitCount_0f7a4 35 = .ok (.iload_n 0, 1) := by decide +kernel
theorem dJ6_bitCount_0f7a4_36 : decode cJ6_bitCount_0f7a4 36 = .ok (.bipush 8, 2) := by decide +kernel
theorem dJ6_bitCount_0f7a4_38 : decode cJ6_bitCount_0f7a4 38 = .ok (.iushr, 1) := by decide +kernel
theorem dJ6_bitCount_0f7a4_39 : decode cJ6_bitCount_0f7a4 39 = .ok (.iadd, 1) := by decide +kernel
theorem dJ6_bitCount_0f7a4_40 : decode cJ6_bitCount_0f7a4 40 = .ok (.istore_n 0, 1) := by decide +kernel
theorem dJ6_bitCount_0f7a4_41 : decode cJ6_bitCount_0f7a4 41 = .ok (.iload_n 0, 1) := by decide +kernel
theorem dJ6_bitCount_0f7a4_42 : decode cJ6_bitCount_0f7a4 42 = .ok (.iload_n 0, 1) := by decide +kernel
theorem dJ6_bitCount_0f7a4_43 : decode cJ6_bitCount_0f7a4 43 = .ok (.bipush 16, 2) := by decide +kernel
theorem dJ6_bitCount_0f7a4_45 : decode cJ6_bitCount_0f7a4 45 = .ok (.iushr, 1) := by decide +kernel
theorem dJ6_bitCount_0f7a4_46 : decode cJ6_bitCount_0f7a4 46 = .ok (.iadd, 1) := by decide +kernel
theorem dJ6_bitCount_0f7a4_47 : decode cJ6_bitCount_0f7a4 47 = .ok (.istore_n 0, 1) := by decide +kernel
theorem dJ6_bitCount_0f7a4_48 : decode cJ6_bitCount_0f7a4 48 = .ok (.iload_n 0, 1) := by decide +kernel
theorem dJ6_bitCount_0f7a4_49 : decode cJ6_bitCount_0f7a4 49 = .ok (.bipush 63, 2) := by decide +kernel
theorem dJ6_bitCount_0f7a4_51 : decode cJ6_bitCount_0f7a4 51 = .ok (.iand, 1) := by decide +kernel
theorem dJ6_bitCount_0f7a4_52 : decode cJ6_bitCount_0f7a4 52 = .ok (.ireturn, 1) := by decide +kernel
def j_Int_bitCount (N : Nat) (x0 : Int) (w : aw_W) : Option (Int × aw_W) :=
  some (aw_and (aw_w ((aw_w ((aw_and (aw_w ((aw_w ((aw_and (aw_w (x0 - (aw_and (aw_ushr x0 1) 1431655765))) 858993459) + (aw_and (aw_ushr (aw_w (x0 - (aw_and (aw_ushr x0 1) 1431655765))) 2) 858993459))) + (aw_ushr (aw_w ((aw_and (aw_w (x0 - (aw_and (aw_ushr x0 1) 1431655765))) 858993459) + (aw_and (aw_ushr (aw_w (x0 - (aw_and (aw_ushr x0 1) 1431655765))) 2) 858993459))) 4))) 252645135) + (aw_ushr (aw_and (aw_w ((aw_w ((aw_and (aw_w (x0 - (aw_and (aw_ushr x0 1) 1431655765))) 858993459) + (aw_and (aw_ushr (aw_w (x0 - (aw_and (aw_ushr x0 1) 1431655765))) 2) 858993459))) + (aw_ushr (aw_w ((aw_and (aw_w (x0 - (aw_and (aw_ushr x0 1) 1431655765))) 858993459) + (aw_and (aw_ushr (aw_w (x0 - (aw_and (aw_ushr x0 1) 1431655765))) 2) 858993459))) 4))) 252645135) 8))) + (aw_ushr (aw_w ((aw_and (aw_w ((aw_w ((aw_and (aw_w (x0 - (aw_and (aw_ushr x0 1) 1431655765))) 858993459) + (aw_and (aw_ushr (aw_w (x0 - (aw_and (aw_ushr x0 1) 1431655765))) 2) 858993459))) + (aw_ushr (aw_w ((aw_and (aw_w (x0 - (aw_and (aw_ushr x0 1) 1431655765))) 858993459) + (aw_and (aw_ushr (aw_w (x0 - (aw_and (aw_ushr x0 1) 1431655765))) 2) 858993459))) 4))) 252645135) + (aw_ushr (aw_and (aw_w ((aw_w ((aw_and (aw_w (x0 - (aw_and (aw_ushr x0 1) 1431655765))) 858993459) + (aw_and (aw_ushr (aw_w (x0 - (aw_and (aw_ushr x0 1) 1431655765))) 2) 858993459))) + (aw_ushr (aw_w ((aw_and (aw_w (x0 - (aw_and (aw_ushr x0 1) 1431655765))) 858993459) + (aw_and (aw_ushr (aw_w (x0 - (aw_and (aw_ushr x0 1) 1431655765))) 2) 858993459))) 4))) 252645135) 8))) 16))) 63, w)
theorem w_j_Int_bitCount {l : Launch} {K : aw_K} (N d : Nat) (hd : 0 ≤ d) : ∀ (x0 : Int) (w : aw_W) (y : Int) (v : aw_W), j_Int_bitCount N x0 w = some (y, v) → aw_Met l K MJ6_bitCount_0f7a4 (d) [.inl x0] w (some (.inl y), v) := by
  intro x0 w y v h
  unfold j_Int_bitCount at h
  refine aw_enter rfl (Nat.le_of_ble_eq_true rfl) ?_
  show aw_AW l K MJ6_bitCount_0f7a4 (d) 0 [(0, .inl x0)] [] w (some (.inl y), v)
  refine aw_iload_n (pc := 0) (q := 0) dJ6_bitCount_0f7a4_0 rfl ?_
  refine aw_iload_n (pc := 1) (q := 0) dJ6_bitCount_0f7a4_1 rfl ?_
  refine aw_iconst (pc := 2) dJ6_bitCount_0f7a4_2 ⟨by decide, by decide⟩ ?_
  refine aw_iushr (pc := 3) dJ6_bitCount_0f7a4_3 ?_
  refine aw_ldcw (pc := 4) (x := 1431655765) dJ6_bitCount_0f7a4_4 cn_RJ6_265 ⟨by decide, by decide⟩ ?_
  refine aw_iand (pc := 7) dJ6_bitCount_0f7a4_7 ?_
  refine aw_isub (pc := 8) dJ6_bitCount_0f7a4_8 ?_
  refine aw_istore_n (pc := 9) (ls' := [(0, .inl (aw_w (x0 - (aw_and (aw_ushr x0 1) 1431655765))))]) dJ6_bitCount_0f7a4_9 (by decide) rfl ?_
  refine aw_iload_n (pc := 10) (q := 0) dJ6_bitCount_0f7a4_10 rfl ?_
  refine aw_ldcw (pc := 11) (x := 858993459) dJ6_bitCount_0f7a4_11 cn_RJ6_266 ⟨by decide, by decide⟩ ?_
  refine aw_iand (pc := 14) dJ6_bitCount_0f7a4_14 ?_
  refine aw_iload_n (pc := 15) (q := 0) dJ6_bitCount_0f7a4_15 rfl ?_
  refine aw_iconst (pc := 16) dJ6_bitCount_0f7a4_16 ⟨by decide, by decide⟩ ?_
  refine aw_iushr (pc := 17) dJ6_bitCount_0f7a4_17 ?_
  refine aw_ldcw (pc := 18) (x := 858993459) dJ6_bitCount_0f7a4_18 cn_RJ6_266 ⟨by decide, by decide⟩ ?_
  refine aw_iand (pc := 21) dJ6_bitCount_0f7a4_21 ?_
  refine aw_iadd (pc := 22) dJ6_bitCount_0f7a4_22 ?_
  refine aw_istore_n (pc := 23) (ls' := [(0, .inl (aw_w ((aw_and (aw_w (x0 - (aw_and (aw_ushr x0 1) 1431655765))) 858993459) + (aw_and (aw_ushr (aw_w (x0 - (aw_and (aw_ushr x0 1) 1431655765))) 2) 858993459))))]) dJ6_bitCount_0f7a4_23 (by decide) rfl ?_
  refine aw_iload_n (pc := 24) (q := 0) dJ6_bitCount_0f7a4_24 rfl ?_
  refine aw_iload_n (pc := 25) (q := 0) dJ6_bitCount_0f7a4_25 rfl ?_
  refine aw_iconst (pc := 26) dJ6_bitCount_0f7a4_26 ⟨by decide, by decide⟩ ?_
  refine aw_iushr (pc := 27) dJ6_bitCount_0f7a4_27 ?_
  refine aw_iadd (pc := 28) dJ6_bitCount_0f7a4_28 ?_
  refine aw_ldcw (pc := 29) (x := 252645135) dJ6_bitCount_0f7a4_29 cn_RJ6_267 ⟨by decide, by decide⟩ ?_
  refine aw_iand (pc := 32) dJ6_bitCount_0f7a4_32 ?_
  refine aw_istore_n (pc := 33) (ls' := [(0, .inl (aw_and (aw_w ((aw_w ((aw_and (aw_w (x0 - (aw_and (aw_ushr x0 1) 1431655765))) 858993459) + (aw_and (aw_ushr (aw_w (x0 - (aw_and (aw_ushr x0 1) 1431655765))) 2) 858993459))) + (aw_ushr (aw_w ((aw_and (aw_w (x0 - (aw_and (aw_ushr x0 1) 1431655765))) 858993459) + (aw_and (aw_ushr (aw_w (x0 - (aw_and (aw_ushr x0 1) 1431655765))) 2) 858993459))) 4))) 252645135))]) dJ6_bitCount_0f7a4_33 (by decide) rfl ?_
  refine aw_iload_n (pc := 34) (q := 0) dJ6_bitCount_0f7a4_34 rfl ?_
  refine aw_iload_n (pc := 35) (q := 0) dJ6_bitCount_0f7a4_35 rfl ?_
  refine aw_bipush (pc := 36) dJ6_bitCount_0f7a4_36 (by decide) ⟨by decide, by decide⟩ ?_
  refine aw_iushr (pc := 38) dJ6_bitCount_0f7a4_38 ?_
  refine aw_iadd (pc := 39) dJ6_bitCount_0f7a4_39 ?_
  refine aw_istore_n (pc := 40) (ls' := [(0, .inl (aw_w ((aw_and (aw_w ((aw_w ((aw_and (aw_w (x0 - (aw_and (aw_ushr x0 1) 1431655765))) 858993459) + (aw_and (aw_ushr (aw_w (x0 - (aw_and (aw_ushr x0 1) 1431655765))) 2) 858993459))) + (aw_ushr (aw_w ((aw_and (aw_w (x0 - (aw_and (aw_ushr x0 1) 1431655765))) 858993459) + (aw_and (aw_ushr (aw_w (x0 - (aw_and (aw_ushr x0 1) 1431655765))) 2) 858993459))) 4))) 252645135) + (aw_ushr (aw_and (aw_w ((aw_w ((aw_and (aw_w (x0 - (aw_and (aw_ushr x0 1) 1431655765))) 858993459) + (aw_and (aw_ushr (aw_w (x0 - (aw_and (aw_ushr x0 1) 1431655765))) 2) 858993459))) + (aw_ushr (aw_w ((aw_and (aw_w (x0 - (aw_and (aw_ushr x0 1) 1431655765))) 858993459) + (aw_and (aw_ushr (aw_w (x0 - (aw_and (aw_ushr x0 1) 1431655765))) 2) 858993459))) 4))) 252645135) 8))))]) dJ6_bitCount_0f7a4_40 (by decide) rfl ?_
  refine aw_iload_n (pc := 41) (q := 0) dJ6_bitCount_0f7a4_41 rfl ?_
  refine aw_iload_n (pc := 42) (q := 0) dJ6_bitCount_0f7a4_42 rfl ?_
  refine aw_bipush (pc := 43) dJ6_bitCount_0f7a4_43 (by decide) ⟨by decide, by decide⟩ ?_
  refine aw_iushr (pc := 45) dJ6_bitCount_0f7a4_45 ?_
  refine aw_iadd (pc := 46) dJ6_bitCount_0f7a4_46 ?_
  refine aw_istore_n (pc := 47) (ls' := [(0, .inl (aw_w ((aw_w ((aw_and (aw_w ((aw_w ((aw_and (aw_w (x0 - (aw_and (aw_ushr x0 1) 1431655765))) 858993459) + (aw_and (aw_ushr (aw_w (x0 - (aw_and (aw_ushr x0 1) 1431655765))) 2) 858993459))) + (aw_ushr (aw_w ((aw_and (aw_w (x0 - (aw_and (aw_ushr x0 1) 1431655765))) 858993459) + (aw_and (aw_ushr (aw_w (x0 - (aw_and (aw_ushr x0 1) 1431655765))) 2) 858993459))) 4))) 252645135) + (aw_ushr (aw_and (aw_w ((aw_w ((aw_and (aw_w (x0 - (aw_and (aw_ushr x0 1) 1431655765))) 858993459) + (aw_and (aw_ushr (aw_w (x0 - (aw_and (aw_ushr x0 1) 1431655765))) 2) 858993459))) + (aw_ushr (aw_w ((aw_and (aw_w (x0 - (aw_and (aw_ushr x0 1) 1431655765))) 858993459) + (aw_and (aw_ushr (aw_w (x0 - (aw_and (aw_ushr x0 1) 1431655765))) 2) 858993459))) 4))) 252645135) 8))) + (aw_ushr (aw_w ((aw_and (aw_w ((aw_w ((aw_and (aw_w (x0 - (aw_and (aw_ushr x0 1) 1431655765))) 858993459) + (aw_and (aw_ushr (aw_w (x0 - (aw_and (aw_ushr x0 1) 1431655765))) 2) 858993459))) + (aw_ushr (aw_w ((aw_and (aw_w (x0 - (aw_and (aw_ushr x0 1) 1431655765))) 858993459) + (aw_and (aw_ushr (aw_w (x0 - (aw_and (aw_ushr x0 1) 1431655765))) 2) 858993459))) 4))) 252645135) + (aw_ushr (aw_and (aw_w ((aw_w ((aw_and (aw_w (x0 - (aw_and (aw_ushr x0 1) 1431655765))) 858993459) + (aw_and (aw_ushr (aw_w (x0 - (aw_and (aw_ushr x0 1) 1431655765))) 2) 858993459))) + (aw_ushr (aw_w ((aw_and (aw_w (x0 - (aw_and (aw_ushr x0 1) 1431655765))) 858993459) + (aw_and (aw_ushr (aw_w (x0 - (aw_and (aw_ushr x0 1) 1431655765))) 2) 858993459))) 4))) 252645135) 8))) 16))))]) dJ6_bitCount_0f7a4_47 (by decide) rfl ?_
  refine aw_iload_n (pc := 48) (q := 0) dJ6_bitCount_0f7a4_48 rfl ?_
  refine aw_bipush (pc := 49) dJ6_bitCount_0f7a4_49 (by decide) ⟨by decide, by decide⟩ ?_
  refine aw_iand (pc := 51) dJ6_bitCount_0f7a4_51 ?_
  cases h
  exact aw_iret (pc := 52) rfl dJ6_bitCount_0f7a4_52
theorem dJ7_fill_53178_0 : decode cJ7_fill_53178 0 = .ok (.iconst 0, 1) := by decide +kernel
theorem dJ7_fill_53178_1 : decode cJ7_fill_53178 1 = .ok (.istore_n 2, 1) := by decide +kernel
theorem dJ7_fill_53178_2 : decode cJ7_fill_53178 2 = .ok (.aload_n 0, 1) := by decide +kernel
theorem dJ7_fill_53178_3 : decode cJ7_fill_53178 3 = .ok (.arraylength, 1) := by decide +kernel
theorem dJ7_fill_53178_4 : decode cJ7_fill_53178 4 = .ok (.istore_n 3, 1) := by decide +kernel
theorem dJ7_fill_53178_5 : decode cJ7_fill_53178 5 = .ok (.iload_n 2, 1) := by decide +kernel
theorem dJ7_fill_53178_6 : decode cJ7_fill_53178 6 = .ok (.iload_n 3, 1) := by decide +kernel
theorem dJ7_fill_53178_7 : decode cJ7_fill_53178 7 = .ok (.if_icmp .ge 13, 3) := by decide +kernel
theorem dJ7_fill_53178_10 : decode cJ7_fill_53178 10 = .ok (.aload_n 0, 1) := by decide +kernel
theorem dJ7_fill_53178_11 : decode cJ7_fill_53178 11 = .ok (.iload_n 2, 1) := by decide +kernel
theorem dJ7_fill_53178_12 : decode cJ7_fill_53178 12 = .ok (.iload_n 1, 1) := by decide +kernel
theorem dJ7_fill_53178_13 : decode cJ7_fill_53178 13 = .ok (.iastore, 1) := by decide +kernel
theorem dJ7_fill_53178_14 : decode cJ7_fill_53178 14 = .ok (.iinc 2 1, 3) := by decide +kernel
theorem dJ7_fill_53178_17 : decode cJ7_fill_53178 17 = .ok (.goto (-12), 3) := by decide +kernel
theorem dJ7_fill_53178_20 : decode cJ7_fill_53178 20 = .ok (.return_, 1) := by decide +kernel
def j_Arr_fill_Ii_20 (N : Nat) (w : aw_W) : Option (aw_W) :=
  some w
theorem w_j_Arr_fill_Ii_20 {l : Launch} {K : aw_K} (N d : Nat) : ∀ (w v : aw_W), j_Arr_fill_Ii_20 N w = some v → aw_AW l K MJ7_fill_53178 (d) 20 [] [] w (none, v) := by
  intro w v h
  unfold j_Arr_fill_Ii_20 at h
  cases h
  exact aw_vret (pc := 20) rfl dJ7_fill_53178_20
def j_Arr_fill_Ii_5 (N : Nat) : Nat → Int → Int → Int → aw_W → Option (aw_W)
  | 0, _, _, _, _ => none
  | n + 1, x1, x2, x3, w =>
    if x3 ≤ x2 then
      j_Arr_fill_Ii_20 N w
    else
      if 0 ≤ x2 ∧ x2 < 6 then
        j_Arr_fill_Ii_5 N n x1 (aw_w (x2 + 1)) x3 (aw_up w 31 x2.toNat x1)
      else none
theorem w_j_Arr_fill_Ii_5 {l : Launch} {K : aw_K} (N d : Nat) : ∀ (n : Nat) (x1 x2 x3 : Int) (w v : aw_W), j_Arr_fill_Ii_5 N n x1 x2 x3 w = some v → aw_AW l K MJ7_fill_53178 (d) 5 [(0, .inr (.inr 31)), (1, .inl x1), (2, .inl x2), (3, .inl x3)] [] w (none, v) := by
  intro n
  induction n with
  | zero => intro x1 x2 x3 w v h; rw [j_Arr_fill_Ii_5] at h; cases h
  | succ n ih =>
    intro x1 x2 x3 w v h
    rw [j_Arr_fill_Ii_5] at h
    refine aw_iload_n (pc := 5) (q := 2) dJ7_fill_53178_5 rfl ?_
    refine aw_iload_n (pc := 6) (q := 3) dJ7_fill_53178_6 rfl ?_
    refine aw_icmp_ge (pc := 7) (tgt := 20) dJ7_fill_53178_7 (by decide) (fun hc => ?_) (fun hc => ?_)
    · rw [if_pos hc] at h
      exact aw_sel [] rfl (w_j_Arr_fill_Ii_20 N d  _ _ h)
    · rw [if_neg hc] at h
      refine aw_aload_n (pc := 10) (q := 0) dJ7_fill_53178_10 rfl ?_
      refine aw_iload_n (pc := 11) (q := 2) dJ7_fill_53178_11 rfl ?_
      refine aw_iload_n (pc := 12) (q := 1) dJ7_fill_53178_12 rfl ?_
      obtain ⟨hb, h⟩ := aw_cks h
      refine aw_iast (pc := 13) dJ7_fill_53178_13 rfl hb.1 hb.2 ?_
      refine aw_iinc (pc := 14) (q := 2) (ls' := [(2, .inl (aw_w (x2 + 1))), (0, .inr (.inr 31)), (1, .inl x1), (3, .inl x3)]) dJ7_fill_53178_14 rfl (by decide) rfl ?_
      refine aw_goto (pc := 17) (tgt := 5) dJ7_fill_53178_17 (by decide) ?_
      exact aw_sel [1, 2, 0, 3] rfl (ih _ _ _ _ _ h)
def j_Arr_fill_Ii (N : Nat) (x1 : Int) (w : aw_W) : Option (aw_W) :=
  j_Arr_fill_Ii_5 N N x1 0 6 w
theorem w_j_Arr_fill_Ii {l : Launch} {K : aw_K} (N d : Nat) (hd : 0 ≤ d) : ∀ (x1 : Int) (w v : aw_W), j_Arr_fill_Ii N x1 w = some v → aw_Met l K MJ7_fill_53178 (d) [.inr (.inr 31), .inl x1] w (none, v) := by
  intro x1 w v h
  unfold j_Arr_fill_Ii at h
  refine aw_enter rfl (Nat.le_of_ble_eq_true rfl) ?_
  show aw_AW l K MJ7_fill_53178 (d) 0 [(0, .inr (.inr 31)), (1, .inl x1)] [] w (none, v)
  refine aw_iconst (pc := 0) dJ7_fill_53178_0 ⟨by decide, by decide⟩ ?_
  refine aw_istore_n (pc := 1) (ls' := [(2, .inl 0), (0, .inr (.inr 31)), (1, .inl x1)]) dJ7_fill_53178_1 (by decide) rfl ?_
  refine aw_aload_n (pc := 2) (q := 1) dJ7_fill_53178_2 rfl ?_
  refine aw_alenv (pc := 3) (x := 6) dJ7_fill_53178_3 (by decide) rfl (by decide) rfl ⟨by decide, by decide⟩ ?_
  refine aw_istore_n (pc := 4) (ls' := [(3, .inl 6), (2, .inl 0), (0, .inr (.inr 31)), (1, .inl x1)]) dJ7_fill_53178_4 (by decide) rfl ?_
  exact aw_sel [2, 3, 1, 0] rfl (w_j_Arr_fill_Ii_5 N d  N _ _ _ _ _ h)
def j_Arr_fill_Ii_32_20 (N : Nat) (w : aw_W) : Option (aw_W) :=
  some w
theorem w_j_Arr_fill_Ii_32_20 {l : Launch} {K : aw_K} (N d : Nat) : ∀ (w v : aw_W), j_Arr_fill_Ii_32_20 N w = some v → aw_AW l K MJ7_fill_53178 (d) 20 [] [] w (none, v) := by
  intro w v h
  unfold j_Arr_fill_Ii_32_20 at h
  cases h
  exact aw_vret (pc := 20) rfl dJ7_fill_53178_20
def j_Arr_fill_Ii_32_5 (N : Nat) : Nat → Int → Int → Int → aw_W → Option (aw_W)
  | 0, _, _, _, _ => none
  | n + 1, x1, x2, x3, w =>
    if x3 ≤ x2 then
      j_Arr_fill_Ii_32_20 N w
    else
      if 0 ≤ x2 ∧ x2 < 6 then
        j_Arr_fill_Ii_32_5 N n x1 (aw_w (x2 + 1)) x3 (aw_up w 32 x2.toNat x1)
      else none
theorem w_j_Arr_fill_Ii_32_5 {l : Launch} {K : aw_K} (N d : Nat) : ∀ (n : Nat) (x1 x2 x3 : Int) (w v : aw_W), j_Arr_fill_Ii_32_5 N n x1 x2 x3 w = some v → aw_AW l K MJ7_fill_53178 (d) 5 [(0, .inr (.inr 32)), (1, .inl x1), (2, .inl x2), (3, .inl x3)] [] w (none, v) := by
  intro n
  induction n with
  | zero => intro x1 x2 x3 w v h; rw [j_Arr_fill_Ii_32_5] at h; cases h
  | succ n ih =>
    intro x1 x2 x3 w v h
    rw [j_Arr_fill_Ii_32_5] at h
    refine aw_iload_n (pc := 5) (q := 2) dJ7_fill_53178_5 rfl ?_
    refine aw_iload_n (pc := 6) (q := 3) dJ7_fill_53178_6 rfl ?_
    refine aw_icmp_ge (pc := 7) (tgt := 20) dJ7_fill_53178_7 (by decide) (fun hc => ?_) (fun hc => ?_)
    · rw [if_pos hc] at h
      exact aw_sel [] rfl (w_j_Arr_fill_Ii_32_20 N d  _ _ h)
    · rw [if_neg hc] at h
      refine aw_aload_n (pc := 10) (q := 0) dJ7_fill_53178_10 rfl ?_
      refine aw_iload_n (pc := 11) (q := 2) dJ7_fill_53178_11 rfl ?_
      refine aw_iload_n (pc := 12) (q := 1) dJ7_fill_53178_12 rfl ?_
      obtain ⟨hb, h⟩ := aw_cks h
      refine aw_iast (pc := 13) dJ7_fill_53178_13 rfl hb.1 hb.2 ?_
      refine aw_iinc (pc := 14) (q := 2) (ls' := [(2, .inl (aw_w (x2 + 1))), (0, .inr (.inr 32)), (1, .inl x1), (3, .inl x3)]) dJ7_fill_53178_14 rfl (by decide) rfl ?_
      refine aw_goto (pc := 17) (tgt := 5) dJ7_fill_53178_17 (by decide) ?_
      exact aw_sel [1, 2, 0, 3] rfl (ih _ _ _ _ _ h)
def j_Arr_fill_Ii_32 (N : Nat) (x1 : Int) (w : aw_W) : Option (aw_W) :=
  j_Arr_fill_Ii_32_5 N N x1 0 6 w
theorem w_j_Arr_fill_Ii_32 {l : Launch} {K : aw_K} (N d : Nat) (hd : 0 ≤ d) : ∀ (x1 : Int) (w v : aw_W), j_Arr_fill_Ii_32 N x1 w = some v → aw_Met l K MJ7_fill_53178 (d) [.inr (.inr 32), .inl x1] w (none, v) := by
  intro x1 w v h
  unfold j_Arr_fill_Ii_32 at h
  refine aw_enter rfl (Nat.le_of_ble_eq_true rfl) ?_
  show aw_AW l K MJ7_fill_53178 (d) 0 [(0, .inr (.inr 32)), (1, .inl x1)] [] w (none, v)
  refine aw_iconst (pc := 0) dJ7_fill_53178_0 ⟨by decide, by decide⟩ ?_
  refine aw_istore_n (pc := 1) (ls' := [(2, .inl 0), (0, .inr (.inr 32)), (1, .inl x1)]) dJ7_fill_53178_1 (by decide) rfl ?_
  refine aw_aload_n (pc := 2) (q := 1) dJ7_fill_53178_2 rfl ?_
  refine aw_alenv (pc := 3) (x := 6) dJ7_fill_53178_3 (by decide) rfl (by decide) rfl ⟨by decide, by decide⟩ ?_
  refine aw_istore_n (pc := 4) (ls' := [(3, .inl 6), (2, .inl 0), (0, .inr (.inr 32)), (1, .inl x1)]) dJ7_fill_53178_4 (by decide) rfl ?_
  exact aw_sel [2, 3, 1, 0] rfl (w_j_Arr_fill_Ii_32_5 N d  N _ _ _ _ _ h)
def j_Arr_fill_Ii_6_20 (N : Nat) (w : aw_W) : Option (aw_W) :=
  some w
theorem w_j_Arr_fill_Ii_6_20 {l : Launch} {K : aw_K} (N d : Nat) : ∀ (w v : aw_W), j_Arr_fill_Ii_6_20 N w = some v → aw_AW l K MJ7_fill_53178 (d) 20 [] [] w (none, v) := by
  intro w v h
  unfold j_Arr_fill_Ii_6_20 at h
  cases h
  exact aw_vret (pc := 20) rfl dJ7_fill_53178_20
def j_Arr_fill_Ii_6_5 (N : Nat) : Nat → Int → Int → Int → aw_W → Option (aw_W)
  | 0, _, _, _, _ => none
  | n + 1, x1, x2, x3, w =>
    if x3 ≤ x2 then
      j_Arr_fill_Ii_6_20 N w
    else
      if 0 ≤ x2 ∧ x2 < 6 then
        j_Arr_fill_Ii_6_5 N n x1 (aw_w (x2 + 1)) x3 (aw_up w 6 x2.toNat x1)
      else none
theorem w_j_Arr_fill_Ii_6_5 {l : Launch} {K : aw_K} (N d : Nat) : ∀ (n : Nat) (x1 x2 x3 : Int) (w v : aw_W), j_Arr_fill_Ii_6_5 N n x1 x2 x3 w = some v → aw_AW l K MJ7_fill_53178 (d) 5 [(0, .inr (.inr 6)), (1, .inl x1), (2, .inl x2), (3, .inl x3)] [] w (none, v) := by
  intro n
  induction n with
  | zero => intro x1 x2 x3 w v h; rw [j_Arr_fill_Ii_6_5] at h; cases h
  | succ n ih =>
    intro x1 x2 x3 w v h
    rw [j_Arr_fill_Ii_6_5] at h
    refine aw_iload_n (pc := 5) (q := 2) dJ7_fill_53178_5 rfl ?_
    refine aw_iload_n (pc := 6) (q := 3) dJ7_fill_53178_6 rfl ?_
    refine aw_icmp_ge (pc := 7) (tgt := 20) dJ7_fill_53178_7 (by decide) (fun hc => ?_) (fun hc => ?_)
    · rw [if_pos hc] at h
      exact aw_sel [] rfl (w_j_Arr_fill_Ii_6_20 N d  _ _ h)
    · rw [if_neg hc] at h
      refine aw_aload_n (pc := 10) (q := 0) dJ7_fill_53178_10 rfl ?_
      refine aw_iload_n (pc := 11) (q := 2) dJ7_fill_53178_11 rfl ?_
      refine aw_iload_n (pc := 12) (q := 1) dJ7_fill_53178_12 rfl ?_
      obtain ⟨hb, h⟩ := aw_cks h
      refine aw_iast (pc := 13) dJ7_fill_53178_13 rfl hb.1 hb.2 ?_
      refine aw_iinc (pc := 14) (q := 2) (ls' := [(2, .inl (aw_w (x2 + 1))), (0, .inr (.inr 6)), (1, .inl x1), (3, .inl x3)]) dJ7_fill_53178_14 rfl (by decide) rfl ?_
      refine aw_goto (pc := 17) (tgt := 5) dJ7_fill_53178_17 (by decide) ?_
      exact aw_sel [1, 2, 0, 3] rfl (ih _ _ _ _ _ h)
def j_Arr_fill_Ii_6 (N : Nat) (x1 : Int) (w : aw_W) : Option (aw_W) :=
  j_Arr_fill_Ii_6_5 N N x1 0 6 w
theorem w_j_Arr_fill_Ii_6 {l : Launch} {K : aw_K} (N d : Nat) (hd : 0 ≤ d) : ∀ (x1 : Int) (w v : aw_W), j_Arr_fill_Ii_6 N x1 w = some v → aw_Met l K MJ7_fill_53178 (d) [.inr (.inr 6), .inl x1] w (none, v) := by
  intro x1 w v h
  unfold j_Arr_fill_Ii_6 at h
  refine aw_enter rfl (Nat.le_of_ble_eq_true rfl) ?_
  show aw_AW l K MJ7_fill_53178 (d) 0 [(0, .inr (.inr 6)), (1, .inl x1)] [] w (none, v)
  refine aw_iconst (pc := 0) dJ7_fill_53178_0 ⟨by decide, by decide⟩ ?_
  refine aw_istore_n (pc := 1) (ls' := [(2, .inl 0), (0, .inr (.inr 6)), (1, .inl x1)]) dJ7_fill_53178_1 (by decide) rfl ?_
  refine aw_aload_n (pc := 2) (q := 1) dJ7_fill_53178_2 rfl ?_
  refine aw_alenv (pc := 3) (x := 6) dJ7_fill_53178_3 (by decide) rfl (by decide) rfl ⟨by decide, by decide⟩ ?_
  refine aw_istore_n (pc := 4) (ls' := [(3, .inl 6), (2, .inl 0), (0, .inr (.inr 6)), (1, .inl x1)]) dJ7_fill_53178_4 (by decide) rfl ?_
  exact aw_sel [2, 3, 1, 0] rfl (w_j_Arr_fill_Ii_6_5 N d  N _ _ _ _ _ h)
def j_Arr_fill_Ii_43_20 (N : Nat) (w : aw_W) : Option (aw_W) :=
  some w
theorem w_j_Arr_fill_Ii_43_20 {l : Launch} {K : aw_K} (N d : Nat) : ∀ (w v : aw_W), j_Arr_fill_Ii_43_20 N w = some v → aw_AW l K MJ7_fill_53178 (d) 20 [] [] w (none, v) := by
  intro w v h
  unfold j_Arr_fill_Ii_43_20 at h
  cases h
  exact aw_vret (pc := 20) rfl dJ7_fill_53178_20
def j_Arr_fill_Ii_43_5 (N : Nat) : Nat → Int → Int → Int → aw_W → Option (aw_W)
  | 0, _, _, _, _ => none
  | n + 1, x1, x2, x3, w =>
    if x3 ≤ x2 then
      j_Arr_fill_Ii_43_20 N w
    else
      if 0 ≤ x2 ∧ x2 < 60 then
        j_Arr_fill_Ii_43_5 N n x1 (aw_w (x2 + 1)) x3 (aw_up w 43 x2.toNat x1)
      else none
theorem w_j_Arr_fill_Ii_43_5 {l : Launch} {K : aw_K} (N d : Nat) : ∀ (n : Nat) (x1 x2 x3 : Int) (w v : aw_W), j_Arr_fill_Ii_43_5 N n x1 x2 x3 w = some v → aw_AW l K MJ7_fill_53178 (d) 5 [(0, .inr (.inr 43)), (1, .inl x1), (2, .inl x2), (3, .inl x3)] [] w (none, v) := by
  intro n
  induction n with
  | zero => intro x1 x2 x3 w v h; rw [j_Arr_fill_Ii_43_5] at h; cases h
  | succ n ih =>
    intro x1 x2 x3 w v h
    rw [j_Arr_fill_Ii_43_5] at h
    refine aw_iload_n (pc := 5) (q := 2) dJ7_fill_53178_5 rfl ?_
    refine aw_iload_n (pc := 6) (q := 3) dJ7_fill_53178_6 rfl ?_
    refine aw_icmp_ge (pc := 7) (tgt := 20) dJ7_fill_53178_7 (by decide) (fun hc => ?_) (fun hc => ?_)
    · rw [if_pos hc] at h
      exact aw_sel [] rfl (w_j_Arr_fill_Ii_43_20 N d  _ _ h)
    · rw [if_neg hc] at h
      refine aw_aload_n (pc := 10) (q := 0) dJ7_fill_53178_10 rfl ?_
      refine aw_iload_n (pc := 11) (q := 2) dJ7_fill_53178_11 rfl ?_
      refine aw_iload_n (pc := 12) (q := 1) dJ7_fill_53178_12 rfl ?_
      obtain ⟨hb, h⟩ := aw_cks h
      refine aw_iast (pc := 13) dJ7_fill_53178_13 rfl hb.1 hb.2 ?_
      refine aw_iinc (pc := 14) (q := 2) (ls' := [(2, .inl (aw_w (x2 + 1))), (0, .inr (.inr 43)), (1, .inl x1), (3, .inl x3)]) dJ7_fill_53178_14 rfl (by decide) rfl ?_
      refine aw_goto (pc := 17) (tgt := 5) dJ7_fill_53178_17 (by decide) ?_
      exact aw_sel [1, 2, 0, 3] rfl (ih _ _ _ _ _ h)
def j_Arr_fill_Ii_43 (N : Nat) (x1 : Int) (w : aw_W) : Option (aw_W) :=
  j_Arr_fill_Ii_43_5 N N x1 0 60 w
theorem w_j_Arr_fill_Ii_43 {l : Launch} {K : aw_K} (N d : Nat) (hd : 0 ≤ d) : ∀ (x1 : Int) (w v : aw_W), j_Arr_fill_Ii_43 N x1 w = some v → aw_Met l K MJ7_fill_53178 (d) [.inr (.inr 43), .inl x1] w (none, v) := by
  intro x1 w v h
  unfold j_Arr_fill_Ii_43 at h
  refine aw_enter rfl (Nat.le_of_ble_eq_true rfl) ?_
  show aw_AW l K MJ7_fill_53178 (d) 0 [(0, .inr (.inr 43)), (1, .inl x1)] [] w (none, v)
  refine aw_iconst (pc := 0) dJ7_fill_53178_0 ⟨by decide, by decide⟩ ?_
  refine aw_istore_n (pc := 1) (ls' := [(2, .inl 0), (0, .inr (.inr 43)), (1, .inl x1)]) dJ7_fill_53178_1 (by decide) rfl ?_
  refine aw_aload_n (pc := 2) (q := 1) dJ7_fill_53178_2 rfl ?_
  refine aw_alenv (pc := 3) (x := 60) dJ7_fill_53178_3 (by decide) rfl (by decide) rfl ⟨by decide, by decide⟩ ?_
  refine aw_istore_n (pc := 4) (ls' := [(3, .inl 60), (2, .inl 0), (0, .inr (.inr 43)), (1, .inl x1)]) dJ7_fill_53178_4 (by decide) rfl ?_
  exact aw_sel [2, 3, 1, 0] rfl (w_j_Arr_fill_Ii_43_5 N d  N _ _ _ _ _ h)
theorem dJ7_fill_d0a16_0 : decode cJ7_fill_d0a16 0 = .ok (.iconst 0, 1) := by decide +kernel
theorem dJ7_fill_d0a16_1 : decode cJ7_fill_d0a16 1 = .ok (.istore_n 3, 1) := by decide +kernel
theorem dJ7_fill_d0a16_2 : decode cJ7_fill_d0a16 2 = .ok (.aload_n 0, 1) := by decide +kernel
theorem dJ7_fill_d0a16_3 : decode cJ7_fill_d0a16 3 = .ok (.arraylength, 1) := by decide +kernel
theorem dJ7_fill_d0a16_4 : decode cJ7_fill_d0a16 4 = .ok (.istore 4, 2) := by decide +kernel
theorem dJ7_fill_d0a16_6 : decode cJ7_fill_d0a16 6 = .ok (.iload_n 3, 1) := by decide +kernel
theorem dJ7_fill_d0a16_7 : decode cJ7_fill_d0a16 7 = .ok (.iload 4, 2) := by decide +kernel
theorem dJ7_fill_d0a16_9 : decode cJ7_fill_d0a16 9 = .ok (.if_icmp .ge 13, 3) := by decide +kernel
theorem dJ7_fill_d0a16_12 : decode cJ7_fill_d0a16 12 = .ok (.aload_n 0, 1) := by decide +kernel
theorem dJ7_fill_d0a16_13 : decode cJ7_fill_d0a16 13 = .ok (.iload_n 3, 1) := by decide +kernel
theorem dJ7_fill_d0a16_14 : decode cJ7_fill_d0a16 14 = .ok (.lload_n 1, 1) := by decide +kernel
theorem dJ7_fill_d0a16_15 : decode cJ7_fill_d0a16 15 = .ok (.lastore, 1) := by decide +kernel
theorem dJ7_fill_d0a16_16 : decode cJ7_fill_d0a16 16 = .ok (.iinc 3 1, 3) := by decide +kernel
theorem dJ7_fill_d0a16_19 : decode cJ7_fill_d0a16 19 = .ok (.goto (-13), 3) := by decide +kernel
theorem dJ7_fill_d0a16_22 : decode cJ7_fill_d0a16 22 = .ok (.return_, 1) := by decide +kernel
def j_Arr_fill_Ll_22 (N : Nat) (w : aw_W) : Option (aw_W) :=
  some w
theorem w_j_Arr_fill_Ll_22 {l : Launch} {K : aw_K} (N d : Nat) : ∀ (w v : aw_W), j_Arr_fill_Ll_22 N w = some v → aw_AW l K MJ7_fill_d0a16 (d) 22 [] [] w (none, v) := by
  intro w v h
  unfold j_Arr_fill_Ll_22 at h
  cases h
  exact aw_vret (pc := 22) rfl dJ7_fill_d0a16_22
def j_Arr_fill_Ll_6 (N : Nat) : Nat → Int → Int → Int → aw_W → Option (aw_W)
  | 0, _, _, _, _ => none
  | n + 1, x1, x3, x4, w =>
    if x4 ≤ x3 then
      j_Arr_fill_Ll_22 N w
    else
      if 0 ≤ x3 ∧ x3 < 157 then
        j_Arr_fill_Ll_6 N n x1 (aw_w (x3 + 1)) x4 (aw_up w 24 x3.toNat x1)
      else none
theorem w_j_Arr_fill_Ll_6 {l : Launch} {K : aw_K} (N d : Nat) : ∀ (n : Nat) (x1 x3 x4 : Int) (w v : aw_W), j_Arr_fill_Ll_6 N n x1 x3 x4 w = some v → aw_AW l K MJ7_fill_d0a16 (d) 6 [(0, .inr (.inr 24)), (1, .inr (.inl x1)), (3, .inl x3), (4, .inl x4)] [] w (none, v) := by
  intro n
  induction n with
  | zero => intro x1 x3 x4 w v h; rw [j_Arr_fill_Ll_6] at h; cases h
  | succ n ih =>
    intro x1 x3 x4 w v h
    rw [j_Arr_fill_Ll_6] at h
    refine aw_iload_n (pc := 6) (q := 2) dJ7_fill_d0a16_6 rfl ?_
    refine aw_iload (pc := 7) (q := 3) dJ7_fill_d0a16_7 rfl ?_
    refine aw_icmp_ge (pc := 9) (tgt := 22) dJ7_fill_d0a16_9 (by decide) (fun hc => ?_) (fun hc => ?_)
    · rw [if_pos hc] at h
      exact aw_sel [] rfl (w_j_Arr_fill_Ll_22 N d  _ _ h)
    · rw [if_neg hc] at h
      refine aw_aload_n (pc := 12) (q := 0) dJ7_fill_d0a16_12 rfl ?_
      refine aw_iload_n (pc := 13) (q := 2) dJ7_fill_d0a16_13 rfl ?_
      refine aw_lload_n (pc := 14) (q := 1) dJ7_fill_d0a16_14 rfl ?_
      obtain ⟨hb, h⟩ := aw_cks h
      refine aw_last (pc := 15) dJ7_fill_d0a16_15 rfl hb.1 hb.2 ?_
      refine aw_iinc (pc := 16) (q := 2) (ls' := [(3, .inl (aw_w (x3 + 1))), (0, .inr (.inr 24)), (1, .inr (.inl x1)), (4, .inl x4)]) dJ7_fill_d0a16_16 rfl (by decide) rfl ?_
      refine aw_goto (pc := 19) (tgt := 6) dJ7_fill_d0a16_19 (by decide) ?_
      exact aw_sel [1, 2, 0, 3] rfl (ih _ _ _ _ _ h)
def j_Arr_fill_Ll (N : Nat) (x1 : Int) (w : aw_W) : Option (aw_W) :=
  j_Arr_fill_Ll_6 N N x1 0 157 w
theorem w_j_Arr_fill_Ll {l : Launch} {K : aw_K} (N d : Nat) (hd : 0 ≤ d) : ∀ (x1 : Int) (w v : aw_W), j_Arr_fill_Ll N x1 w = some v → aw_Met l K MJ7_fill_d0a16 (d) [.inr (.inr 24), .inr (.inl x1)] w (none, v) := by
  intro x1 w v h
  unfold j_Arr_fill_Ll at h
  refine aw_enter rfl (Nat.le_of_ble_eq_true rfl) ?_
  show aw_AW l K MJ7_fill_d0a16 (d) 0 [(0, .inr (.inr 24)), (1, .inr (.inl x1))] [] w (none, v)
  refine aw_iconst (pc := 0) dJ7_fill_d0a16_0 ⟨by decide, by decide⟩ ?_
  refine aw_istore_n (pc := 1) (ls' := [(3, .inl 0), (0, .inr (.inr 24)), (1, .inr (.inl x1))]) dJ7_fill_d0a16_1 (by decide) rfl ?_
  refine aw_aload_n (pc := 2) (q := 1) dJ7_fill_d0a16_2 rfl ?_
  refine aw_alenv (pc := 3) (x := 157) dJ7_fill_d0a16_3 (by decide) rfl (by decide) rfl ⟨by decide, by decide⟩ ?_
  refine aw_istore (pc := 4) (ls' := [(4, .inl 157), (3, .inl 0), (0, .inr (.inr 24)), (1, .inr (.inl x1))]) dJ7_fill_d0a16_4 (by decide) rfl ?_
  exact aw_sel [2, 3, 1, 0] rfl (w_j_Arr_fill_Ll_6 N d  N _ _ _ _ _ h)
theorem dJ13_bitCount_95d88_0 : decode cJ13_bitCount_95d88 0 = .ok (.lload_n 0, 1) := by decide +kernel
theorem dJ13_bitCount_95d88_1 : decode cJ13_bitCount_95d88 1 = .ok (.lload_n 0, 1) := by decide +kernel
theorem dJ13_bitCount_95d88_2 : decode cJ13_bitCount_95d88 2 = .ok (.iconst 1, 1) := by decide +kernel
theorem dJ13_bitCount_95d88_3 : decode cJ13_bitCount_95d88 3 = .ok (.lushr, 1) := by decide +kernel
theorem dJ13_bitCount_95d88_4 : decode cJ13_bitCount_95d88 4 = .ok (.ldc2_w 314, 3) := by decide +kernel
theorem dJ13_bitCount_95d88_7 : decode cJ13_bitCount_95d88 7 = .ok (.land, 1) := by decide +kernel
theorem dJ13_bitCount_95d88_8 : decode cJ13_bitCount_95d88 8 = .ok (.lsub, 1) := by decide +kernel
theorem dJ13_bitCount_95d88_9 : decode cJ13_bitCount_95d88 9 = .ok (.lstore_n 0, 1) := by decide +kernel
theorem dJ13_bitCount_95d88_10 : decode cJ13_bitCount_95d88 10 = .ok (.lload_n 0, 1) := by decide +kernel
theorem dJ13_bitCount_95d88_11 : decode cJ13_bitCount_95d88 11 = .ok (.ldc2_w 316, 3) := by decide +kernel
theorem dJ13_bitCount_95d88_14 : decode cJ13_bitCount_95d88 14 = .ok (.land, 1) := by decide +kernel
theorem dJ13_bitCount_95d88_15 : decode cJ13_bitCount_95d88 15 = .ok (.lload_n 0, 1) := by decide +kernel
theorem dJ13_bitCount_95d88_16 : decode cJ13_bitCount_95d88 16 = .ok (.iconst 2, 1) := by decide +kernel
theorem dJ13_bitCount_95d88_17 : decode cJ13_bitCount_95d88 17 = .ok (.lushr, 1) := by decide +kernel
theorem dJ13_bitCount_95d88_18 : decode cJ13_bitCount_95d88 18 = .ok (.ldc2_w 316, 3) := by decide +kernel
theorem dJ13_bitCount_95d88_21 : decode cJ13_bitCount_95d88 21 = .ok (.land, 1) := by decide +kernel
theorem dJ13_bitCount_95d88_22 : decode cJ13_bitCount_95d88 22 = .ok (.ladd, 1) := by decide +kernel
theorem dJ13_bitCount_95d88_23 : decode cJ13_bitCount_95d88 23 = .ok (.lstore_n 0, 1) := by decide +kernel
theorem dJ13_bitCount_95d88_24 : decode cJ13_bitCount_95d88 24 = .ok (.lload_n 0, 1) := by decide +kernel
theorem dJ13_bitCount_95d88_25 : decode cJ13_bitCount_95d88 25 = .ok (.lload_n 0, 1) := by decide +kernel
theorem dJ13_bitCount_95d88_26 : decode cJ13_bitCount_95d88 26 = .ok (.iconst 4, 1) := by decide +kernel
theorem dJ13_bitCount_95d88_27 : decode cJ13_bitCount_95d88 27 = .ok (.lushr, 1) := by decide +kernel
theorem dJ13_bitCount_95d88_28 : decode cJ13_bitCount_95d88 28 = .ok (.ladd, 1) := by decide +kernel
theorem dJ13_bitCount_95d88_29 : decode cJ13_bitCount_95d88 29 = .ok (.ldc2_w 318, 3) := by decide +kernel
theorem dJ13_bitCount_95d88_32 : decode cJ13_bitCount_95d88 32 = .ok (.land, 1) := by decide +kernel
theorem dJ13_bitCount_95d88_33 : decode cJ13_bitCount_95d88 33 = .ok (.lstore_n 0, 1) := by decide +kernel
theorem dJ13_bitCount_95d88_34 : decode cJ13_bitCount_95d88 34 = .ok (.lload_n 0, 1) := by decide +kernel
theorem dJ13_bitCount_95d88_35 : decode cJ13_bitCount_95d88 35 = .ok (.lload_n 0, 1) := by decide +kernel
theorem dJ13_bitCount_95d88_36 : decode cJ13_bitCount_95d88 36 = .ok (.bipush 8, 2) := by decide +kernel
theorem dJ13_bitCount_95d88_38 : decode cJ13_bitCount_95d88 38 = .ok (.lushr, 1) := by decide +kernel
theorem dJ13_bitCount_95d88_39 : decode cJ13_bitCount_95d88 39 = .ok (.ladd, 1) := by decide +kernel
theorem dJ13_bitCount_95d88_40 : decode cJ13_bitCount_95d88 40 = .ok (.lstore_n 0, 1) := by decide +kernel
theorem dJ13_bitCount_95d88_41 : decode cJ13_bitCount_95d88 41 = .ok (.lload_n 0, 1) := by decide +kernel
theorem dJ13_bitCount_95d88_42 : decode cJ13_bitCount_95d88 42 = .ok (.lload_n 0, 1) := by decide +kernel
theorem dJ13_bitCount_95d88_43 : decode cJ13_bitCount_95d88 43 = .ok (.bipush 16, 2) := by decide +kernel
theorem dJ13_bitCount_95d88_45 : decode cJ13_bitCount_95d88 45 = .ok (.lushr, 1) := by decide +kernel
theorem dJ13_bitCount_95d88_46 : decode cJ13_bitCount_95d88 46 = .ok (.ladd, 1) := by decide +kernel
theorem dJ13_bitCount_95d88_47 : decode cJ13_bitCount_95d88 47 = .ok (.lstore_n 0, 1) := by decide +kernel
theorem dJ13_bitCount_95d88_48 : decode cJ13_bitCount_95d88 48 = .ok (.lload_n 0, 1) := by decide +kernel
theorem dJ13_bitCount_95d88_49 : decode cJ13_bitCount_95d88 49 = .ok (.lload_n 0, 1) := by decide +kernel
theorem dJ13_bitCount_95d88_50 : decode cJ13_bitCount_95d88 50 = .ok (.bipush 32, 2) := by decide +kernel
theorem dJ13_bitCount_95d88_52 : decode cJ13_bitCount_95d88 52 = .ok (.lushr, 1) := by decide +kernel
theorem dJ13_bitCount_95d88_53 : decode cJ13_bitCount_95d88 53 = .ok (.ladd, 1) := by decide +kernel
theorem dJ13_bitCount_95d88_54 : decode cJ13_bitCount_95d88 54 = .ok (.lstore_n 0, 1) := by decide +kernel
theorem dJ13_bitCount_95d88_55 : decode cJ13_bitCount_95d88 55 = .ok (.lload_n 0, 1) := by decide +kernel
theorem dJ13_bitCount_95d88_56 : decode cJ13_bitCount_95d88 56 = .ok (.l2i, 1) := by decide +kernel
theorem dJ13_bitCount_95d88_57 : decode cJ13_bitCount_95d88 57 = .ok (.bipush 127, 2) := by decide +kernel
theorem dJ13_bitCount_95d88_59 : decode cJ13_bitCount_95d88 59 = .ok (.iand, 1) := by decide +kernel
theorem dJ13_bitCount_95d88_60 : decode cJ13_bitCount_95d88 60 = .ok (.ireturn, 1) := by decide +kernel
def j_Long_bitCount (N : Nat) (x0 : Int) (w : aw_W) : Option (Int × aw_W) :=
  some (aw_and (aw_w (aw_wl ((aw_wl ((aw_wl ((aw_andL (aw_wl ((aw_wl ((aw_andL (aw_wl (x0 - (aw_andL (aw_ushrL x0 1) 6148914691236517205))) 3689348814741910323) + (aw_andL (aw_ushrL (aw_wl (x0 - (aw_andL (aw_ushrL x0 1) 6148914691236517205))) 2) 3689348814741910323))) + (aw_ushrL (aw_wl ((aw_andL (aw_wl (x0 - (aw_andL (aw_ushrL x0 1) 6148914691236517205))) 3689348814741910323) + (aw_andL (aw_ushrL (aw_wl (x0 - (aw_andL (aw_ushrL x0 1) 6148914691236517205))) 2) 3689348814741910323))) 4))) 1085102592571150095) + (aw_ushrL (aw_andL (aw_wl ((aw_wl ((aw_andL (aw_wl (x0 - (aw_andL (aw_ushrL x0 1) 6148914691236517205))) 3689348814741910323) + (aw_andL (aw_ushrL (aw_wl (x0 - (aw_andL (aw_ushrL x0 1) 6148914691236517205))) 2) 3689348814741910323))) + (aw_ushrL (aw_wl ((aw_andL (aw_wl (x0 - (aw_andL (aw_ushrL x0 1) 6148914691236517205))) 3689348814741910323) + (aw_andL (aw_ushrL (aw_wl (x0 - (aw_andL (aw_ushrL x0 1) 6148914691236517205))) 2) 3689348814741910323))) 4))) 1085102592571150095) 8))) + (aw_ushrL (aw_wl ((aw_andL (aw_wl ((aw_wl ((aw_andL (aw_wl (x0 - (aw_andL (aw_ushrL x0 1) 6148914691236517205))) 3689348814741910323) + (aw_andL (aw_ushrL (aw_wl (x0 - (aw_andL (aw_ushrL x0 1) 6148914691236517205))) 2) 3689348814741910323))) + (aw_ushrL (aw_wl ((aw_andL (aw_wl (x0 - (aw_andL (aw_ushrL x0 1) 6148914691236517205))) 3689348814741910323) + (aw_andL (aw_ushrL (aw_wl (x0 - (aw_andL (aw_ushrL x0 1) 6148914691236517205))) 2) 3689348814741910323))) 4))) 1085102592571150095) + (aw_ushrL (aw_andL (aw_wl ((aw_wl ((aw_andL (aw_wl (x0 - (aw_andL (aw_ushrL x0 1) 6148914691236517205))) 3689348814741910323) + (aw_andL (aw_ushrL (aw_wl (x0 - (aw_andL (aw_ushrL x0 1) 6148914691236517205))) 2) 3689348814741910323))) + (aw_ushrL (aw_wl ((aw_andL (aw_wl (x0 - (aw_andL (aw_ushrL x0 1) 6148914691236517205))) 3689348814741910323) + (aw_andL (aw_ushrL (aw_wl (x0 - (aw_andL (aw_ushrL x0 1) 6148914691236517205))) 2) 3689348814741910323))) 4))) 1085102592571150095) 8))) 16))) + (aw_ushrL (aw_wl ((aw_wl ((aw_andL (aw_wl ((aw_wl ((aw_andL (aw_wl (x0 - (aw_andL (aw_ushrL x0 1) 6148914691236517205))) 3689348814741910323) + (aw_andL (aw_ushrL (aw_wl (x0 - (aw_andL (aw_ushrL x0 1) 6148914691236517205))) 2) 3689348814741910323))) + (aw_ushrL (aw_wl ((aw_andL (aw_wl (x0 - (aw_andL (aw_ushrL x0 1) 6148914691236517205))) 3689348814741910323) + (aw_andL (aw_ushrL (aw_wl (x0 - (aw_andL (aw_ushrL x0 1) 6148914691236517205))) 2) 3689348814741910323))) 4))) 1085102592571150095) + (aw_ushrL (aw_andL (aw_wl ((aw_wl ((aw_andL (aw_wl (x0 - (aw_andL (aw_ushrL x0 1) 6148914691236517205))) 3689348814741910323) + (aw_andL (aw_ushrL (aw_wl (x0 - (aw_andL (aw_ushrL x0 1) 6148914691236517205))) 2) 3689348814741910323))) + (aw_ushrL (aw_wl ((aw_andL (aw_wl (x0 - (aw_andL (aw_ushrL x0 1) 6148914691236517205))) 3689348814741910323) + (aw_andL (aw_ushrL (aw_wl (x0 - (aw_andL (aw_ushrL x0 1) 6148914691236517205))) 2) 3689348814741910323))) 4))) 1085102592571150095) 8))) + (aw_ushrL (aw_wl ((aw_andL (aw_wl ((aw_wl ((aw_andL (aw_wl (x0 - (aw_andL (aw_ushrL x0 1) 6148914691236517205))) 3689348814741910323) + (aw_andL (aw_ushrL (aw_wl (x0 - (aw_andL (aw_ushrL x0 1) 6148914691236517205))) 2) 3689348814741910323))) + (aw_ushrL (aw_wl ((aw_andL (aw_wl (x0 - (aw_andL (aw_ushrL x0 1) 6148914691236517205))) 3689348814741910323) + (aw_andL (aw_ushrL (aw_wl (x0 - (aw_andL (aw_ushrL x0 1) 6148914691236517205))) 2) 3689348814741910323))) 4))) 1085102592571150095) + (aw_ushrL (aw_andL (aw_wl ((aw_wl ((aw_andL (aw_wl (x0 - (aw_andL (aw_ushrL x0 1) 6148914691236517205))) 3689348814741910323) + (aw_andL (aw_ushrL (aw_wl (x0 - (aw_andL (aw_ushrL x0 1) 6148914691236517205))) 2) 3689348814741910323))) + (aw_ushrL (aw_wl ((aw_andL (aw_wl (x0 - (aw_andL (aw_ushrL x0 1) 6148914691236517205))) 3689348814741910323) + (aw_andL (aw_ushrL (aw_wl (x0 - (aw_andL (aw_ushrL x0 1) 6148914691236517205))) 2) 3689348814741910323))) 4))) 1085102592571150095) 8))) 16))) 32)))) 127, w)
theorem w_j_Long_bitCount {l : Launch} {K : aw_K} (N d : Nat) (hd : 0 ≤ d) : ∀ (x0 : Int) (w : aw_W) (y : Int) (v : aw_W), j_Long_bitCount N x0 w = some (y, v) → aw_Met l K MJ13_bitCount_95d88 (d) [.inr (.inl x0)] w (some (.inl y), v) := by
  intro x0 w y v h
  unfold j_Long_bitCount at h
  refine aw_enter rfl (Nat.le_of_ble_eq_true rfl) ?_
  show aw_AW l K MJ13_bitCount_95d88 (d) 0 [(0, .inr (.inl x0))] [] w (some (.inl y), v)
  refine aw_lload_n (pc := 0) (q := 0) dJ13_bitCount_95d88_0 rfl ?_
  refine aw_lload_n (pc := 1) (q := 0) dJ13_bitCount_95d88_1 rfl ?_
  refine aw_iconst (pc := 2) dJ13_bitCount_95d88_2 ⟨by decide, by decide⟩ ?_
  refine aw_lushr (pc := 3) dJ13_bitCount_95d88_3 ?_
  refine aw_ldc2 (pc := 4) (x := 6148914691236517205) dJ13_bitCount_95d88_4 cl_RJ13_314 ⟨by decide, by decide⟩ ?_
  refine aw_land (pc := 7) dJ13_bitCount_95d88_7 ?_
  refine aw_lsub (pc := 8) dJ13_bitCount_95d88_8 ?_
  refine aw_lstore_n (pc := 9) (ls' := [(0, .inr (.inl (aw_wl (x0 - (aw_andL (aw_ushrL x0 1) 6148914691236517205)))))]) dJ13_bitCount_95d88_9 (by decide) rfl ?_
  refine aw_lload_n (pc := 10) (q := 0) dJ13_bitCount_95d88_10 rfl ?_
  refine aw_ldc2 (pc := 11) (x := 3689348814741910323) dJ13_bitCount_95d88_11 cl_RJ13_316 ⟨by decide, by decide⟩ ?_
  refine aw_land (pc := 14) dJ13_bitCount_95d88_14 ?_
  refine aw_lload_n (pc := 15) (q := 0) dJ13_bitCount_95d88_15 rfl ?_
  refine aw_iconst (pc := 16) dJ13_bitCount_95d88_16 ⟨by decide, by decide⟩ ?_
  refine aw_lushr (pc := 17) dJ13_bitCount_95d88_17 ?_
  refine aw_ldc2 (pc := 18) (x := 3689348814741910323) dJ13_bitCount_95d88_18 cl_RJ13_316 ⟨by decide, by decide⟩ ?_
  refine aw_land (pc := 21) dJ13_bitCount_95d88_21 ?_
  refine aw_ladd (pc := 22) dJ13_bitCount_95d88_22 ?_
  refine aw_lstore_n (pc := 23) (ls' := [(0, .inr (.inl (aw_wl ((aw_andL (aw_wl (x0 - (aw_andL (aw_ushrL x0 1) 6148914691236517205))) 3689348814741910323) + (aw_andL (aw_ushrL (aw_wl (x0 - (aw_andL (aw_ushrL x0 1) 6148914691236517205))) 2) 3689348814741910323)))))]) dJ13_bitCount_95d88_23 (by decide) rfl ?_
  refine aw_lload_n (pc := 24) (q := 0) dJ13_bitCount_95d88_24 rfl ?_
  refine aw_lload_n (pc := 25) (q := 0) dJ13_bitCount_95d88_25 rfl ?_
  refine aw_iconst (pc := 26) dJ13_bitCount_95d88_26 ⟨by decide, by decide⟩ ?_
  refine aw_lushr (pc := 27) dJ13_bitCount_95d88_27 ?_
  refine aw_ladd (pc := 28) dJ13_bitCount_95d88_28 ?_
  refine aw_ldc2 (pc := 29) (x := 1085102592571150095) dJ13_bitCount_95d88_29 cl_RJ13_318 ⟨by decide, by decide⟩ ?_
  refine aw_land (pc := 32) dJ13_bitCount_95d88_32 ?_
  refine aw_lstore_n (pc := 33) (ls' := [(0, .inr (.inl (aw_andL (aw_wl ((aw_wl ((aw_andL (aw_wl (x0 - (aw_andL (aw_ushrL x0 1) 6148914691236517205))) 3689348814741910323) + (aw_andL (aw_ushrL (aw_wl (x0 - (aw_andL (aw_ushrL x0 1) 6148914691236517205))) 2) 3689348814741910323))) + (aw_ushrL (aw_wl ((aw_andL (aw_wl (x0 - (aw_andL (aw_ushrL x0 1) 6148914691236517205))) 3689348814741910323) + (aw_andL (aw_ushrL (aw_wl (x0 - (aw_andL (aw_ushrL x0 1) 6148914691236517205))) 2) 3689348814741910323))) 4))) 1085102592571150095)))]) dJ13_bitCount_95d88_33 (by decide) rfl ?_
  refine aw_lload_n (pc := 34) (q := 0) dJ13_bitCount_95d88_34 rfl ?_
  refine aw_lload_n (pc := 35) (q := 0) dJ13_bitCount_95d88_35 rfl ?_
  refine aw_bipush (pc := 36) dJ13_bitCount_95d88_36 (by decide) ⟨by decide, by decide⟩ ?_
  refine aw_lushr (pc := 38) dJ13_bitCount_95d88_38 ?_
  refine aw_ladd (pc := 39) dJ13_bitCount_95d88_39 ?_
  refine aw_lstore_n (pc := 40) (ls' := [(0, .inr (.inl (aw_wl ((aw_andL (aw_wl ((aw_wl ((aw_andL (aw_wl (x0 - (aw_andL (aw_ushrL x0 1) 6148914691236517205))) 3689348814741910323) + (aw_andL (aw_ushrL (aw_wl (x0 - (aw_andL (aw_ushrL x0 1) 6148914691236517205))) 2) 3689348814741910323))) + (aw_ushrL (aw_wl ((aw_andL (aw_wl (x0 - (aw_andL (aw_ushrL x0 1) 6148914691236517205))) 3689348814741910323) + (aw_andL (aw_ushrL (aw_wl (x0 - (aw_andL (aw_ushrL x0 1) 6148914691236517205))) 2) 3689348814741910323))) 4))) 1085102592571150095) + (aw_ushrL (aw_andL (aw_wl ((aw_wl ((aw_andL (aw_wl (x0 - (aw_andL (aw_ushrL x0 1) 6148914691236517205))) 3689348814741910323) + (aw_andL (aw_ushrL (aw_wl (x0 - (aw_andL (aw_ushrL x0 1) 6148914691236517205))) 2) 3689348814741910323))) + (aw_ushrL (aw_wl ((aw_andL (aw_wl (x0 - (aw_andL (aw_ushrL x0 1) 6148914691236517205))) 3689348814741910323) + (aw_andL (aw_ushrL (aw_wl (x0 - (aw_andL (aw_ushrL x0 1) 6148914691236517205))) 2) 3689348814741910323))) 4))) 1085102592571150095) 8)))))]) dJ13_bitCount_95d88_40 (by decide) rfl ?_
  refine aw_lload_n (pc := 41) (q := 0) dJ13_bitCount_95d88_41 rfl ?_
  refine aw_lload_n (pc := 42) (q := 0) dJ13_bitCount_95d88_42 rfl ?_
  refine aw_bipush (pc := 43) dJ13_bitCount_95d88_43 (by decide) ⟨by decide, by decide⟩ ?_
  refine aw_lushr (pc := 45) dJ13_bitCount_95d88_45 ?_
  refine aw_ladd (pc := 46) dJ13_bitCount_95d88_46 ?_
  refine aw_lstore_n (pc := 47) (ls' := [(0, .inr (.inl (aw_wl ((aw_wl ((aw_andL (aw_wl ((aw_wl ((aw_andL (aw_wl (x0 - (aw_andL (aw_ushrL x0 1) 6148914691236517205))) 3689348814741910323) + (aw_andL (aw_ushrL (aw_wl (x0 - (aw_andL (aw_ushrL x0 1) 6148914691236517205))) 2) 3689348814741910323))) + (aw_ushrL (aw_wl ((aw_andL (aw_wl (x0 - (aw_andL (aw_ushrL x0 1) 6148914691236517205))) 3689348814741910323) + (aw_andL (aw_ushrL (aw_wl (x0 - (aw_andL (aw_ushrL x0 1) 6148914691236517205))) 2) 3689348814741910323))) 4))) 1085102592571150095) + (aw_ushrL (aw_andL (aw_wl ((aw_wl ((aw_andL (aw_wl (x0 - (aw_andL (aw_ushrL x0 1) 6148914691236517205))) 3689348814741910323) + (aw_andL (aw_ushrL (aw_wl (x0 - (aw_andL (aw_ushrL x0 1) 6148914691236517205))) 2) 3689348814741910323))) + (aw_ushrL (aw_wl ((aw_andL (aw_wl (x0 - (aw_andL (aw_ushrL x0 1) 6148914691236517205))) 3689348814741910323) + (aw_andL (aw_ushrL (aw_wl (x0 - (aw_andL (aw_ushrL x0 1) 6148914691236517205))) 2) 3689348814741910323))) 4))) 1085102592571150095) 8))) + (aw_ushrL (aw_wl ((aw_andL (aw_wl ((aw_wl ((aw_andL (aw_wl (x0 - (aw_andL (aw_ushrL x0 1) 6148914691236517205))) 3689348814741910323) + (aw_andL (aw_ushrL (aw_wl (x0 - (aw_andL (aw_ushrL x0 1) 6148914691236517205))) 2) 3689348814741910323))) + (aw_ushrL (aw_wl ((aw_andL (aw_wl (x0 - (aw_andL (aw_ushrL x0 1) 6148914691236517205))) 3689348814741910323) + (aw_andL (aw_ushrL (aw_wl (x0 - (aw_andL (aw_ushrL x0 1) 6148914691236517205))) 2) 3689348814741910323))) 4))) 1085102592571150095) + (aw_ushrL (aw_andL (aw_wl ((aw_wl ((aw_andL (aw_wl (x0 - (aw_andL (aw_ushrL x0 1) 6148914691236517205))) 3689348814741910323) + (aw_andL (aw_ushrL (aw_wl (x0 - (aw_andL (aw_ushrL x0 1) 6148914691236517205))) 2) 3689348814741910323))) + (aw_ushrL (aw_wl ((aw_andL (aw_wl (x0 - (aw_andL (aw_ushrL x0 1) 6148914691236517205))) 3689348814741910323) + (aw_andL (aw_ushrL (aw_wl (x0 - (aw_andL (aw_ushrL x0 1) 6148914691236517205))) 2) 3689348814741910323))) 4))) 1085102592571150095) 8))) 16)))))]) dJ13_bitCount_95d88_47 (by decide) rfl ?_
  refine aw_lload_n (pc := 48) (q := 0) dJ13_bitCount_95d88_48 rfl ?_
  refine aw_lload_n (pc := 49) (q := 0) dJ13_bitCount_95d88_49 rfl ?_
  refine aw_bipush (pc := 50) dJ13_bitCount_95d88_50 (by decide) ⟨by decide, by decide⟩ ?_
  refine aw_lushr (pc := 52) dJ13_bitCount_95d88_52 ?_
  refine aw_ladd (pc := 53) dJ13_bitCount_95d88_53 ?_
  refine aw_lstore_n (pc := 54) (ls' := [(0, .inr (.inl (aw_wl ((aw_wl ((aw_wl ((aw_andL (aw_wl ((aw_wl ((aw_andL (aw_wl (x0 - (aw_andL (aw_ushrL x0 1) 6148914691236517205))) 3689348814741910323) + (aw_andL (aw_ushrL (aw_wl (x0 - (aw_andL (aw_ushrL x0 1) 6148914691236517205))) 2) 3689348814741910323))) + (aw_ushrL (aw_wl ((aw_andL (aw_wl (x0 - (aw_andL (aw_ushrL x0 1) 6148914691236517205))) 3689348814741910323) + (aw_andL (aw_ushrL (aw_wl (x0 - (aw_andL (aw_ushrL x0 1) 6148914691236517205))) 2) 3689348814741910323))) 4))) 1085102592571150095) + (aw_ushrL (aw_andL (aw_wl ((aw_wl ((aw_andL (aw_wl (x0 - (aw_andL (aw_ushrL x0 1) 6148914691236517205))) 3689348814741910323) + (aw_andL (aw_ushrL (aw_wl (x0 - (aw_andL (aw_ushrL x0 1) 6148914691236517205))) 2) 3689348814741910323))) + (aw_ushrL (aw_wl ((aw_andL (aw_wl (x0 - (aw_andL (aw_ushrL x0 1) 6148914691236517205))) 3689348814741910323) + (aw_andL (aw_ushrL (aw_wl (x0 - (aw_andL (aw_ushrL x0 1) 6148914691236517205))) 2) 3689348814741910323))) 4))) 1085102592571150095) 8))) + (aw_ushrL (aw_wl ((aw_andL (aw_wl ((aw_wl ((aw_andL (aw_wl (x0 - (aw_andL (aw_ushrL x0 1) 6148914691236517205))) 3689348814741910323) + (aw_andL (aw_ushrL (aw_wl (x0 - (aw_andL (aw_ushrL x0 1) 6148914691236517205))) 2) 3689348814741910323))) + (aw_ushrL (aw_wl ((aw_andL (aw_wl (x0 - (aw_andL (aw_ushrL x0 1) 6148914691236517205))) 3689348814741910323) + (aw_andL (aw_ushrL (aw_wl (x0 - (aw_andL (aw_ushrL x0 1) 6148914691236517205))) 2) 3689348814741910323))) 4))) 1085102592571150095) + (aw_ushrL (aw_andL (aw_wl ((aw_wl ((aw_andL (aw_wl (x0 - (aw_andL (aw_ushrL x0 1) 6148914691236517205))) 3689348814741910323) + (aw_andL (aw_ushrL (aw_wl (x0 - (aw_andL (aw_ushrL x0 1) 6148914691236517205))) 2) 3689348814741910323))) + (aw_ushrL (aw_wl ((aw_andL (aw_wl (x0 - (aw_andL (aw_ushrL x0 1) 6148914691236517205))) 3689348814741910323) + (aw_andL (aw_ushrL (aw_wl (x0 - (aw_andL (aw_ushrL x0 1) 6148914691236517205))) 2) 3689348814741910323))) 4))) 1085102592571150095) 8))) 16))) + (aw_ushrL (aw_wl ((aw_wl ((aw_andL (aw_wl ((aw_wl ((aw_andL (aw_wl (x0 - (aw_andL (aw_ushrL x0 1) 6148914691236517205))) 3689348814741910323) + (aw_andL (aw_ushrL (aw_wl (x0 - (aw_andL (aw_ushrL x0 1) 6148914691236517205))) 2) 3689348814741910323))) + (aw_ushrL (aw_wl ((aw_andL (aw_wl (x0 - (aw_andL (aw_ushrL x0 1) 6148914691236517205))) 3689348814741910323) + (aw_andL (aw_ushrL (aw_wl (x0 - (aw_andL (aw_ushrL x0 1) 6148914691236517205))) 2) 3689348814741910323))) 4))) 1085102592571150095) + (aw_ushrL (aw_andL (aw_wl ((aw_wl ((aw_andL (aw_wl (x0 - (aw_andL (aw_ushrL x0 1) 6148914691236517205))) 3689348814741910323) + (aw_andL (aw_ushrL (aw_wl (x0 - (aw_andL (aw_ushrL x0 1) 6148914691236517205))) 2) 3689348814741910323))) + (aw_ushrL (aw_wl ((aw_andL (aw_wl (x0 - (aw_andL (aw_ushrL x0 1) 6148914691236517205))) 3689348814741910323) + (aw_andL (aw_ushrL (aw_wl (x0 - (aw_andL (aw_ushrL x0 1) 6148914691236517205))) 2) 3689348814741910323))) 4))) 1085102592571150095) 8))) + (aw_ushrL (aw_wl ((aw_andL (aw_wl ((aw_wl ((aw_andL (aw_wl (x0 - (aw_andL (aw_ushrL x0 1) 6148914691236517205))) 3689348814741910323) + (aw_andL (aw_ushrL (aw_wl (x0 - (aw_andL (aw_ushrL x0 1) 6148914691236517205))) 2) 3689348814741910323))) + (aw_ushrL (aw_wl ((aw_andL (aw_wl (x0 - (aw_andL (aw_ushrL x0 1) 6148914691236517205))) 3689348814741910323) + (aw_andL (aw_ushrL (aw_wl (x0 - (aw_andL (aw_ushrL x0 1) 6148914691236517205))) 2) 3689348814741910323))) 4))) 1085102592571150095) + (aw_ushrL (aw_andL (aw_wl ((aw_wl ((aw_andL (aw_wl (x0 - (aw_andL (aw_ushrL x0 1) 6148914691236517205))) 3689348814741910323) + (aw_andL (aw_ushrL (aw_wl (x0 - (aw_andL (aw_ushrL x0 1) 6148914691236517205))) 2) 3689348814741910323))) + (aw_ushrL (aw_wl ((aw_andL (aw_wl (x0 - (aw_andL (aw_ushrL x0 1) 6148914691236517205))) 3689348814741910323) + (aw_andL (aw_ushrL (aw_wl (x0 - (aw_andL (aw_ushrL x0 1) 6148914691236517205))) 2) 3689348814741910323))) 4))) 1085102592571150095) 8))) 16))) 32)))))]) dJ13_bitCount_95d88_54 (by decide) rfl ?_
  refine aw_lload_n (pc := 55) (q := 0) dJ13_bitCount_95d88_55 rfl ?_
  refine aw_l2i (pc := 56) dJ13_bitCount_95d88_56 ?_
  refine aw_bipush (pc := 57) dJ13_bitCount_95d88_57 (by decide) ⟨by decide, by decide⟩ ?_
  refine aw_iand (pc := 59) dJ13_bitCount_95d88_59 ?_
  cases h
  exact aw_iret (pc := 60) rfl dJ13_bitCount_95d88_60
def j_Arr_fill_Ii_35_20 (N : Nat) (w : aw_W) : Option (aw_W) :=
  some w
theorem w_j_Arr_fill_Ii_35_20 {l : Launch} {K : aw_K} (N d : Nat) : ∀ (w v : aw_W), j_Arr_fill_Ii_35_20 N w = some v → aw_AW l K MJ7_fill_53178 (d) 20 [] [] w (none, v) := by
  intro w v h
  unfold j_Arr_fill_Ii_35_20 at h
  cases h
  exact aw_vret (pc := 20) rfl dJ7_fill_53178_20
def j_Arr_fill_Ii_35_5 (N : Nat) : Nat → Int → Int → Int → aw_W → Option (aw_W)
  | 0, _, _, _, _ => none
  | n + 1, x1, x2, x3, w =>
    if x3 ≤ x2 then
      j_Arr_fill_Ii_35_20 N w
    else
      if 0 ≤ x2 ∧ x2 < 64 then
        j_Arr_fill_Ii_35_5 N n x1 (aw_w (x2 + 1)) x3 (aw_up w 35 x2.toNat x1)
      else none
theorem w_j_Arr_fill_Ii_35_5 {l : Launch} {K : aw_K} (N d : Nat) : ∀ (n : Nat) (x1 x2 x3 : Int) (w v : aw_W), j_Arr_fill_Ii_35_5 N n x1 x2 x3 w = some v → aw_AW l K MJ7_fill_53178 (d) 5 [(0, .inr (.inr 35)), (1, .inl x1), (2, .inl x2), (3, .inl x3)] [] w (none, v) := by
  intro n
  induction n with
  | zero => intro x1 x2 x3 w v h; rw [j_Arr_fill_Ii_35_5] at h; cases h
  | succ n ih =>
    intro x1 x2 x3 w v h
    rw [j_Arr_fill_Ii_35_5] at h
    refine aw_iload_n (pc := 5) (q := 2) dJ7_fill_53178_5 rfl ?_
    refine aw_iload_n (pc := 6) (q := 3) dJ7_fill_53178_6 rfl ?_
    refine aw_icmp_ge (pc := 7) (tgt := 20) dJ7_fill_53178_7 (by decide) (fun hc => ?_) (fun hc => ?_)
    · rw [if_pos hc] at h
      exact aw_sel [] rfl (w_j_Arr_fill_Ii_35_20 N d  _ _ h)
    · rw [if_neg hc] at h
      refine aw_aload_n (pc := 10) (q := 0) dJ7_fill_53178_10 rfl ?_
      refine aw_iload_n (pc := 11) (q := 2) dJ7_fill_53178_11 rfl ?_
      refine aw_iload_n (pc := 12) (q := 1) dJ7_fill_53178_12 rfl ?_
      obtain ⟨hb, h⟩ := aw_cks h
      refine aw_iast (pc := 13) dJ7_fill_53178_13 rfl hb.1 hb.2 ?_
      refine aw_iinc (pc := 14) (q := 2) (ls' := [(2, .inl (aw_w (x2 + 1))), (0, .inr (.inr 35)), (1, .inl x1), (3, .inl x3)]) dJ7_fill_53178_14 rfl (by decide) rfl ?_
      refine aw_goto (pc := 17) (tgt := 5) dJ7_fill_53178_17 (by decide) ?_
      exact aw_sel [1, 2, 0, 3] rfl (ih _ _ _ _ _ h)
def j_Arr_fill_Ii_35 (N : Nat) (x1 : Int) (w : aw_W) : Option (aw_W) :=
  j_Arr_fill_Ii_35_5 N N x1 0 64 w
theorem w_j_Arr_fill_Ii_35 {l : Launch} {K : aw_K} (N d : Nat) (hd : 0 ≤ d) : ∀ (x1 : Int) (w v : aw_W), j_Arr_fill_Ii_35 N x1 w = some v → aw_Met l K MJ7_fill_53178 (d) [.inr (.inr 35), .inl x1] w (none, v) := by
  intro x1 w v h
  unfold j_Arr_fill_Ii_35 at h
  refine aw_enter rfl (Nat.le_of_ble_eq_true rfl) ?_
  show aw_AW l K MJ7_fill_53178 (d) 0 [(0, .inr (.inr 35)), (1, .inl x1)] [] w (none, v)
  refine aw_iconst (pc := 0) dJ7_fill_53178_0 ⟨by decide, by decide⟩ ?_
  refine aw_istore_n (pc := 1) (ls' := [(2, .inl 0), (0, .inr (.inr 35)), (1, .inl x1)]) dJ7_fill_53178_1 (by decide) rfl ?_
  refine aw_aload_n (pc := 2) (q := 1) dJ7_fill_53178_2 rfl ?_
  refine aw_alenv (pc := 3) (x := 64) dJ7_fill_53178_3 (by decide) rfl (by decide) rfl ⟨by decide, by decide⟩ ?_
  refine aw_istore_n (pc := 4) (ls' := [(3, .inl 64), (2, .inl 0), (0, .inr (.inr 35)), (1, .inl x1)]) dJ7_fill_53178_4 (by decide) rfl ?_
  exact aw_sel [2, 3, 1, 0] rfl (w_j_Arr_fill_Ii_35_5 N d  N _ _ _ _ _ h)
theorem dJ0_coder_7d493_0 : decode cJ0_coder_7d493 0 = .ok (.getstatic 38, 3) := by decide +kernel
theorem dJ0_coder_7d493_3 : decode cJ0_coder_7d493 3 = .ok (.ifCond .eq 10, 3) := by decide +kernel
theorem dJ0_coder_7d493_6 : decode cJ0_coder_7d493 6 = .ok (.aload_n 0, 1) := by decide +kernel
theorem dJ0_coder_7d493_7 : decode cJ0_coder_7d493 7 = .ok (.getfield 15, 3) := by decide +kernel
theorem dJ0_coder_7d493_10 : decode cJ0_coder_7d493 10 = .ok (.goto 4, 3) := by decide +kernel
theorem dJ0_coder_7d493_13 : decode cJ0_coder_7d493 13 = .ok (.iconst 1, 1) := by decide +kernel
theorem dJ0_coder_7d493_14 : decode cJ0_coder_7d493 14 = .ok (.ireturn, 1) := by decide +kernel
def j_Str_coder_14 (N : Nat) (s0 : Int) (w : aw_W) : Option (Int × aw_W) :=
  if -128 ≤ s0 ∧ s0 < 128 then
    some (s0, w)
  else none
theorem w_j_Str_coder_14 {l : Launch} {K : aw_K} (N d : Nat) : ∀ (s0 : Int) (w : aw_W) (y : Int) (v : aw_W), j_Str_coder_14 N s0 w = some (y, v) → aw_AW l K MJ0_coder_7d493 (d) 14 [] [.inl s0] w (some (.inl y), v) := by
  intro s0 w y v h
  unfold j_Str_coder_14 at h
  obtain ⟨hz, h⟩ := aw_cks h
  cases h
  exact aw_bret (pc := 14) rfl hz dJ0_coder_7d493_14
def j_Str_coder (N : Nat) (w : aw_W) : Option (Int × aw_W) :=
  if (1 : Int) = 0 then
    j_Str_coder_14 N 1 w
  else
    j_Str_coder_14 N 0 w
theorem w_j_Str_coder {l : Launch} {K : aw_K} (N d : Nat) (hd : 0 ≤ d) : ∀ (w : aw_W) (y : Int) (v : aw_W), j_Str_coder N w = some (y, v) → aw_Met l K MJ0_coder_7d493 (d) [.inr (.inr 220)] w (some (.inl y), v) := by
  intro w y v h
  unfold j_Str_coder at h
  refine aw_enter rfl (Nat.le_of_ble_eq_true rfl) ?_
  show aw_AW l K MJ0_coder_7d493 (d) 0 [(0, .inr (.inr 220))] [] w (some (.inl y), v)
  refine aw_scom (pc := 0) dJ0_coder_7d493_0 ft_RJ0_38 ?_
  refine aw_if_eq (pc := 3) (tgt := 13) dJ0_coder_7d493_3 (by decide) (fun hc => ?_) (fun hc => ?_)
  · rw [if_pos hc] at h
    refine aw_iconst (pc := 13) dJ0_coder_7d493_13 ⟨by decide, by decide⟩ ?_
    exact aw_sel [] rfl (w_j_Str_coder_14 N d  _ _ _ _ h)
  · rw [if_neg hc] at h
    refine aw_aload_n (pc := 6) (q := 0) dJ0_coder_7d493_6 rfl ?_
    refine aw_scod (pc := 7) (k := 0) dJ0_coder_7d493_7 (by decide) ft_RJ0_15 ?_
    refine aw_goto (pc := 10) (tgt := 14) dJ0_coder_7d493_10 (by decide) ?_
    exact aw_sel [] rfl (w_j_Str_coder_14 N d  _ _ _ _ h)
theorem dJ0_length_8abf5_0 : decode cJ0_length_8abf5 0 = .ok (.aload_n 0, 1) := by decide +kernel
theorem dJ0_length_8abf5_1 : decode cJ0_length_8abf5 1 = .ok (.getfield 9, 3) := by decide +kernel
theorem dJ0_length_8abf5_4 : decode cJ0_length_8abf5 4 = .ok (.arraylength, 1) := by decide +kernel
theorem dJ0_length_8abf5_5 : decode cJ0_length_8abf5 5 = .ok (.aload_n 0, 1) := by decide +kernel
theorem dJ0_length_8abf5_6 : decode cJ0_length_8abf5 6 = .ok (.invokevirtual 335, 3) := by decide +kernel
theorem dJ0_length_8abf5_9 : decode cJ0_length_8abf5 9 = .ok (.ishr, 1) := by decide +kernel
theorem dJ0_length_8abf5_10 : decode cJ0_length_8abf5 10 = .ok (.ireturn, 1) := by decide +kernel
def j_Str_length (N : Nat) (w : aw_W) : Option (Int × aw_W) :=
  aw_b2 (j_Str_coder N w) fun r1 w1 =>
    some (aw_shr 1 r1, w1)
theorem w_j_Str_length_d {l : Launch} {K : aw_K} (N d : Nat) (hd : 0 ≤ d) : ∀ (w : aw_W) (y : Int) (v : aw_W), j_Str_length N w = some (y, v) → aw_Met l K MJ0_length_8abf5 (d + 1) [.inr (.inr 220)] w (some (.inl y), v) := by
  intro w y v h
  unfold j_Str_length at h
  refine aw_enter rfl (Nat.le_of_ble_eq_true rfl) ?_
  show aw_AW l K MJ0_length_8abf5 (d + 1) 0 [(0, .inr (.inr 220))] [] w (some (.inl y), v)
  refine aw_aload_n (pc := 0) (q := 0) dJ0_length_8abf5_0 rfl ?_
  refine aw_sval (pc := 1) (k := 0) dJ0_length_8abf5_1 (by decide) ft_RJ0_9 ?_
  refine aw_stlen (pc := 4) (k := 0) (n := 1) dJ0_length_8abf5_4 (by decide) rfl ⟨by decide, by decide⟩ ?_
  refine aw_aload_n (pc := 5) (q := 0) dJ0_length_8abf5_5 rfl ?_
  obtain ⟨r1, w1, h1, h⟩ := aw_b2s h
  refine aw_callT (pc := 6) (k := 0) (as := []) (st := [.inl 1]) (st' := [.inl r1, .inl 1]) dJ0_length_8abf5_6 cv_RJ0_335 (by decide) rfl rfl rfl (Nat.le_of_ble_eq_true rfl) (w_j_Str_coder N d (by omega) _ _ _ h1) rfl ?_
  refine aw_ishr (pc := 9) dJ0_length_8abf5_9 ?_
  cases h
  exact aw_iret (pc := 10) rfl dJ0_length_8abf5_10
theorem w_j_Str_length {l : Launch} {K : aw_K} (N d : Nat) (hd : 1 ≤ d) : ∀ (w : aw_W) (y : Int) (v : aw_W), j_Str_length N w = some (y, v) → aw_Met l K MJ0_length_8abf5 (d) [.inr (.inr 220)] w (some (.inl y), v) := by
  obtain ⟨e, rfl⟩ : ∃ e, d = e + 1 := ⟨d - 1, by omega⟩
  exact w_j_Str_length_d N e (by omega)
theorem dJ0_isLatin1_aae02_0 : decode cJ0_isLatin1_aae02 0 = .ok (.getstatic 38, 3) := by decide +kernel
theorem dJ0_isLatin1_aae02_3 : decode cJ0_isLatin1_aae02 3 = .ok (.ifCond .eq 14, 3) := by decide +kernel
theorem dJ0_isLatin1_aae02_6 : decode cJ0_isLatin1_aae02 6 = .ok (.aload_n 0, 1) := by decide +kernel
theorem dJ0_isLatin1_aae02_7 : decode cJ0_isLatin1_aae02 7 = .ok (.getfield 15, 3) := by decide +kernel
theorem dJ0_isLatin1_aae02_10 : decode cJ0_isLatin1_aae02 10 = .ok (.ifCond .ne 7, 3) := by decide +kernel
theorem dJ0_isLatin1_aae02_13 : decode cJ0_isLatin1_aae02 13 = .ok (.iconst 1, 1) := by decide +kernel
theorem dJ0_isLatin1_aae02_14 : decode cJ0_isLatin1_aae02 14 = .ok (.goto 4, 3) := by decide +kernel
theorem dJ0_isLatin1_aae02_17 : decode cJ0_isLatin1_aae02 17 = .ok (.iconst 0, 1) := by decide +kernel
theorem dJ0_isLatin1_aae02_18 : decode cJ0_isLatin1_aae02 18 = .ok (.ireturn, 1) := by decide +kernel
def j_Str_isLatin1_18 (N : Nat) (s0 : Int) (w : aw_W) : Option (Int × aw_W) :=
  if s0 = 0 ∨ s0 = 1 then
    some (s0, w)
  else none
theorem w_j_Str_isLatin1_18 {l : Launch} {K : aw_K} (N d : Nat) : ∀ (s0 : Int) (w : aw_W) (y : Int) (v : aw_W), j_Str_isLatin1_18 N s0 w = some (y, v) → aw_AW l K MJ0_isLatin1_aae02 (d) 18 [] [.inl s0] w (some (.inl y), v) := by
  intro s0 w y v h
  unfold j_Str_isLatin1_18 at h
  obtain ⟨hz, h⟩ := aw_cks h
  cases h
  exact aw_zret (pc := 18) rfl hz dJ0_isLatin1_aae02_18
def j_Str_isLatin1_17 (N : Nat) (w : aw_W) : Option (Int × aw_W) :=
  j_Str_isLatin1_18 N 0 w
theorem w_j_Str_isLatin1_17 {l : Launch} {K : aw_K} (N d : Nat) : ∀ (w : aw_W) (y : Int) (v : aw_W), j_Str_isLatin1_17 N w = some (y, v) → aw_AW l K MJ0_isLatin1_aae02 (d) 17 [] [] w (some (.inl y), v) := by
  intro w y v h
  unfold j_Str_isLatin1_17 at h
  refine aw_iconst (pc := 17) dJ0_isLatin1_aae02_17 ⟨by decide, by decide⟩ ?_
  exact aw_sel [] rfl (w_j_Str_isLatin1_18 N d  _ _ _ _ h)
def j_Str_isLatin1 (N : Nat) (w : aw_W) : Option (Int × aw_W) :=
  if (1 : Int) = 0 then
    j_Str_isLatin1_17 N w
  else
    if (0 : Int) = 0 then
      j_Str_isLatin1_18 N 1 w
    else
      j_Str_isLatin1_17 N w
theorem w_j_Str_isLatin1 {l : Launch} {K : aw_K} (N d : Nat) (hd : 0 ≤ d) : ∀ (w : aw_W) (y : Int) (v : aw_W), j_Str_isLatin1 N w = some (y, v) → aw_Met l K MJ0_isLatin1_aae02 (d) [.inr (.inr 220)] w (some (.inl y), v) := by
  intro w y v h
  unfold j_Str_isLatin1 at h
  refine aw_enter rfl (Nat.le_of_ble_eq_true rfl) ?_
  show aw_AW l K MJ0_isLatin1_aae02 (d) 0 [(0, .inr (.inr 220))] [] w (some (.inl y), v)
  refine aw_scom (pc := 0) dJ0_isLatin1_aae02_0 ft_RJ0_38 ?_
  refine aw_if_eq (pc := 3) (tgt := 17) dJ0_isLatin1_aae02_3 (by decide) (fun hc => ?_) (fun hc => ?_)
  · rw [if_pos hc] at h
    exact aw_sel [] rfl (w_j_Str_isLatin1_17 N d  _ _ _ h)
  · rw [if_neg hc] at h
    refine aw_aload_n (pc := 6) (q := 0) dJ0_isLatin1_aae02_6 rfl ?_
    refine aw_scod (pc := 7) (k := 0) dJ0_isLatin1_aae02_7 (by decide) ft_RJ0_15 ?_
    refine aw_if_ne (pc := 10) (tgt := 17) dJ0_isLatin1_aae02_10 (by decide) (fun hc => ?_) (fun hc => ?_)
    · rw [if_neg hc] at h
      exact aw_sel [] rfl (w_j_Str_isLatin1_17 N d  _ _ _ h)
    · rw [if_pos hc] at h
      refine aw_iconst (pc := 13) dJ0_isLatin1_aae02_13 ⟨by decide, by decide⟩ ?_
      refine aw_goto (pc := 14) (tgt := 18) dJ0_isLatin1_aae02_14 (by decide) ?_
      exact aw_sel [] rfl (w_j_Str_isLatin1_18 N d  _ _ _ _ h)
theorem dJ1_charAt_3b067_0 : decode cJ1_charAt_3b067 0 = .ok (.iload_n 1, 1) := by decide +kernel
theorem dJ1_charAt_3b067_1 : decode cJ1_charAt_3b067 1 = .ok (.aload_n 0, 1) := by decide +kernel
theorem dJ1_charAt_3b067_2 : decode cJ1_charAt_3b067 2 = .ok (.arraylength, 1) := by decide +kernel
theorem dJ1_charAt_3b067_3 : decode cJ1_charAt_3b067 3 = .ok (.invokestatic 9, 3) := by decide +kernel
theorem dJ1_charAt_3b067_6 : decode cJ1_charAt_3b067 6 = .ok (.aload_n 0, 1) := by decide +kernel
theorem dJ1_charAt_3b067_7 : decode cJ1_charAt_3b067 7 = .ok (.iload_n 1, 1) := by decide +kernel
theorem dJ1_charAt_3b067_8 : decode cJ1_charAt_3b067 8 = .ok (.baload, 1) := by decide +kernel
theorem dJ1_charAt_3b067_9 : decode cJ1_charAt_3b067 9 = .ok (.sipush 255, 3) := by decide +kernel
theorem dJ1_charAt_3b067_12 : decode cJ1_charAt_3b067 12 = .ok (.iand, 1) := by decide +kernel
theorem dJ1_charAt_3b067_13 : decode cJ1_charAt_3b067 13 = .ok (.i2c, 1) := by decide +kernel
theorem dJ1_charAt_3b067_14 : decode cJ1_charAt_3b067 14 = .ok (.ireturn, 1) := by decide +kernel
def j_Lat_charAt (N : Nat) (x1 : Int) (w : aw_W) : Option (Int × aw_W) :=
  aw_b1 (j_Str_checkIndex N x1 1 w) fun w1 =>
    if 0 ≤ x1 ∧ x1 < 1 then
      if 0 ≤ (aw_chr (aw_and ((aw_txt 0).getD (x1.toNat) 0) 255)) ∧ (aw_chr (aw_and ((aw_txt 0).getD (x1.toNat) 0) 255)) < 65536 then
        some (aw_chr (aw_and ((aw_txt 0).getD (x1.toNat) 0) 255), w1)
      else none
    else none
theorem w_j_Lat_charAt_d {l : Launch} {K : aw_K} (N d : Nat) (hd : 1 ≤ d) : ∀ (x1 : Int) (w : aw_W) (y : Int) (v : aw_W), j_Lat_charAt N x1 w = some (y, v) → aw_Met l K MJ1_charAt_3b067 (d + 1) [.inr (.inr 230), .inl x1] w (some (.inl y), v) := by
  intro x1 w y v h
  unfold j_Lat_charAt at h
  refine aw_enter rfl (Nat.le_of_ble_eq_true rfl) ?_
  show aw_AW l K MJ1_charAt_3b067 (d + 1) 0 [(0, .inr (.inr 230)), (1, .inl x1)] [] w (some (.inl y), v)
  refine aw_iload_n (pc := 0) (q := 1) dJ1_charAt_3b067_0 rfl ?_
  refine aw_aload_n (pc := 1) (q := 0) dJ1_charAt_3b067_1 rfl ?_
  refine aw_stlen (pc := 2) (k := 0) (n := 1) dJ1_charAt_3b067_2 (by decide) rfl ⟨by decide, by decide⟩ ?_
  obtain ⟨w1, h1, h⟩ := aw_b1s h
  refine aw_callS (pc := 3) (as := [.inl x1, .inl 1]) (st := []) (st' := []) dJ1_charAt_3b067_3 cs_RJ1_9 rfl rfl (Nat.le_of_ble_eq_true rfl) (w_j_Str_checkIndex N d (by omega) _ _ _ _ h1) rfl ?_
  refine aw_aload_n (pc := 6) (q := 0) dJ1_charAt_3b067_6 rfl ?_
  refine aw_iload_n (pc := 7) (q := 1) dJ1_charAt_3b067_7 rfl ?_
  obtain ⟨hb, h⟩ := aw_cks h
  refine aw_stald (pc := 8) (k := 0) (v := (aw_txt 0).getD (x1.toNat) 0) dJ1_charAt_3b067_8 (by decide) hb.1 hb.2 rfl (aw_getD_I (by decide) _) ?_
  refine aw_sipush (pc := 9) dJ1_charAt_3b067_9 (by decide) ⟨by decide, by decide⟩ ?_
  refine aw_iand (pc := 12) dJ1_charAt_3b067_12 ?_
  refine aw_i2c (pc := 13) dJ1_charAt_3b067_13 ?_
  obtain ⟨hz, h⟩ := aw_cks h
  cases h
  exact aw_cret (pc := 14) rfl hz dJ1_charAt_3b067_14
theorem w_j_Lat_charAt {l : Launch} {K : aw_K} (N d : Nat) (hd : 2 ≤ d) : ∀ (x1 : Int) (w : aw_W) (y : Int) (v : aw_W), j_Lat_charAt N x1 w = some (y, v) → aw_Met l K MJ1_charAt_3b067 (d) [.inr (.inr 230), .inl x1] w (some (.inl y), v) := by
  obtain ⟨e, rfl⟩ : ∃ e, d = e + 1 := ⟨d - 1, by omega⟩
  exact w_j_Lat_charAt_d N e (by omega)
theorem dJ0_charAt_5068e_0 : decode cJ0_charAt_5068e 0 = .ok (.aload_n 0, 1) := by decide +kernel
theorem dJ0_charAt_5068e_1 : decode cJ0_charAt_5068e 1 = .ok (.invokevirtual 492, 3) := by decide +kernel
theorem dJ0_charAt_5068e_4 : decode cJ0_charAt_5068e 4 = .ok (.ifCond .eq 12, 3) := by decide +kernel
theorem dJ0_charAt_5068e_7 : decode cJ0_charAt_5068e 7 = .ok (.aload_n 0, 1) := by decide +kernel
theorem dJ0_charAt_5068e_8 : decode cJ0_charAt_5068e 8 = .ok (.getfield 9, 3) := by decide +kernel
theorem dJ0_charAt_5068e_11 : decode cJ0_charAt_5068e 11 = .ok (.iload_n 1, 1) := by decide +kernel
theorem dJ0_charAt_5068e_12 : decode cJ0_charAt_5068e 12 = .ok (.invokestatic 495, 3) := by decide +kernel
theorem dJ0_charAt_5068e_15 : decode cJ0_charAt_5068e 15 = .ok (.ireturn, 1) := by decide +kernel
theorem dJ0_charAt_5068e_16 : decode cJ0_charAt_5068e 16 = .ok (.aload_n 0, 1) := by decide +kernel
theorem dJ0_charAt_5068e_17 : decode cJ0_charAt_5068e 17 = .ok (.getfield 9, 3) := by decide +kernel
theorem dJ0_charAt_5068e_20 : decode cJ0_charAt_5068e 20 = .ok (.iload_n 1, 1) := by decide +kernel
theorem dJ0_charAt_5068e_21 : decode cJ0_charAt_5068e 21 = .ok (.invokestatic 498, 3) := by decide +kernel
theorem dJ0_charAt_5068e_24 : decode cJ0_charAt_5068e 24 = .ok (.ireturn, 1) := by decide +kernel
def j_Str_charAt (N : Nat) (x1 : Int) (w : aw_W) : Option (Int × aw_W) :=
  aw_b2 (j_Str_isLatin1 N w) fun r1 w1 =>
    if r1 = 0 then
      none
    else
      aw_b2 (j_Lat_charAt N x1 w1) fun r2 w2 =>
        if 0 ≤ r2 ∧ r2 < 65536 then
          some (r2, w2)
        else none
theorem w_j_Str_charAt_d {l : Launch} {K : aw_K} (N d : Nat) (hd : 2 ≤ d) : ∀ (x1 : Int) (w : aw_W) (y : Int) (v : aw_W), j_Str_charAt N x1 w = some (y, v) → aw_Met l K MJ0_charAt_5068e (d + 1) [.inr (.inr 220), .inl x1] w (some (.inl y), v) := by
  intro x1 w y v h
  unfold j_Str_charAt at h
  refine aw_enter rfl (Nat.le_of_ble_eq_true rfl) ?_
  show aw_AW l K MJ0_charAt_5068e (d + 1) 0 [(0, .inr (.inr 220)), (1, .inl x1)] [] w (some (.inl y), v)
  refine aw_aload_n (pc := 0) (q := 0) dJ0_charAt_5068e_0 rfl ?_
  obtain ⟨r1, w1, h1, h⟩ := aw_b2s h
  refine aw_callT (pc := 1) (k := 0) (as := []) (st := []) (st' := [.inl r1]) dJ0_charAt_5068e_1 cv_RJ0_492 (by decide) rfl rfl rfl (Nat.le_of_ble_eq_true rfl) (w_j_Str_isLatin1 N d (by omega) _ _ _ h1) rfl ?_
  refine aw_if_eq (pc := 4) (tgt := 16) dJ0_charAt_5068e_4 (by decide) (fun hc => ?_) (fun hc => ?_)
  · rw [if_pos hc] at h
    refine aw_aload_n (pc := 16) (q := 0) dJ0_charAt_5068e_16 rfl ?_
    refine aw_sval (pc := 17) (k := 0) dJ0_charAt_5068e_17 (by decide) ft_RJ0_9 ?_
    refine aw_iload_n (pc := 20) (q := 1) dJ0_charAt_5068e_20 rfl ?_
    cases h
  · rw [if_neg hc] at h
    refine aw_aload_n (pc := 7) (q := 0) dJ0_charAt_5068e_7 rfl ?_
    refine aw_sval (pc := 8) (k := 0) dJ0_charAt_5068e_8 (by decide) ft_RJ0_9 ?_
    refine aw_iload_n (pc := 11) (q := 1) dJ0_charAt_5068e_11 rfl ?_
    obtain ⟨r2, w2, h2, h⟩ := aw_b2s h
    refine aw_callS (pc := 12) (as := [.inr (.inr 230), .inl x1]) (st := []) (st' := [.inl r2]) dJ0_charAt_5068e_12 cs_RJ0_495 rfl rfl (Nat.le_of_ble_eq_true rfl) (w_j_Lat_charAt N d (by omega) _ _ _ _ h2) rfl ?_
    obtain ⟨hz, h⟩ := aw_cks h
    cases h
    exact aw_cret (pc := 15) rfl hz dJ0_charAt_5068e_15
theorem w_j_Str_charAt {l : Launch} {K : aw_K} (N d : Nat) (hd : 3 ≤ d) : ∀ (x1 : Int) (w : aw_W) (y : Int) (v : aw_W), j_Str_charAt N x1 w = some (y, v) → aw_Met l K MJ0_charAt_5068e (d) [.inr (.inr 220), .inl x1] w (some (.inl y), v) := by
  obtain ⟨e, rfl⟩ : ∃ e, d = e + 1 := ⟨d - 1, by omega⟩
  exact w_j_Str_charAt_d N e (by omega)
def j_Str_coder_221_14 (N : Nat) (s0 : Int) (w : aw_W) : Option (Int × aw_W) :=
  if -128 ≤ s0 ∧ s0 < 128 then
    some (s0, w)
  else none
theorem w_j_Str_coder_221_14 {l : Launch} {K : aw_K} (N d : Nat) : ∀ (s0 : Int) (w : aw_W) (y : Int) (v : aw_W), j_Str_coder_221_14 N s0 w = some (y, v) → aw_AW l K MJ0_coder_7d493 (d) 14 [] [.inl s0] w (some (.inl y), v) := by
  intro s0 w y v h
  unfold j_Str_coder_221_14 at h
  obtain ⟨hz, h⟩ := aw_cks h
  cases h
  exact aw_bret (pc := 14) rfl hz dJ0_coder_7d493_14
def j_Str_coder_221 (N : Nat) (w : aw_W) : Option (Int × aw_W) :=
  if (1 : Int) = 0 then
    j_Str_coder_221_14 N 1 w
  else
    j_Str_coder_221_14 N 0 w
theorem w_j_Str_coder_221 {l : Launch} {K : aw_K} (N d : Nat) (hd : 0 ≤ d) : ∀ (w : aw_W) (y : Int) (v : aw_W), j_Str_coder_221 N w = some (y, v) → aw_Met l K MJ0_coder_7d493 (d) [.inr (.inr 221)] w (some (.inl y), v) := by
  intro w y v h
  unfold j_Str_coder_221 at h
  refine aw_enter rfl (Nat.le_of_ble_eq_true rfl) ?_
  show aw_AW l K MJ0_coder_7d493 (d) 0 [(0, .inr (.inr 221))] [] w (some (.inl y), v)
  refine aw_scom (pc := 0) dJ0_coder_7d493_0 ft_RJ0_38 ?_
  refine aw_if_eq (pc := 3) (tgt := 13) dJ0_coder_7d493_3 (by decide) (fun hc => ?_) (fun hc => ?_)
  · rw [if_pos hc] at h
    refine aw_iconst (pc := 13) dJ0_coder_7d493_13 ⟨by decide, by decide⟩ ?_
    exact aw_sel [] rfl (w_j_Str_coder_221_14 N d  _ _ _ _ h)
  · rw [if_neg hc] at h
    refine aw_aload_n (pc := 6) (q := 0) dJ0_coder_7d493_6 rfl ?_
    refine aw_scod (pc := 7) (k := 1) dJ0_coder_7d493_7 (by decide) ft_RJ0_15 ?_
    refine aw_goto (pc := 10) (tgt := 14) dJ0_coder_7d493_10 (by decide) ?_
    exact aw_sel [] rfl (w_j_Str_coder_221_14 N d  _ _ _ _ h)
def j_Str_length_221 (N : Nat) (w : aw_W) : Option (Int × aw_W) :=
  aw_b2 (j_Str_coder_221 N w) fun r1 w1 =>
    some (aw_shr 6 r1, w1)
theorem w_j_Str_length_221_d {l : Launch} {K : aw_K} (N d : Nat) (hd : 0 ≤ d) : ∀ (w : aw_W) (y : Int) (v : aw_W), j_Str_length_221 N w = some (y, v) → aw_Met l K MJ0_length_8abf5 (d + 1) [.inr (.inr 221)] w (some (.inl y), v) := by
  intro w y v h
  unfold j_Str_length_221 at h
  refine aw_enter rfl (Nat.le_of_ble_eq_true rfl) ?_
  show aw_AW l K MJ0_length_8abf5 (d + 1) 0 [(0, .inr (.inr 221))] [] w (some (.inl y), v)
  refine aw_aload_n (pc := 0) (q := 0) dJ0_length_8abf5_0 rfl ?_
  refine aw_sval (pc := 1) (k := 1) dJ0_length_8abf5_1 (by decide) ft_RJ0_9 ?_
  refine aw_stlen (pc := 4) (k := 1) (n := 6) dJ0_length_8abf5_4 (by decide) rfl ⟨by decide, by decide⟩ ?_
  refine aw_aload_n (pc := 5) (q := 0) dJ0_length_8abf5_5 rfl ?_
  obtain ⟨r1, w1, h1, h⟩ := aw_b2s h
  refine aw_callT (pc := 6) (k := 1) (as := []) (st := [.inl 6]) (st' := [.inl r1, .inl 6]) dJ0_length_8abf5_6 cv_RJ0_335 (by decide) rfl rfl rfl (Nat.le_of_ble_eq_true rfl) (w_j_Str_coder_221 N d (by omega) _ _ _ h1) rfl ?_
  refine aw_ishr (pc := 9) dJ0_length_8abf5_9 ?_
  cases h
  exact aw_iret (pc := 10) rfl dJ0_length_8abf5_10
theorem w_j_Str_length_221 {l : Launch} {K : aw_K} (N d : Nat) (hd : 1 ≤ d) : ∀ (w : aw_W) (y : Int) (v : aw_W), j_Str_length_221 N w = some (y, v) → aw_Met l K MJ0_length_8abf5 (d) [.inr (.inr 221)] w (some (.inl y), v) := by
  obtain ⟨e, rfl⟩ : ∃ e, d = e + 1 := ⟨d - 1, by omega⟩
  exact w_j_Str_length_221_d N e (by omega)
def j_Str_isLatin1_221_18 (N : Nat) (s0 : Int) (w : aw_W) : Option (Int × aw_W) :=
  if s0 = 0 ∨ s0 = 1 then
    some (s0, w)
  else none
theorem w_j_Str_isLatin1_221_18 {l : Launch} {K : aw_K} (N d : Nat) : ∀ (s0 : Int) (w : aw_W) (y : Int) (v : aw_W), j_Str_isLatin1_221_18 N s0 w = some (y, v) → aw_AW l K MJ0_isLatin1_aae02 (d) 18 [] [.inl s0] w (some (.inl y), v) := by
  intro s0 w y v h
  unfold j_Str_isLatin1_221_18 at h
  obtain ⟨hz, h⟩ := aw_cks h
  cases h
  exact aw_zret (pc := 18) rfl hz dJ0_isLatin1_aae02_18
def j_Str_isLatin1_221_17 (N : Nat) (w : aw_W) : Option (Int × aw_W) :=
  j_Str_isLatin1_221_18 N 0 w
theorem w_j_Str_isLatin1_221_17 {l : Launch} {K : aw_K} (N d : Nat) : ∀ (w : aw_W) (y : Int) (v : aw_W), j_Str_isLatin1_221_17 N w = some (y, v) → aw_AW l K MJ0_isLatin1_aae02 (d) 17 [] [] w (some (.inl y), v) := by
  intro w y v h
  unfold j_Str_isLatin1_221_17 at h
  refine aw_iconst (pc := 17) dJ0_isLatin1_aae02_17 ⟨by decide, by decide⟩ ?_
  exact aw_sel [] rfl (w_j_Str_isLatin1_221_18 N d  _ _ _ _ h)
def j_Str_isLatin1_221 (N : Nat) (w : aw_W) : Option (Int × aw_W) :=
  if (1 : Int) = 0 then
    j_Str_isLatin1_221_17 N w
  else
    if (0 : Int) = 0 then
      j_Str_isLatin1_221_18 N 1 w
    else
      j_Str_isLatin1_221_17 N w
theorem w_j_Str_isLatin1_221 {l : Launch} {K : aw_K} (N d : Nat) (hd : 0 ≤ d) : ∀ (w : aw_W) (y : Int) (v : aw_W), j_Str_isLatin1_221 N w = some (y, v) → aw_Met l K MJ0_isLatin1_aae02 (d) [.inr (.inr 221)] w (some (.inl y), v) := by
  intro w y v h
  unfold j_Str_isLatin1_221 at h
  refine aw_enter rfl (Nat.le_of_ble_eq_true rfl) ?_
  show aw_AW l K MJ0_isLatin1_aae02 (d) 0 [(0, .inr (.inr 221))] [] w (some (.inl y), v)
  refine aw_scom (pc := 0) dJ0_isLatin1_aae02_0 ft_RJ0_38 ?_
  refine aw_if_eq (pc := 3) (tgt := 17) dJ0_isLatin1_aae02_3 (by decide) (fun hc => ?_) (fun hc => ?_)
  · rw [if_pos hc] at h
    exact aw_sel [] rfl (w_j_Str_isLatin1_221_17 N d  _ _ _ h)
  · rw [if_neg hc] at h
    refine aw_aload_n (pc := 6) (q := 0) dJ0_isLatin1_aae02_6 rfl ?_
    refine aw_scod (pc := 7) (k := 1) dJ0_isLatin1_aae02_7 (by decide) ft_RJ0_15 ?_
    refine aw_if_ne (pc := 10) (tgt := 17) dJ0_isLatin1_aae02_10 (by decide) (fun hc => ?_) (fun hc => ?_)
    · rw [if_neg hc] at h
      exact aw_sel [] rfl (w_j_Str_isLatin1_221_17 N d  _ _ _ h)
    · rw [if_pos hc] at h
      refine aw_iconst (pc := 13) dJ0_isLatin1_aae02_13 ⟨by decide, by decide⟩ ?_
      refine aw_goto (pc := 14) (tgt := 18) dJ0_isLatin1_aae02_14 (by decide) ?_
      exact aw_sel [] rfl (w_j_Str_isLatin1_221_18 N d  _ _ _ _ h)
def j_Lat_charAt_231 (N : Nat) (x1 : Int) (w : aw_W) : Option (Int × aw_W) :=
  aw_b1 (j_Str_checkIndex N x1 6 w) fun w1 =>
    if 0 ≤ x1 ∧ x1 < 6 then
      if 0 ≤ (aw_chr (aw_and ((aw_txt 1).getD (x1.toNat) 0) 255)) ∧ (aw_chr (aw_and ((aw_txt 1).getD (x1.toNat) 0) 255)) < 65536 then
        some (aw_chr (aw_and ((aw_txt 1).getD (x1.toNat) 0) 255), w1)
      else none
    else none
theorem w_j_Lat_charAt_231_d {l : Launch} {K : aw_K} (N d : Nat) (hd : 1 ≤ d) : ∀ (x1 : Int) (w : aw_W) (y : Int) (v : aw_W), j_Lat_charAt_231 N x1 w = some (y, v) → aw_Met l K MJ1_charAt_3b067 (d + 1) [.inr (.inr 231), .inl x1] w (some (.inl y), v) := by
  intro x1 w y v h
  unfold j_Lat_charAt_231 at h
  refine aw_enter rfl (Nat.le_of_ble_eq_true rfl) ?_
  show aw_AW l K MJ1_charAt_3b067 (d + 1) 0 [(0, .inr (.inr 231)), (1, .inl x1)] [] w (some (.inl y), v)
  refine aw_iload_n (pc := 0) (q := 1) dJ1_charAt_3b067_0 rfl ?_
  refine aw_aload_n (pc := 1) (q := 0) dJ1_charAt_3b067_1 rfl ?_
  refine aw_stlen (pc := 2) (k := 1) (n := 6) dJ1_charAt_3b067_2 (by decide) rfl ⟨by decide, by decide⟩ ?_
  obtain ⟨w1, h1, h⟩ := aw_b1s h
  refine aw_callS (pc := 3) (as := [.inl x1, .inl 6]) (st := []) (st' := []) dJ1_charAt_3b067_3 cs_RJ1_9 rfl rfl (Nat.le_of_ble_eq_true rfl) (w_j_Str_checkIndex N d (by omega) _ _ _ _ h1) rfl ?_
  refine aw_aload_n (pc := 6) (q := 0) dJ1_charAt_3b067_6 rfl ?_
  refine aw_iload_n (pc := 7) (q := 1) dJ1_charAt_3b067_7 rfl ?_
  obtain ⟨hb, h⟩ := aw_cks h
  refine aw_stald (pc := 8) (k := 1) (v := (aw_txt 1).getD (x1.toNat) 0) dJ1_charAt_3b067_8 (by decide) hb.1 hb.2 rfl (aw_getD_I (by decide) _) ?_
  refine aw_sipush (pc := 9) dJ1_charAt_3b067_9 (by decide) ⟨by decide, by decide⟩ ?_
  refine aw_iand (pc := 12) dJ1_charAt_3b067_12 ?_
  refine aw_i2c (pc := 13) dJ1_charAt_3b067_13 ?_
  obtain ⟨hz, h⟩ := aw_cks h
  cases h
  exact aw_cret (pc := 14) rfl hz dJ1_charAt_3b067_14
theorem w_j_Lat_charAt_231 {l : Launch} {K : aw_K} (N d : Nat) (hd : 2 ≤ d) : ∀ (x1 : Int) (w : aw_W) (y : Int) (v : aw_W), j_Lat_charAt_231 N x1 w = some (y, v) → aw_Met l K MJ1_charAt_3b067 (d) [.inr (.inr 231), .inl x1] w (some (.inl y), v) := by
  obtain ⟨e, rfl⟩ : ∃ e, d = e + 1 := ⟨d - 1, by omega⟩
  exact w_j_Lat_charAt_231_d N e (by omega)
def j_Str_charAt_221 (N : Nat) (x1 : Int) (w : aw_W) : Option (Int × aw_W) :=
  aw_b2 (j_Str_isLatin1_221 N w) fun r1 w1 =>
    if r1 = 0 then
      none
    else
      aw_b2 (j_Lat_charAt_231 N x1 w1) fun r2 w2 =>
        if 0 ≤ r2 ∧ r2 < 65536 then
          some (r2, w2)
        else none
theorem w_j_Str_charAt_221_d {l : Launch} {K : aw_K} (N d : Nat) (hd : 2 ≤ d) : ∀ (x1 : Int) (w : aw_W) (y : Int) (v : aw_W), j_Str_charAt_221 N x1 w = some (y, v) → aw_Met l K MJ0_charAt_5068e (d + 1) [.inr (.inr 221), .inl x1] w (some (.inl y), v) := by
  intro x1 w y v h
  unfold j_Str_charAt_221 at h
  refine aw_enter rfl (Nat.le_of_ble_eq_true rfl) ?_
  show aw_AW l K MJ0_charAt_5068e (d + 1) 0 [(0, .inr (.inr 221)), (1, .inl x1)] [] w (some (.inl y), v)
  refine aw_aload_n (pc := 0) (q := 0) dJ0_charAt_5068e_0 rfl ?_
  obtain ⟨r1, w1, h1, h⟩ := aw_b2s h
  refine aw_callT (pc := 1) (k := 1) (as := []) (st := []) (st' := [.inl r1]) dJ0_charAt_5068e_1 cv_RJ0_492 (by decide) rfl rfl rfl (Nat.le_of_ble_eq_true rfl) (w_j_Str_isLatin1_221 N d (by omega) _ _ _ h1) rfl ?_
  refine aw_if_eq (pc := 4) (tgt := 16) dJ0_charAt_5068e_4 (by decide) (fun hc => ?_) (fun hc => ?_)
  · rw [if_pos hc] at h
    refine aw_aload_n (pc := 16) (q := 0) dJ0_charAt_5068e_16 rfl ?_
    refine aw_sval (pc := 17) (k := 1) dJ0_charAt_5068e_17 (by decide) ft_RJ0_9 ?_
    refine aw_iload_n (pc := 20) (q := 1) dJ0_charAt_5068e_20 rfl ?_
    cases h
  · rw [if_neg hc] at h
    refine aw_aload_n (pc := 7) (q := 0) dJ0_charAt_5068e_7 rfl ?_
    refine aw_sval (pc := 8) (k := 1) dJ0_charAt_5068e_8 (by decide) ft_RJ0_9 ?_
    refine aw_iload_n (pc := 11) (q := 1) dJ0_charAt_5068e_11 rfl ?_
    obtain ⟨r2, w2, h2, h⟩ := aw_b2s h
    refine aw_callS (pc := 12) (as := [.inr (.inr 231), .inl x1]) (st := []) (st' := [.inl r2]) dJ0_charAt_5068e_12 cs_RJ0_495 rfl rfl (Nat.le_of_ble_eq_true rfl) (w_j_Lat_charAt_231 N d (by omega) _ _ _ _ h2) rfl ?_
    obtain ⟨hz, h⟩ := aw_cks h
    cases h
    exact aw_cret (pc := 15) rfl hz dJ0_charAt_5068e_15
theorem w_j_Str_charAt_221 {l : Launch} {K : aw_K} (N d : Nat) (hd : 3 ≤ d) : ∀ (x1 : Int) (w : aw_W) (y : Int) (v : aw_W), j_Str_charAt_221 N x1 w = some (y, v) → aw_Met l K MJ0_charAt_5068e (d) [.inr (.inr 221), .inl x1] w (some (.inl y), v) := by
  obtain ⟨e, rfl⟩ : ∃ e, d = e + 1 := ⟨d - 1, by omega⟩
  exact w_j_Str_charAt_221_d N e (by omega)
def j_Str_coder_223_14 (N : Nat) (s0 : Int) (w : aw_W) : Option (Int × aw_W) :=
  if -128 ≤ s0 ∧ s0 < 128 then
    some (s0, w)
  else none
theorem w_j_Str_coder_223_14 {l : Launch} {K : aw_K} (N d : Nat) : ∀ (s0 : Int) (w : aw_W) (y : Int) (v : aw_W), j_Str_coder_223_14 N s0 w = some (y, v) → aw_AW l K MJ0_coder_7d493 (d) 14 [] [.inl s0] w (some (.inl y), v) := by
  intro s0 w y v h
  unfold j_Str_coder_223_14 at h
  obtain ⟨hz, h⟩ := aw_cks h
  cases h
  exact aw_bret (pc := 14) rfl hz dJ0_coder_7d493_14
def j_Str_coder_223 (N : Nat) (w : aw_W) : Option (Int × aw_W) :=
  if (1 : Int) = 0 then
    j_Str_coder_223_14 N 1 w
  else
    j_Str_coder_223_14 N 0 w
theorem w_j_Str_coder_223 {l : Launch} {K : aw_K} (N d : Nat) (hd : 0 ≤ d) : ∀ (w : aw_W) (y : Int) (v : aw_W), j_Str_coder_223 N w = some (y, v) → aw_Met l K MJ0_coder_7d493 (d) [.inr (.inr 223)] w (some (.inl y), v) := by
  intro w y v h
  unfold j_Str_coder_223 at h
  refine aw_enter rfl (Nat.le_of_ble_eq_true rfl) ?_
  show aw_AW l K MJ0_coder_7d493 (d) 0 [(0, .inr (.inr 223))] [] w (some (.inl y), v)
  refine aw_scom (pc := 0) dJ0_coder_7d493_0 ft_RJ0_38 ?_
  refine aw_if_eq (pc := 3) (tgt := 13) dJ0_coder_7d493_3 (by decide) (fun hc => ?_) (fun hc => ?_)
  · rw [if_pos hc] at h
    refine aw_iconst (pc := 13) dJ0_coder_7d493_13 ⟨by decide, by decide⟩ ?_
    exact aw_sel [] rfl (w_j_Str_coder_223_14 N d  _ _ _ _ h)
  · rw [if_neg hc] at h
    refine aw_aload_n (pc := 6) (q := 0) dJ0_coder_7d493_6 rfl ?_
    refine aw_scod (pc := 7) (k := 3) dJ0_coder_7d493_7 (by decide) ft_RJ0_15 ?_
    refine aw_goto (pc := 10) (tgt := 14) dJ0_coder_7d493_10 (by decide) ?_
    exact aw_sel [] rfl (w_j_Str_coder_223_14 N d  _ _ _ _ h)
def j_Str_length_223 (N : Nat) (w : aw_W) : Option (Int × aw_W) :=
  aw_b2 (j_Str_coder_223 N w) fun r1 w1 =>
    some (aw_shr 4 r1, w1)
theorem w_j_Str_length_223_d {l : Launch} {K : aw_K} (N d : Nat) (hd : 0 ≤ d) : ∀ (w : aw_W) (y : Int) (v : aw_W), j_Str_length_223 N w = some (y, v) → aw_Met l K MJ0_length_8abf5 (d + 1) [.inr (.inr 223)] w (some (.inl y), v) := by
  intro w y v h
  unfold j_Str_length_223 at h
  refine aw_enter rfl (Nat.le_of_ble_eq_true rfl) ?_
  show aw_AW l K MJ0_length_8abf5 (d + 1) 0 [(0, .inr (.inr 223))] [] w (some (.inl y), v)
  refine aw_aload_n (pc := 0) (q := 0) dJ0_length_8abf5_0 rfl ?_
  refine aw_sval (pc := 1) (k := 3) dJ0_length_8abf5_1 (by decide) ft_RJ0_9 ?_
  refine aw_stlen (pc := 4) (k := 3) (n := 4) dJ0_length_8abf5_4 (by decide) rfl ⟨by decide, by decide⟩ ?_
  refine aw_aload_n (pc := 5) (q := 0) dJ0_length_8abf5_5 rfl ?_
  obtain ⟨r1, w1, h1, h⟩ := aw_b2s h
  refine aw_callT (pc := 6) (k := 3) (as := []) (st := [.inl 4]) (st' := [.inl r1, .inl 4]) dJ0_length_8abf5_6 cv_RJ0_335 (by decide) rfl rfl rfl (Nat.le_of_ble_eq_true rfl) (w_j_Str_coder_223 N d (by omega) _ _ _ h1) rfl ?_
  refine aw_ishr (pc := 9) dJ0_length_8abf5_9 ?_
  cases h
  exact aw_iret (pc := 10) rfl dJ0_length_8abf5_10
theorem w_j_Str_length_223 {l : Launch} {K : aw_K} (N d : Nat) (hd : 1 ≤ d) : ∀ (w : aw_W) (y : Int) (v : aw_W), j_Str_length_223 N w = some (y, v) → aw_Met l K MJ0_length_8abf5 (d) [.inr (.inr 223)] w (some (.inl y), v) := by
  obtain ⟨e, rfl⟩ : ∃ e, d = e + 1 := ⟨d - 1, by omega⟩
  exact w_j_Str_length_223_d N e (by omega)
def j_Str_isLatin1_223_18 (N : Nat) (s0 : Int) (w : aw_W) : Option (Int × aw_W) :=
  if s0 = 0 ∨ s0 = 1 then
    some (s0, w)
  else none
theorem w_j_Str_isLatin1_223_18 {l : Launch} {K : aw_K} (N d : Nat) : ∀ (s0 : Int) (w : aw_W) (y : Int) (v : aw_W), j_Str_isLatin1_223_18 N s0 w = some (y, v) → aw_AW l K MJ0_isLatin1_aae02 (d) 18 [] [.inl s0] w (some (.inl y), v) := by
  intro s0 w y v h
  unfold j_Str_isLatin1_223_18 at h
  obtain ⟨hz, h⟩ := aw_cks h
  cases h
  exact aw_zret (pc := 18) rfl hz dJ0_isLatin1_aae02_18
def j_Str_isLatin1_223_17 (N : Nat) (w : aw_W) : Option (Int × aw_W) :=
  j_Str_isLatin1_223_18 N 0 w
theorem w_j_Str_isLatin1_223_17 {l : Launch} {K : aw_K} (N d : Nat) : ∀ (w : aw_W) (y : Int) (v : aw_W), j_Str_isLatin1_223_17 N w = some (y, v) → aw_AW l K MJ0_isLatin1_aae02 (d) 17 [] [] w (some (.inl y), v) := by
  intro w y v h
  unfold j_Str_isLatin1_223_17 at h
  refine aw_iconst (pc := 17) dJ0_isLatin1_aae02_17 ⟨by decide, by decide⟩ ?_
  exact aw_sel [] rfl (w_j_Str_isLatin1_223_18 N d  _ _ _ _ h)
def j_Str_isLatin1_223 (N : Nat) (w : aw_W) : Option (Int × aw_W) :=
  if (1 : Int) = 0 then
    j_Str_isLatin1_223_17 N w
  else
    if (0 : Int) = 0 then
      j_Str_isLatin1_223_18 N 1 w
    else
      j_Str_isLatin1_223_17 N w
theorem w_j_Str_isLatin1_223 {l : Launch} {K : aw_K} (N d : Nat) (hd : 0 ≤ d) : ∀ (w : aw_W) (y : Int) (v : aw_W), j_Str_isLatin1_223 N w = some (y, v) → aw_Met l K MJ0_isLatin1_aae02 (d) [.inr (.inr 223)] w (some (.inl y), v) := by
  intro w y v h
  unfold j_Str_isLatin1_223 at h
  refine aw_enter rfl (Nat.le_of_ble_eq_true rfl) ?_
  show aw_AW l K MJ0_isLatin1_aae02 (d) 0 [(0, .inr (.inr 223))] [] w (some (.inl y), v)
  refine aw_scom (pc := 0) dJ0_isLatin1_aae02_0 ft_RJ0_38 ?_
  refine aw_if_eq (pc := 3) (tgt := 17) dJ0_isLatin1_aae02_3 (by decide) (fun hc => ?_) (fun hc => ?_)
  · rw [if_pos hc] at h
    exact aw_sel [] rfl (w_j_Str_isLatin1_223_17 N d  _ _ _ h)
  · rw [if_neg hc] at h
    refine aw_aload_n (pc := 6) (q := 0) dJ0_isLatin1_aae02_6 rfl ?_
    refine aw_scod (pc := 7) (k := 3) dJ0_isLatin1_aae02_7 (by decide) ft_RJ0_15 ?_
    refine aw_if_ne (pc := 10) (tgt := 17) dJ0_isLatin1_aae02_10 (by decide) (fun hc => ?_) (fun hc => ?_)
    · rw [if_neg hc] at h
      exact aw_sel [] rfl (w_j_Str_isLatin1_223_17 N d  _ _ _ h)
    · rw [if_pos hc] at h
      refine aw_iconst (pc := 13) dJ0_isLatin1_aae02_13 ⟨by decide, by decide⟩ ?_
      refine aw_goto (pc := 14) (tgt := 18) dJ0_isLatin1_aae02_14 (by decide) ?_
      exact aw_sel [] rfl (w_j_Str_isLatin1_223_18 N d  _ _ _ _ h)
def j_Lat_charAt_233 (N : Nat) (x1 : Int) (w : aw_W) : Option (Int × aw_W) :=
  aw_b1 (j_Str_checkIndex N x1 4 w) fun w1 =>
    if 0 ≤ x1 ∧ x1 < 4 then
      if 0 ≤ (aw_chr (aw_and ((aw_txt 3).getD (x1.toNat) 0) 255)) ∧ (aw_chr (aw_and ((aw_txt 3).getD (x1.toNat) 0) 255)) < 65536 then
        some (aw_chr (aw_and ((aw_txt 3).getD (x1.toNat) 0) 255), w1)
      else none
    else none
theorem w_j_Lat_charAt_233_d {l : Launch} {K : aw_K} (N d : Nat) (hd : 1 ≤ d) : ∀ (x1 : Int) (w : aw_W) (y : Int) (v : aw_W), j_Lat_charAt_233 N x1 w = some (y, v) → aw_Met l K MJ1_charAt_3b067 (d + 1) [.inr (.inr 233), .inl x1] w (some (.inl y), v) := by
  intro x1 w y v h
  unfold j_Lat_charAt_233 at h
  refine aw_enter rfl (Nat.le_of_ble_eq_true rfl) ?_
  show aw_AW l K MJ1_charAt_3b067 (d + 1) 0 [(0, .inr (.inr 233)), (1, .inl x1)] [] w (some (.inl y), v)
  refine aw_iload_n (pc := 0) (q := 1) dJ1_charAt_3b067_0 rfl ?_
  refine aw_aload_n (pc := 1) (q := 0) dJ1_charAt_3b067_1 rfl ?_
  refine aw_stlen (pc := 2) (k := 3) (n := 4) dJ1_charAt_3b067_2 (by decide) rfl ⟨by decide, by decide⟩ ?_
  obtain ⟨w1, h1, h⟩ := aw_b1s h
  refine aw_callS (pc := 3) (as := [.inl x1, .inl 4]) (st := []) (st' := []) dJ1_charAt_3b067_3 cs_RJ1_9 rfl rfl (Nat.le_of_ble_eq_true rfl) (w_j_Str_checkIndex N d (by omega) _ _ _ _ h1) rfl ?_
  refine aw_aload_n (pc := 6) (q := 0) dJ1_charAt_3b067_6 rfl ?_
  refine aw_iload_n (pc := 7) (q := 1) dJ1_charAt_3b067_7 rfl ?_
  obtain ⟨hb, h⟩ := aw_cks h
  refine aw_stald (pc := 8) (k := 3) (v := (aw_txt 3).getD (x1.toNat) 0) dJ1_charAt_3b067_8 (by decide) hb.1 hb.2 rfl (aw_getD_I (by decide) _) ?_
  refine aw_sipush (pc := 9) dJ1_charAt_3b067_9 (by decide) ⟨by decide, by decide⟩ ?_
  refine aw_iand (pc := 12) dJ1_charAt_3b067_12 ?_
  refine aw_i2c (pc := 13) dJ1_charAt_3b067_13 ?_
  obtain ⟨hz, h⟩ := aw_cks h
  cases h
  exact aw_cret (pc := 14) rfl hz dJ1_charAt_3b067_14
theorem w_j_Lat_charAt_233 {l : Launch} {K : aw_K} (N d : Nat) (hd : 2 ≤ d) : ∀ (x1 : Int) (w : aw_W) (y : Int) (v : aw_W), j_Lat_charAt_233 N x1 w = some (y, v) → aw_Met l K MJ1_charAt_3b067 (d) [.inr (.inr 233), .inl x1] w (some (.inl y), v) := by
  obtain ⟨e, rfl⟩ : ∃ e, d = e + 1 := ⟨d - 1, by omega⟩
  exact w_j_Lat_charAt_233_d N e (by omega)
def j_Str_charAt_223 (N : Nat) (x1 : Int) (w : aw_W) : Option (Int × aw_W) :=
  aw_b2 (j_Str_isLatin1_223 N w) fun r1 w1 =>
    if r1 = 0 then
      none
    else
      aw_b2 (j_Lat_charAt_233 N x1 w1) fun r2 w2 =>
        if 0 ≤ r2 ∧ r2 < 65536 then
          some (r2, w2)
        else none
theorem w_j_Str_charAt_223_d {l : Launch} {K : aw_K} (N d : Nat) (hd : 2 ≤ d) : ∀ (x1 : Int) (w : aw_W) (y : Int) (v : aw_W), j_Str_charAt_223 N x1 w = some (y, v) → aw_Met l K MJ0_charAt_5068e (d + 1) [.inr (.inr 223), .inl x1] w (some (.inl y), v) := by
  intro x1 w y v h
  unfold j_Str_charAt_223 at h
  refine aw_enter rfl (Nat.le_of_ble_eq_true rfl) ?_
  show aw_AW l K MJ0_charAt_5068e (d + 1) 0 [(0, .inr (.inr 223)), (1, .inl x1)] [] w (some (.inl y), v)
  refine aw_aload_n (pc := 0) (q := 0) dJ0_charAt_5068e_0 rfl ?_
  obtain ⟨r1, w1, h1, h⟩ := aw_b2s h
  refine aw_callT (pc := 1) (k := 3) (as := []) (st := []) (st' := [.inl r1]) dJ0_charAt_5068e_1 cv_RJ0_492 (by decide) rfl rfl rfl (Nat.le_of_ble_eq_true rfl) (w_j_Str_isLatin1_223 N d (by omega) _ _ _ h1) rfl ?_
  refine aw_if_eq (pc := 4) (tgt := 16) dJ0_charAt_5068e_4 (by decide) (fun hc => ?_) (fun hc => ?_)
  · rw [if_pos hc] at h
    refine aw_aload_n (pc := 16) (q := 0) dJ0_charAt_5068e_16 rfl ?_
    refine aw_sval (pc := 17) (k := 3) dJ0_charAt_5068e_17 (by decide) ft_RJ0_9 ?_
    refine aw_iload_n (pc := 20) (q := 1) dJ0_charAt_5068e_20 rfl ?_
    cases h
  · rw [if_neg hc] at h
    refine aw_aload_n (pc := 7) (q := 0) dJ0_charAt_5068e_7 rfl ?_
    refine aw_sval (pc := 8) (k := 3) dJ0_charAt_5068e_8 (by decide) ft_RJ0_9 ?_
    refine aw_iload_n (pc := 11) (q := 1) dJ0_charAt_5068e_11 rfl ?_
    obtain ⟨r2, w2, h2, h⟩ := aw_b2s h
    refine aw_callS (pc := 12) (as := [.inr (.inr 233), .inl x1]) (st := []) (st' := [.inl r2]) dJ0_charAt_5068e_12 cs_RJ0_495 rfl rfl (Nat.le_of_ble_eq_true rfl) (w_j_Lat_charAt_233 N d (by omega) _ _ _ _ h2) rfl ?_
    obtain ⟨hz, h⟩ := aw_cks h
    cases h
    exact aw_cret (pc := 15) rfl hz dJ0_charAt_5068e_15
theorem w_j_Str_charAt_223 {l : Launch} {K : aw_K} (N d : Nat) (hd : 3 ≤ d) : ∀ (x1 : Int) (w : aw_W) (y : Int) (v : aw_W), j_Str_charAt_223 N x1 w = some (y, v) → aw_Met l K MJ0_charAt_5068e (d) [.inr (.inr 223), .inl x1] w (some (.inl y), v) := by
  obtain ⟨e, rfl⟩ : ∃ e, d = e + 1 := ⟨d - 1, by omega⟩
  exact w_j_Str_charAt_223_d N e (by omega)
def j_Str_coder_222_14 (N : Nat) (s0 : Int) (w : aw_W) : Option (Int × aw_W) :=
  if -128 ≤ s0 ∧ s0 < 128 then
    some (s0, w)
  else none
theorem w_j_Str_coder_222_14 {l : Launch} {K : aw_K} (N d : Nat) : ∀ (s0 : Int) (w : aw_W) (y : Int) (v : aw_W), j_Str_coder_222_14 N s0 w = some (y, v) → aw_AW l K MJ0_coder_7d493 (d) 14 [] [.inl s0] w (some (.inl y), v) := by
  intro s0 w y v h
  unfold j_Str_coder_222_14 at h
  obtain ⟨hz, h⟩ := aw_cks h
  cases h
  exact aw_bret (pc := 14) rfl hz dJ0_coder_7d493_14
def j_Str_coder_222 (N : Nat) (w : aw_W) : Option (Int × aw_W) :=
  if (1 : Int) = 0 then
    j_Str_coder_222_14 N 1 w
  else
    j_Str_coder_222_14 N 0 w
theorem w_j_Str_coder_222 {l : Launch} {K : aw_K} (N d : Nat) (hd : 0 ≤ d) : ∀ (w : aw_W) (y : Int) (v : aw_W), j_Str_coder_222 N w = some (y, v) → aw_Met l K MJ0_coder_7d493 (d) [.inr (.inr 222)] w (some (.inl y), v) := by
  intro w y v h
  unfold j_Str_coder_222 at h
  refine aw_enter rfl (Nat.le_of_ble_eq_true rfl) ?_
  show aw_AW l K MJ0_coder_7d493 (d) 0 [(0, .inr (.inr 222))] [] w (some (.inl y), v)
  refine aw_scom (pc := 0) dJ0_coder_7d493_0 ft_RJ0_38 ?_
  refine aw_if_eq (pc := 3) (tgt := 13) dJ0_coder_7d493_3 (by decide) (fun hc => ?_) (fun hc => ?_)
  · rw [if_pos hc] at h
    refine aw_iconst (pc := 13) dJ0_coder_7d493_13 ⟨by decide, by decide⟩ ?_
    exact aw_sel [] rfl (w_j_Str_coder_222_14 N d  _ _ _ _ h)
  · rw [if_neg hc] at h
    refine aw_aload_n (pc := 6) (q := 0) dJ0_coder_7d493_6 rfl ?_
    refine aw_scod (pc := 7) (k := 2) dJ0_coder_7d493_7 (by decide) ft_RJ0_15 ?_
    refine aw_goto (pc := 10) (tgt := 14) dJ0_coder_7d493_10 (by decide) ?_
    exact aw_sel [] rfl (w_j_Str_coder_222_14 N d  _ _ _ _ h)
def j_Str_length_222 (N : Nat) (w : aw_W) : Option (Int × aw_W) :=
  aw_b2 (j_Str_coder_222 N w) fun r1 w1 =>
    some (aw_shr 5 r1, w1)
theorem w_j_Str_length_222_d {l : Launch} {K : aw_K} (N d : Nat) (hd : 0 ≤ d) : ∀ (w : aw_W) (y : Int) (v : aw_W), j_Str_length_222 N w = some (y, v) → aw_Met l K MJ0_length_8abf5 (d + 1) [.inr (.inr 222)] w (some (.inl y), v) := by
  intro w y v h
  unfold j_Str_length_222 at h
  refine aw_enter rfl (Nat.le_of_ble_eq_true rfl) ?_
  show aw_AW l K MJ0_length_8abf5 (d + 1) 0 [(0, .inr (.inr 222))] [] w (some (.inl y), v)
  refine aw_aload_n (pc := 0) (q := 0) dJ0_length_8abf5_0 rfl ?_
  refine aw_sval (pc := 1) (k := 2) dJ0_length_8abf5_1 (by decide) ft_RJ0_9 ?_
  refine aw_stlen (pc := 4) (k := 2) (n := 5) dJ0_length_8abf5_4 (by decide) rfl ⟨by decide, by decide⟩ ?_
  refine aw_aload_n (pc := 5) (q := 0) dJ0_length_8abf5_5 rfl ?_
  obtain ⟨r1, w1, h1, h⟩ := aw_b2s h
  refine aw_callT (pc := 6) (k := 2) (as := []) (st := [.inl 5]) (st' := [.inl r1, .inl 5]) dJ0_length_8abf5_6 cv_RJ0_335 (by decide) rfl rfl rfl (Nat.le_of_ble_eq_true rfl) (w_j_Str_coder_222 N d (by omega) _ _ _ h1) rfl ?_
  refine aw_ishr (pc := 9) dJ0_length_8abf5_9 ?_
  cases h
  exact aw_iret (pc := 10) rfl dJ0_length_8abf5_10
theorem w_j_Str_length_222 {l : Launch} {K : aw_K} (N d : Nat) (hd : 1 ≤ d) : ∀ (w : aw_W) (y : Int) (v : aw_W), j_Str_length_222 N w = some (y, v) → aw_Met l K MJ0_length_8abf5 (d) [.inr (.inr 222)] w (some (.inl y), v) := by
  obtain ⟨e, rfl⟩ : ∃ e, d = e + 1 := ⟨d - 1, by omega⟩
  exact w_j_Str_length_222_d N e (by omega)
def j_Str_isLatin1_222_18 (N : Nat) (s0 : Int) (w : aw_W) : Option (Int × aw_W) :=
  if s0 = 0 ∨ s0 = 1 then
    some (s0, w)
  else none
theorem w_j_Str_isLatin1_222_18 {l : Launch} {K : aw_K} (N d : Nat) : ∀ (s0 : Int) (w : aw_W) (y : Int) (v : aw_W), j_Str_isLatin1_222_18 N s0 w = some (y, v) → aw_AW l K MJ0_isLatin1_aae02 (d) 18 [] [.inl s0] w (some (.inl y), v) := by
  intro s0 w y v h
  unfold j_Str_isLatin1_222_18 at h
  obtain ⟨hz, h⟩ := aw_cks h
  cases h
  exact aw_zret (pc := 18) rfl hz dJ0_isLatin1_aae02_18
def j_Str_isLatin1_222_17 (N : Nat) (w : aw_W) : Option (Int × aw_W) :=
  j_Str_isLatin1_222_18 N 0 w
theorem w_j_Str_isLatin1_222_17 {l : Launch} {K : aw_K} (N d : Nat) : ∀ (w : aw_W) (y : Int) (v : aw_W), j_Str_isLatin1_222_17 N w = some (y, v) → aw_AW l K MJ0_isLatin1_aae02 (d) 17 [] [] w (some (.inl y), v) := by
  intro w y v h
  unfold j_Str_isLatin1_222_17 at h
  refine aw_iconst (pc := 17) dJ0_isLatin1_aae02_17 ⟨by decide, by decide⟩ ?_
  exact aw_sel [] rfl (w_j_Str_isLatin1_222_18 N d  _ _ _ _ h)
def j_Str_isLatin1_222 (N : Nat) (w : aw_W) : Option (Int × aw_W) :=
  if (1 : Int) = 0 then
    j_Str_isLatin1_222_17 N w
  else
    if (0 : Int) = 0 then
      j_Str_isLatin1_222_18 N 1 w
    else
      j_Str_isLatin1_222_17 N w
theorem w_j_Str_isLatin1_222 {l : Launch} {K : aw_K} (N d : Nat) (hd : 0 ≤ d) : ∀ (w : aw_W) (y : Int) (v : aw_W), j_Str_isLatin1_222 N w = some (y, v) → aw_Met l K MJ0_isLatin1_aae02 (d) [.inr (.inr 222)] w (some (.inl y), v) := by
  intro w y v h
  unfold j_Str_isLatin1_222 at h
  refine aw_enter rfl (Nat.le_of_ble_eq_true rfl) ?_
  show aw_AW l K MJ0_isLatin1_aae02 (d) 0 [(0, .inr (.inr 222))] [] w (some (.inl y), v)
  refine aw_scom (pc := 0) dJ0_isLatin1_aae02_0 ft_RJ0_38 ?_
  refine aw_if_eq (pc := 3) (tgt := 17) dJ0_isLatin1_aae02_3 (by decide) (fun hc => ?_) (fun hc => ?_)
  · rw [if_pos hc] at h
    exact aw_sel [] rfl (w_j_Str_isLatin1_222_17 N d  _ _ _ h)
  · rw [if_neg hc] at h
    refine aw_aload_n (pc := 6) (q := 0) dJ0_isLatin1_aae02_6 rfl ?_
    refine aw_scod (pc := 7) (k := 2) dJ0_isLatin1_aae02_7 (by decide) ft_RJ0_15 ?_
    refine aw_if_ne (pc := 10) (tgt := 17) dJ0_isLatin1_aae02_10 (by decide) (fun hc => ?_) (fun hc => ?_)
    · rw [if_neg hc] at h
      exact aw_sel [] rfl (w_j_Str_isLatin1_222_17 N d  _ _ _ h)
    · rw [if_pos hc] at h
      refine aw_iconst (pc := 13) dJ0_isLatin1_aae02_13 ⟨by decide, by decide⟩ ?_
      refine aw_goto (pc := 14) (tgt := 18) dJ0_isLatin1_aae02_14 (by decide) ?_
      exact aw_sel [] rfl (w_j_Str_isLatin1_222_18 N d  _ _ _ _ h)
def j_Lat_charAt_232 (N : Nat) (x1 : Int) (w : aw_W) : Option (Int × aw_W) :=
  aw_b1 (j_Str_checkIndex N x1 5 w) fun w1 =>
    if 0 ≤ x1 ∧ x1 < 5 then
      if 0 ≤ (aw_chr (aw_and ((aw_txt 2).getD (x1.toNat) 0) 255)) ∧ (aw_chr (aw_and ((aw_txt 2).getD (x1.toNat) 0) 255)) < 65536 then
        some (aw_chr (aw_and ((aw_txt 2).getD (x1.toNat) 0) 255), w1)
      else none
    else none
theorem w_j_Lat_charAt_232_d {l : Launch} {K : aw_K} (N d : Nat) (hd : 1 ≤ d) : ∀ (x1 : Int) (w : aw_W) (y : Int) (v : aw_W), j_Lat_charAt_232 N x1 w = some (y, v) → aw_Met l K MJ1_charAt_3b067 (d + 1) [.inr (.inr 232), .inl x1] w (some (.inl y), v) := by
  intro x1 w y v h
  unfold j_Lat_charAt_232 at h
  refine aw_enter rfl (Nat.le_of_ble_eq_true rfl) ?_
  show aw_AW l K MJ1_charAt_3b067 (d + 1) 0 [(0, .inr (.inr 232)), (1, .inl x1)] [] w (some (.inl y), v)
  refine aw_iload_n (pc := 0) (q := 1) dJ1_charAt_3b067_0 rfl ?_
  refine aw_aload_n (pc := 1) (q := 0) dJ1_charAt_3b067_1 rfl ?_
  refine aw_stlen (pc := 2) (k := 2) (n := 5) dJ1_charAt_3b067_2 (by decide) rfl ⟨by decide, by decide⟩ ?_
  obtain ⟨w1, h1, h⟩ := aw_b1s h
  refine aw_callS (pc := 3) (as := [.inl x1, .inl 5]) (st := []) (st' := []) dJ1_charAt_3b067_3 cs_RJ1_9 rfl rfl (Nat.le_of_ble_eq_true rfl) (w_j_Str_checkIndex N d (by omega) _ _ _ _ h1) rfl ?_
  refine aw_aload_n (pc := 6) (q := 0) dJ1_charAt_3b067_6 rfl ?_
  refine aw_iload_n (pc := 7) (q := 1) dJ1_charAt_3b067_7 rfl ?_
  obtain ⟨hb, h⟩ := aw_cks h
  refine aw_stald (pc := 8) (k := 2) (v := (aw_txt 2).getD (x1.toNat) 0) dJ1_charAt_3b067_8 (by decide) hb.1 hb.2 rfl (aw_getD_I (by decide) _) ?_
  refine aw_sipush (pc := 9) dJ1_charAt_3b067_9 (by decide) ⟨by decide, by decide⟩ ?_
  refine aw_iand (pc := 12) dJ1_charAt_3b067_12 ?_
  refine aw_i2c (pc := 13) dJ1_charAt_3b067_13 ?_
  obtain ⟨hz, h⟩ := aw_cks h
  cases h
  exact aw_cret (pc := 14) rfl hz dJ1_charAt_3b067_14
theorem w_j_Lat_charAt_232 {l : Launch} {K : aw_K} (N d : Nat) (hd : 2 ≤ d) : ∀ (x1 : Int) (w : aw_W) (y : Int) (v : aw_W), j_Lat_charAt_232 N x1 w = some (y, v) → aw_Met l K MJ1_charAt_3b067 (d) [.inr (.inr 232), .inl x1] w (some (.inl y), v) := by
  obtain ⟨e, rfl⟩ : ∃ e, d = e + 1 := ⟨d - 1, by omega⟩
  exact w_j_Lat_charAt_232_d N e (by omega)
def j_Str_charAt_222 (N : Nat) (x1 : Int) (w : aw_W) : Option (Int × aw_W) :=
  aw_b2 (j_Str_isLatin1_222 N w) fun r1 w1 =>
    if r1 = 0 then
      none
    else
      aw_b2 (j_Lat_charAt_232 N x1 w1) fun r2 w2 =>
        if 0 ≤ r2 ∧ r2 < 65536 then
          some (r2, w2)
        else none
theorem w_j_Str_charAt_222_d {l : Launch} {K : aw_K} (N d : Nat) (hd : 2 ≤ d) : ∀ (x1 : Int) (w : aw_W) (y : Int) (v : aw_W), j_Str_charAt_222 N x1 w = some (y, v) → aw_Met l K MJ0_charAt_5068e (d + 1) [.inr (.inr 222), .inl x1] w (some (.inl y), v) := by
  intro x1 w y v h
  unfold j_Str_charAt_222 at h
  refine aw_enter rfl (Nat.le_of_ble_eq_true rfl) ?_
  show aw_AW l K MJ0_charAt_5068e (d + 1) 0 [(0, .inr (.inr 222)), (1, .inl x1)] [] w (some (.inl y), v)
  refine aw_aload_n (pc := 0) (q := 0) dJ0_charAt_5068e_0 rfl ?_
  obtain ⟨r1, w1, h1, h⟩ := aw_b2s h
  refine aw_callT (pc := 1) (k := 2) (as := []) (st := []) (st' := [.inl r1]) dJ0_charAt_5068e_1 cv_RJ0_492 (by decide) rfl rfl rfl (Nat.le_of_ble_eq_true rfl) (w_j_Str_isLatin1_222 N d (by omega) _ _ _ h1) rfl ?_
  refine aw_if_eq (pc := 4) (tgt := 16) dJ0_charAt_5068e_4 (by decide) (fun hc => ?_) (fun hc => ?_)
  · rw [if_pos hc] at h
    refine aw_aload_n (pc := 16) (q := 0) dJ0_charAt_5068e_16 rfl ?_
    refine aw_sval (pc := 17) (k := 2) dJ0_charAt_5068e_17 (by decide) ft_RJ0_9 ?_
    refine aw_iload_n (pc := 20) (q := 1) dJ0_charAt_5068e_20 rfl ?_
    cases h
  · rw [if_neg hc] at h
    refine aw_aload_n (pc := 7) (q := 0) dJ0_charAt_5068e_7 rfl ?_
    refine aw_sval (pc := 8) (k := 2) dJ0_charAt_5068e_8 (by decide) ft_RJ0_9 ?_
    refine aw_iload_n (pc := 11) (q := 1) dJ0_charAt_5068e_11 rfl ?_
    obtain ⟨r2, w2, h2, h⟩ := aw_b2s h
    refine aw_callS (pc := 12) (as := [.inr (.inr 232), .inl x1]) (st := []) (st' := [.inl r2]) dJ0_charAt_5068e_12 cs_RJ0_495 rfl rfl (Nat.le_of_ble_eq_true rfl) (w_j_Lat_charAt_232 N d (by omega) _ _ _ _ h2) rfl ?_
    obtain ⟨hz, h⟩ := aw_cks h
    cases h
    exact aw_cret (pc := 15) rfl hz dJ0_charAt_5068e_15
theorem w_j_Str_charAt_222 {l : Launch} {K : aw_K} (N d : Nat) (hd : 3 ≤ d) : ∀ (x1 : Int) (w : aw_W) (y : Int) (v : aw_W), j_Str_charAt_222 N x1 w = some (y, v) → aw_Met l K MJ0_charAt_5068e (d) [.inr (.inr 222), .inl x1] w (some (.inl y), v) := by
  obtain ⟨e, rfl⟩ : ∃ e, d = e + 1 := ⟨d - 1, by omega⟩
  exact w_j_Str_charAt_222_d N e (by omega)
