theorem fG_2 : ∀ w ∈ u_ws RX2 TX2 3, w ∈ aw_G := by
  have h : (u_ws RX2 TX2 3).all (fun w => decide (w ∈ lw_tbl) && goodWord w) = true := by decide +kernel
  intro w hw
  have h1 := List.all_eq_true.mp h w hw
  simp only [Bool.and_eq_true, decide_eq_true_eq] at h1
  exact aw_inG h1.1 h1.2
theorem fp_RX2_18 : aw_FP RX2 18 2 2 .int := ⟨RX2, TX2, 3, tyX2, rfl, by decide, fG_2, aw_inG (List.mem_of_getElem? (i := 226) (by decide +kernel)) rfl, tyX2_ok, nmX2, rfl, rfl⟩
theorem fl_RX2_18 : aw_FL RX2 18 2 2 := ⟨RX2, TX2, 3, rfl, by decide, fG_2, aw_inG (List.mem_of_getElem? (i := 226) (by decide +kernel)) rfl⟩
theorem fl_RX2_9 : aw_FL RX2 9 2 0 := ⟨RX2, TX2, 3, rfl, by decide, fG_2, aw_inG (List.mem_of_getElem? (i := 224) (by decide +kernel)) rfl⟩
theorem fl_RX2_15 : aw_FL RX2 15 2 1 := ⟨RX2, TX2, 3, rfl, by decide, fG_2, aw_inG (List.mem_of_getElem? (i := 225) (by decide +kernel)) rfl⟩
abbrev MX2_alike : aw_M := (yX2_alike, cX2_alike, 3, some .boolean)
theorem cbX2_alike : aw_CB MX2_alike 2 := ⟨List.mem_of_getElem? (i := 730) (by decide +kernel), ⟨by decide, by decide, by decide +kernel⟩, aw_inG (List.mem_of_getElem? (i := 91) (by decide +kernel)) rfl, by decide⟩
theorem cv_RX2_22 : aw_CV RX2 22 MX2_alike 2 := ⟨cbX2_alike, aw_inG (List.mem_of_getElem? (i := 727) (by decide +kernel)) rfl, aw_inG (List.mem_of_getElem? (i := 729) (by decide +kernel)) rfl, aw_inG (List.mem_of_getElem? (i := 13) (by decide +kernel)) rfl⟩
abbrev MX2_clear : aw_M := (yX2_clear, cX2_clear, 1, none)
abbrev MX2_enter : aw_M := (yX2_enter, cX2_enter, 4, none)
abbrev MX2_holder : aw_M := (yX2_holder, cX2_holder, 4, some .int)
abbrev MX2_firsts : aw_M := (yX2_firsts, cX2_firsts, 4, some .int)
theorem dX2_clear_0 : decode cX2_clear 0 = .ok (.aload_n 0, 1) := by decide +kernel
theorem dX2_clear_1 : decode cX2_clear 1 = .ok (.iconst 0, 1) := by decide +kernel
theorem dX2_clear_2 : decode cX2_clear 2 = .ok (.putfield 18, 3) := by decide +kernel
theorem dX2_clear_5 : decode cX2_clear 5 = .ok (.return_, 1) := by decide +kernel
def x_Order_clear (N : Nat) (w : aw_W) : Option (aw_W) :=
  some (aw_up w 18 2 0)
theorem w_x_Order_clear {l : Launch} {K : aw_K} (N d : Nat) (hd : 0 ≤ d) : ∀ (w v : aw_W), x_Order_clear N w = some v → aw_Met l K MX2_clear (d) [.inr (.inr 18)] w (none, v) := by
  intro w v h
  unfold x_Order_clear at h
  refine aw_enter rfl (Nat.le_of_ble_eq_true rfl) ?_
  show aw_AW l K MX2_clear (d) 0 [(0, .inr (.inr 18))] [] w (none, v)
  refine aw_aload_n (pc := 0) (q := 0) dX2_clear_0 rfl ?_
  refine aw_iconst (pc := 1) dX2_clear_1 ⟨by decide, by decide⟩ ?_
  refine aw_puti (pc := 2) dX2_clear_2 fp_RX2_18 (by decide) rfl rfl ?_
  cases h
  exact aw_vret (pc := 5) rfl dX2_clear_5
theorem dX2_enter_0 : decode cX2_enter 0 = .ok (.aload_n 0, 1) := by decide +kernel
theorem dX2_enter_1 : decode cX2_enter 1 = .ok (.getfield 18, 3) := by decide +kernel
theorem dX2_enter_4 : decode cX2_enter 4 = .ok (.aload_n 0, 1) := by decide +kernel
theorem dX2_enter_5 : decode cX2_enter 5 = .ok (.getfield 9, 3) := by decide +kernel
theorem dX2_enter_8 : decode cX2_enter 8 = .ok (.arraylength, 1) := by decide +kernel
theorem dX2_enter_9 : decode cX2_enter 9 = .ok (.if_icmp .lt 4, 3) := by decide +kernel
theorem dX2_enter_12 : decode cX2_enter 12 = .ok (.return_, 1) := by decide +kernel
theorem dX2_enter_13 : decode cX2_enter 13 = .ok (.aload_n 0, 1) := by decide +kernel
theorem dX2_enter_14 : decode cX2_enter 14 = .ok (.getfield 18, 3) := by decide +kernel
theorem dX2_enter_17 : decode cX2_enter 17 = .ok (.istore_n 3, 1) := by decide +kernel
theorem dX2_enter_18 : decode cX2_enter 18 = .ok (.iload_n 3, 1) := by decide +kernel
theorem dX2_enter_19 : decode cX2_enter 19 = .ok (.ifCond .le 49, 3) := by decide +kernel
theorem dX2_enter_22 : decode cX2_enter 22 = .ok (.aload_n 0, 1) := by decide +kernel
theorem dX2_enter_23 : decode cX2_enter 23 = .ok (.getfield 15, 3) := by decide +kernel
theorem dX2_enter_26 : decode cX2_enter 26 = .ok (.iload_n 3, 1) := by decide +kernel
theorem dX2_enter_27 : decode cX2_enter 27 = .ok (.iconst 1, 1) := by decide +kernel
theorem dX2_enter_28 : decode cX2_enter 28 = .ok (.isub, 1) := by decide +kernel
theorem dX2_enter_29 : decode cX2_enter 29 = .ok (.iaload, 1) := by decide +kernel
theorem dX2_enter_30 : decode cX2_enter 30 = .ok (.iload_n 2, 1) := by decide +kernel
theorem dX2_enter_31 : decode cX2_enter 31 = .ok (.if_icmp .ge 37, 3) := by decide +kernel
theorem dX2_enter_34 : decode cX2_enter 34 = .ok (.aload_n 0, 1) := by decide +kernel
theorem dX2_enter_35 : decode cX2_enter 35 = .ok (.getfield 15, 3) := by decide +kernel
theorem dX2_enter_38 : decode cX2_enter 38 = .ok (.iload_n 3, 1) := by decide +kernel
theorem dX2_enter_39 : decode cX2_enter 39 = .ok (.aload_n 0, 1) := by decide +kernel
theorem dX2_enter_40 : decode cX2_enter 40 = .ok (.getfield 15, 3) := by decide +kernel
theorem dX2_enter_43 : decode cX2_enter 43 = .ok (.iload_n 3, 1) := by decide +kernel
theorem dX2_enter_44 : decode cX2_enter 44 = .ok (.iconst 1, 1) := by decide +kernel
theorem dX2_enter_45 : decode cX2_enter 45 = .ok (.isub, 1) := by decide +kernel
theorem dX2_enter_46 : decode cX2_enter 46 = .ok (.iaload, 1) := by decide +kernel
theorem dX2_enter_47 : decode cX2_enter 47 = .ok (.iastore, 1) := by decide +kernel
theorem dX2_enter_48 : decode cX2_enter 48 = .ok (.aload_n 0, 1) := by decide +kernel
theorem dX2_enter_49 : decode cX2_enter 49 = .ok (.getfield 9, 3) := by decide +kernel
theorem dX2_enter_52 : decode cX2_enter 52 = .ok (.iload_n 3, 1) := by decide +kernel
theorem dX2_enter_53 : decode cX2_enter 53 = .ok (.aload_n 0, 1) := by decide +kernel
theorem dX2_enter_54 : decode cX2_enter 54 = .ok (.getfield 9, 3) := by decide +kernel
theorem dX2_enter_57 : decode cX2_enter 57 = .ok (.iload_n 3, 1) := by decide +kernel
theorem dX2_enter_58 : decode cX2_enter 58 = .ok (.iconst 1, 1) := by decide +kernel
theorem dX2_enter_59 : decode cX2_enter 59 = .ok (.isub, 1) := by decide +kernel
theorem dX2_enter_60 : decode cX2_enter 60 = .ok (.iaload, 1) := by decide +kernel
theorem dX2_enter_61 : decode cX2_enter 61 = .ok (.iastore, 1) := by decide +kernel
theorem dX2_enter_62 : decode cX2_enter 62 = .ok (.iinc 3 (-1), 3) := by decide +kernel
theorem dX2_enter_65 : decode cX2_enter 65 = .ok (.goto (-47), 3) := by decide +kernel
theorem dX2_enter_68 : decode cX2_enter 68 = .ok (.aload_n 0, 1) := by decide +kernel
theorem dX2_enter_69 : decode cX2_enter 69 = .ok (.getfield 15, 3) := by decide +kernel
theorem dX2_enter_72 : decode cX2_enter 72 = .ok (.iload_n 3, 1) := by decide +kernel
theorem dX2_enter_73 : decode cX2_enter 73 = .ok (.iload_n 2, 1) := by decide +kernel
theorem dX2_enter_74 : decode cX2_enter 74 = .ok (.iastore, 1) := by decide +kernel
theorem dX2_enter_75 : decode cX2_enter 75 = .ok (.aload_n 0, 1) := by decide +kernel
theorem dX2_enter_76 : decode cX2_enter 76 = .ok (.getfield 9, 3) := by decide +kernel
theorem dX2_enter_79 : decode cX2_enter 79 = .ok (.iload_n 3, 1) := by decide +kernel
theorem dX2_enter_80 : decode cX2_enter 80 = .ok (.iload_n 1, 1) := by decide +kernel
theorem dX2_enter_81 : decode cX2_enter 81 = .ok (.iastore, 1) := by decide +kernel
theorem dX2_enter_82 : decode cX2_enter 82 = .ok (.aload_n 0, 1) := by decide +kernel
theorem dX2_enter_83 : decode cX2_enter 83 = .ok (.dup, 1) := by decide +kernel
theorem dX2_enter_84 : decode cX2_enter 84 = .ok (.getfield 18, 3) := by decide +kernel
theorem dX2_enter_87 : decode cX2_enter 87 = .ok (.iconst 1, 1) := by decide +kernel
theorem dX2_enter_88 : decode cX2_enter 88 = .ok (.iadd, 1) := by decide +kernel
theorem dX2_enter_89 : decode cX2_enter 89 = .ok (.putfield 18, 3) := by decide +kernel
theorem dX2_enter_92 : decode cX2_enter 92 = .ok (.return_, 1) := by decide +kernel
def x_Order_enter_68 (N : Nat) (x1 x2 x3 : Int) (w : aw_W) : Option (aw_W) :=
  if 0 ≤ x3 ∧ x3 < 6 then
    if 0 ≤ x3 ∧ x3 < 6 then
      some (aw_up (aw_up (aw_up w 20 x3.toNat x2) 19 x3.toNat x1) 18 2 (aw_w ((w 18 2) + 1)))
    else none
  else none
theorem w_x_Order_enter_68 {l : Launch} {K : aw_K} (N d : Nat) : ∀ (x1 x2 x3 : Int) (w v : aw_W), x_Order_enter_68 N x1 x2 x3 w = some v → aw_AW l K MX2_enter (d) 68 [(0, .inr (.inr 18)), (1, .inl x1), (2, .inl x2), (3, .inl x3)] [] w (none, v) := by
  intro x1 x2 x3 w v h
  unfold x_Order_enter_68 at h
  refine aw_aload_n (pc := 68) (q := 0) dX2_enter_68 rfl ?_
  refine aw_getf (pc := 69) (v := .inr (.inr 20)) dX2_enter_69 fl_RX2_15 (by decide) rfl rfl rfl ?_
  refine aw_iload_n (pc := 72) (q := 3) dX2_enter_72 rfl ?_
  refine aw_iload_n (pc := 73) (q := 2) dX2_enter_73 rfl ?_
  obtain ⟨hb, h⟩ := aw_cks h
  refine aw_iast (pc := 74) dX2_enter_74 rfl hb.1 hb.2 ?_
  refine aw_aload_n (pc := 75) (q := 0) dX2_enter_75 rfl ?_
  refine aw_getf (pc := 76) (v := .inr (.inr 19)) dX2_enter_76 fl_RX2_9 (by decide) rfl rfl rfl ?_
  refine aw_iload_n (pc := 79) (q := 3) dX2_enter_79 rfl ?_
  refine aw_iload_n (pc := 80) (q := 1) dX2_enter_80 rfl ?_
  obtain ⟨hb, h⟩ := aw_cks h
  refine aw_iast (pc := 81) dX2_enter_81 rfl hb.1 hb.2 ?_
  refine aw_aload_n (pc := 82) (q := 0) dX2_enter_82 rfl ?_
  refine aw_dup (pc := 83) dX2_enter_83 rfl ?_
  refine aw_getf (pc := 84) (v := .inl (w 18 2)) dX2_enter_84 fl_RX2_18 (by decide) rfl rfl rfl ?_
  refine aw_iconst (pc := 87) dX2_enter_87 ⟨by decide, by decide⟩ ?_
  refine aw_iadd (pc := 88) dX2_enter_88 ?_
  refine aw_puti (pc := 89) dX2_enter_89 fp_RX2_18 (by decide) rfl rfl ?_
  cases h
  exact aw_vret (pc := 92) rfl dX2_enter_92
def x_Order_enter_18 (N : Nat) : Nat → Int → Int → Int → aw_W → Option (aw_W)
  | 0, _, _, _, _ => none
  | n + 1, x1, x2, x3, w =>
    if x3 ≤ 0 then
      x_Order_enter_68 N x1 x2 x3 w
    else
      if 0 ≤ (aw_w (x3 - 1)) ∧ (aw_w (x3 - 1)) < 6 then
        if x2 ≤ (w 20 ((aw_w (x3 - 1)).toNat)) then
          x_Order_enter_68 N x1 x2 x3 w
        else
          if 0 ≤ (aw_w (x3 - 1)) ∧ (aw_w (x3 - 1)) < 6 then
            if 0 ≤ x3 ∧ x3 < 6 then
              if 0 ≤ (aw_w (x3 - 1)) ∧ (aw_w (x3 - 1)) < 6 then
                if 0 ≤ x3 ∧ x3 < 6 then
                  x_Order_enter_18 N n x1 x2 (aw_w (x3 + (-1))) (aw_up (aw_up w 20 x3.toNat (w 20 ((aw_w (x3 - 1)).toNat))) 19 x3.toNat (w 19 ((aw_w (x3 - 1)).toNat)))
                else none
              else none
            else none
          else none
      else none
theorem w_x_Order_enter_18 {l : Launch} {K : aw_K} (N d : Nat) : ∀ (n : Nat) (x1 x2 x3 : Int) (w v : aw_W), x_Order_enter_18 N n x1 x2 x3 w = some v → aw_AW l K MX2_enter (d) 18 [(0, .inr (.inr 18)), (1, .inl x1), (2, .inl x2), (3, .inl x3)] [] w (none, v) := by
  intro n
  induction n with
  | zero => intro x1 x2 x3 w v h; rw [x_Order_enter_18] at h; cases h
  | succ n ih =>
    intro x1 x2 x3 w v h
    rw [x_Order_enter_18] at h
    refine aw_iload_n (pc := 18) (q := 3) dX2_enter_18 rfl ?_
    refine aw_if_le (pc := 19) (tgt := 68) dX2_enter_19 (by decide) (fun hc => ?_) (fun hc => ?_)
    · rw [if_pos hc] at h
      exact aw_sel [0, 1, 2, 3] rfl (w_x_Order_enter_68 N d  _ _ _ _ _ h)
    · rw [if_neg hc] at h
      refine aw_aload_n (pc := 22) (q := 0) dX2_enter_22 rfl ?_
      refine aw_getf (pc := 23) (v := .inr (.inr 20)) dX2_enter_23 fl_RX2_15 (by decide) rfl rfl rfl ?_
      refine aw_iload_n (pc := 26) (q := 3) dX2_enter_26 rfl ?_
      refine aw_iconst (pc := 27) dX2_enter_27 ⟨by decide, by decide⟩ ?_
      refine aw_isub (pc := 28) dX2_enter_28 ?_
      obtain ⟨hb, h⟩ := aw_cks h
      refine aw_ialdv (pc := 29) (v := w 20 ((aw_w (x3 - 1)).toNat)) dX2_enter_29 rfl hb.1 hb.2 rfl ?_
      refine aw_iload_n (pc := 30) (q := 2) dX2_enter_30 rfl ?_
      refine aw_icmp_ge (pc := 31) (tgt := 68) dX2_enter_31 (by decide) (fun hc => ?_) (fun hc => ?_)
      · rw [if_pos hc] at h
        exact aw_sel [0, 1, 2, 3] rfl (w_x_Order_enter_68 N d  _ _ _ _ _ h)
      · rw [if_neg hc] at h
        refine aw_aload_n (pc := 34) (q := 0) dX2_enter_34 rfl ?_
        refine aw_getf (pc := 35) (v := .inr (.inr 20)) dX2_enter_35 fl_RX2_15 (by decide) rfl rfl rfl ?_
        refine aw_iload_n (pc := 38) (q := 3) dX2_enter_38 rfl ?_
        refine aw_aload_n (pc := 39) (q := 0) dX2_enter_39 rfl ?_
        refine aw_getf (pc := 40) (v := .inr (.inr 20)) dX2_enter_40 fl_RX2_15 (by decide) rfl rfl rfl ?_
        refine aw_iload_n (pc := 43) (q := 3) dX2_enter_43 rfl ?_
        refine aw_iconst (pc := 44) dX2_enter_44 ⟨by decide, by decide⟩ ?_
        refine aw_isub (pc := 45) dX2_enter_45 ?_
        obtain ⟨hb, h⟩ := aw_cks h
        refine aw_ialdv (pc := 46) (v := w 20 ((aw_w (x3 - 1)).toNat)) dX2_enter_46 rfl hb.1 hb.2 rfl ?_
        obtain ⟨hb, h⟩ := aw_cks h
        refine aw_iast (pc := 47) dX2_enter_47 rfl hb.1 hb.2 ?_
        refine aw_aload_n (pc := 48) (q := 0) dX2_enter_48 rfl ?_
        refine aw_getf (pc := 49) (v := .inr (.inr 19)) dX2_enter_49 fl_RX2_9 (by decide) rfl rfl rfl ?_
        refine aw_iload_n (pc := 52) (q := 3) dX2_enter_52 rfl ?_
        refine aw_aload_n (pc := 53) (q := 0) dX2_enter_53 rfl ?_
        refine aw_getf (pc := 54) (v := .inr (.inr 19)) dX2_enter_54 fl_RX2_9 (by decide) rfl rfl rfl ?_
        refine aw_iload_n (pc := 57) (q := 3) dX2_enter_57 rfl ?_
        refine aw_iconst (pc := 58) dX2_enter_58 ⟨by decide, by decide⟩ ?_
        refine aw_isub (pc := 59) dX2_enter_59 ?_
        obtain ⟨hb, h⟩ := aw_cks h
        refine aw_ialdv (pc := 60) (v := w 19 ((aw_w (x3 - 1)).toNat)) dX2_enter_60 rfl hb.1 hb.2 rfl ?_
        obtain ⟨hb, h⟩ := aw_cks h
        refine aw_iast (pc := 61) dX2_enter_61 rfl hb.1 hb.2 ?_
        refine aw_iinc (pc := 62) (q := 3) (ls' := [(3, .inl (aw_w (x3 + (-1)))), (0, .inr (.inr 18)), (1, .inl x1), (2, .inl x2)]) dX2_enter_62 rfl (by decide) rfl ?_
        refine aw_goto (pc := 65) (tgt := 18) dX2_enter_65 (by decide) ?_
        exact aw_sel [1, 2, 3, 0] rfl (ih _ _ _ _ _ h)
def x_Order_enter (N : Nat) (x1 x2 : Int) (w : aw_W) : Option (aw_W) :=
  if (w 18 2) < 6 then
    x_Order_enter_18 N N x1 x2 (w 18 2) w
  else
    some w
theorem w_x_Order_enter {l : Launch} {K : aw_K} (N d : Nat) (hd : 0 ≤ d) : ∀ (x1 x2 : Int) (w v : aw_W), x_Order_enter N x1 x2 w = some v → aw_Met l K MX2_enter (d) [.inr (.inr 18), .inl x1, .inl x2] w (none, v) := by
  intro x1 x2 w v h
  unfold x_Order_enter at h
  refine aw_enter rfl (Nat.le_of_ble_eq_true rfl) ?_
  show aw_AW l K MX2_enter (d) 0 [(0, .inr (.inr 18)), (1, .inl x1), (2, .inl x2)] [] w (none, v)
  refine aw_aload_n (pc := 0) (q := 0) dX2_enter_0 rfl ?_
  refine aw_getf (pc := 1) (v := .inl (w 18 2)) dX2_enter_1 fl_RX2_18 (by decide) rfl rfl rfl ?_
  refine aw_aload_n (pc := 4) (q := 0) dX2_enter_4 rfl ?_
  refine aw_getf (pc := 5) (v := .inr (.inr 19)) dX2_enter_5 fl_RX2_9 (by decide) rfl rfl rfl ?_
  refine aw_alenv (pc := 8) (x := 6) dX2_enter_8 (by decide) rfl (by decide) rfl ⟨by decide, by decide⟩ ?_
  refine aw_icmp_lt (pc := 9) (tgt := 13) dX2_enter_9 (by decide) (fun hc => ?_) (fun hc => ?_)
  · rw [if_pos hc] at h
    refine aw_aload_n (pc := 13) (q := 0) dX2_enter_13 rfl ?_
    refine aw_getf (pc := 14) (v := .inl (w 18 2)) dX2_enter_14 fl_RX2_18 (by decide) rfl rfl rfl ?_
    refine aw_istore_n (pc := 17) (ls' := [(3, .inl (w 18 2)), (0, .inr (.inr 18)), (1, .inl x1), (2, .inl x2)]) dX2_enter_17 (by decide) rfl ?_
    exact aw_sel [1, 2, 3, 0] rfl (w_x_Order_enter_18 N d  N _ _ _ _ _ h)
  · rw [if_neg hc] at h
    cases h
    exact aw_vret (pc := 12) rfl dX2_enter_12
theorem dX2_alike_0 : decode cX2_alike 0 = .ok (.iload_n 1, 1) := by decide +kernel
theorem dX2_alike_1 : decode cX2_alike 1 = .ok (.ifCond .lt 30, 3) := by decide +kernel
theorem dX2_alike_4 : decode cX2_alike 4 = .ok (.iload_n 2, 1) := by decide +kernel
theorem dX2_alike_5 : decode cX2_alike 5 = .ok (.aload_n 0, 1) := by decide +kernel
theorem dX2_alike_6 : decode cX2_alike 6 = .ok (.getfield 18, 3) := by decide +kernel
theorem dX2_alike_9 : decode cX2_alike 9 = .ok (.if_icmp .ge 22, 3) := by decide +kernel
theorem dX2_alike_12 : decode cX2_alike 12 = .ok (.aload_n 0, 1) := by decide +kernel
theorem dX2_alike_13 : decode cX2_alike 13 = .ok (.getfield 15, 3) := by decide +kernel
theorem dX2_alike_16 : decode cX2_alike 16 = .ok (.iload_n 1, 1) := by decide +kernel
theorem dX2_alike_17 : decode cX2_alike 17 = .ok (.iaload, 1) := by decide +kernel
theorem dX2_alike_18 : decode cX2_alike 18 = .ok (.aload_n 0, 1) := by decide +kernel
theorem dX2_alike_19 : decode cX2_alike 19 = .ok (.getfield 15, 3) := by decide +kernel
theorem dX2_alike_22 : decode cX2_alike 22 = .ok (.iload_n 2, 1) := by decide +kernel
theorem dX2_alike_23 : decode cX2_alike 23 = .ok (.iaload, 1) := by decide +kernel
theorem dX2_alike_24 : decode cX2_alike 24 = .ok (.if_icmp .ne 7, 3) := by decide +kernel
theorem dX2_alike_27 : decode cX2_alike 27 = .ok (.iconst 1, 1) := by decide +kernel
theorem dX2_alike_28 : decode cX2_alike 28 = .ok (.goto 4, 3) := by decide +kernel
theorem dX2_alike_31 : decode cX2_alike 31 = .ok (.iconst 0, 1) := by decide +kernel
theorem dX2_alike_32 : decode cX2_alike 32 = .ok (.ireturn, 1) := by decide +kernel
def x_Order_alike_32 (N : Nat) (s0 : Int) (w : aw_W) : Option (Int × aw_W) :=
  if s0 = 0 ∨ s0 = 1 then
    some (s0, w)
  else none
theorem w_x_Order_alike_32 {l : Launch} {K : aw_K} (N d : Nat) : ∀ (s0 : Int) (w : aw_W) (y : Int) (v : aw_W), x_Order_alike_32 N s0 w = some (y, v) → aw_AW l K MX2_alike (d) 32 [] [.inl s0] w (some (.inl y), v) := by
  intro s0 w y v h
  unfold x_Order_alike_32 at h
  obtain ⟨hz, h⟩ := aw_cks h
  cases h
  exact aw_zret (pc := 32) rfl hz dX2_alike_32
def x_Order_alike_31 (N : Nat) (w : aw_W) : Option (Int × aw_W) :=
  x_Order_alike_32 N 0 w
theorem w_x_Order_alike_31 {l : Launch} {K : aw_K} (N d : Nat) : ∀ (w : aw_W) (y : Int) (v : aw_W), x_Order_alike_31 N w = some (y, v) → aw_AW l K MX2_alike (d) 31 [] [] w (some (.inl y), v) := by
  intro w y v h
  unfold x_Order_alike_31 at h
  refine aw_iconst (pc := 31) dX2_alike_31 ⟨by decide, by decide⟩ ?_
  exact aw_sel [] rfl (w_x_Order_alike_32 N d  _ _ _ _ h)
def x_Order_alike (N : Nat) (x1 x2 : Int) (w : aw_W) : Option (Int × aw_W) :=
  if x1 < 0 then
    x_Order_alike_31 N w
  else
    if (w 18 2) ≤ x2 then
      x_Order_alike_31 N w
    else
      if 0 ≤ x1 ∧ x1 < 6 then
        if 0 ≤ x2 ∧ x2 < 6 then
          if (w 20 x1.toNat) = (w 20 x2.toNat) then
            x_Order_alike_32 N 1 w
          else
            x_Order_alike_31 N w
        else none
      else none
theorem w_x_Order_alike {l : Launch} {K : aw_K} (N d : Nat) (hd : 0 ≤ d) : ∀ (x1 x2 : Int) (w : aw_W) (y : Int) (v : aw_W), x_Order_alike N x1 x2 w = some (y, v) → aw_Met l K MX2_alike (d) [.inr (.inr 18), .inl x1, .inl x2] w (some (.inl y), v) := by
  intro x1 x2 w y v h
  unfold x_Order_alike at h
  refine aw_enter rfl (Nat.le_of_ble_eq_true rfl) ?_
  show aw_AW l K MX2_alike (d) 0 [(0, .inr (.inr 18)), (1, .inl x1), (2, .inl x2)] [] w (some (.inl y), v)
  refine aw_iload_n (pc := 0) (q := 1) dX2_alike_0 rfl ?_
  refine aw_if_lt (pc := 1) (tgt := 31) dX2_alike_1 (by decide) (fun hc => ?_) (fun hc => ?_)
  · rw [if_pos hc] at h
    exact aw_sel [] rfl (w_x_Order_alike_31 N d  _ _ _ h)
  · rw [if_neg hc] at h
    refine aw_iload_n (pc := 4) (q := 2) dX2_alike_4 rfl ?_
    refine aw_aload_n (pc := 5) (q := 0) dX2_alike_5 rfl ?_
    refine aw_getf (pc := 6) (v := .inl (w 18 2)) dX2_alike_6 fl_RX2_18 (by decide) rfl rfl rfl ?_
    refine aw_icmp_ge (pc := 9) (tgt := 31) dX2_alike_9 (by decide) (fun hc => ?_) (fun hc => ?_)
    · rw [if_pos hc] at h
      exact aw_sel [] rfl (w_x_Order_alike_31 N d  _ _ _ h)
    · rw [if_neg hc] at h
      refine aw_aload_n (pc := 12) (q := 0) dX2_alike_12 rfl ?_
      refine aw_getf (pc := 13) (v := .inr (.inr 20)) dX2_alike_13 fl_RX2_15 (by decide) rfl rfl rfl ?_
      refine aw_iload_n (pc := 16) (q := 1) dX2_alike_16 rfl ?_
      obtain ⟨hb, h⟩ := aw_cks h
      refine aw_ialdv (pc := 17) (v := w 20 x1.toNat) dX2_alike_17 rfl hb.1 hb.2 rfl ?_
      refine aw_aload_n (pc := 18) (q := 0) dX2_alike_18 rfl ?_
      refine aw_getf (pc := 19) (v := .inr (.inr 20)) dX2_alike_19 fl_RX2_15 (by decide) rfl rfl rfl ?_
      refine aw_iload_n (pc := 22) (q := 2) dX2_alike_22 rfl ?_
      obtain ⟨hb, h⟩ := aw_cks h
      refine aw_ialdv (pc := 23) (v := w 20 x2.toNat) dX2_alike_23 rfl hb.1 hb.2 rfl ?_
      refine aw_icmp_ne (pc := 24) (tgt := 31) dX2_alike_24 (by decide) (fun hc => ?_) (fun hc => ?_)
      · rw [if_neg hc] at h
        exact aw_sel [] rfl (w_x_Order_alike_31 N d  _ _ _ h)
      · rw [if_pos hc] at h
        refine aw_iconst (pc := 27) dX2_alike_27 ⟨by decide, by decide⟩ ?_
        refine aw_goto (pc := 28) (tgt := 32) dX2_alike_28 (by decide) ?_
        exact aw_sel [] rfl (w_x_Order_alike_32 N d  _ _ _ _ h)
theorem dX2_holder_0 : decode cX2_holder 0 = .ok (.iload_n 1, 1) := by decide +kernel
theorem dX2_holder_1 : decode cX2_holder 1 = .ok (.iconst 1, 1) := by decide +kernel
theorem dX2_holder_2 : decode cX2_holder 2 = .ok (.isub, 1) := by decide +kernel
theorem dX2_holder_3 : decode cX2_holder 3 = .ok (.istore_n 3, 1) := by decide +kernel
theorem dX2_holder_4 : decode cX2_holder 4 = .ok (.iload_n 3, 1) := by decide +kernel
theorem dX2_holder_5 : decode cX2_holder 5 = .ok (.ifCond .lt 11, 3) := by decide +kernel
theorem dX2_holder_8 : decode cX2_holder 8 = .ok (.iload_n 3, 1) := by decide +kernel
theorem dX2_holder_9 : decode cX2_holder 9 = .ok (.aload_n 0, 1) := by decide +kernel
theorem dX2_holder_10 : decode cX2_holder 10 = .ok (.getfield 18, 3) := by decide +kernel
theorem dX2_holder_13 : decode cX2_holder 13 = .ok (.if_icmp .lt 5, 3) := by decide +kernel
theorem dX2_holder_16 : decode cX2_holder 16 = .ok (.iconst (-1), 1) := by decide +kernel
theorem dX2_holder_17 : decode cX2_holder 17 = .ok (.ireturn, 1) := by decide +kernel
theorem dX2_holder_18 : decode cX2_holder 18 = .ok (.iload_n 2, 1) := by decide +kernel
theorem dX2_holder_19 : decode cX2_holder 19 = .ok (.iconst 1, 1) := by decide +kernel
theorem dX2_holder_20 : decode cX2_holder 20 = .ok (.if_icmp .ne 29, 3) := by decide +kernel
theorem dX2_holder_23 : decode cX2_holder 23 = .ok (.aload_n 0, 1) := by decide +kernel
theorem dX2_holder_24 : decode cX2_holder 24 = .ok (.iload_n 3, 1) := by decide +kernel
theorem dX2_holder_25 : decode cX2_holder 25 = .ok (.iconst 1, 1) := by decide +kernel
theorem dX2_holder_26 : decode cX2_holder 26 = .ok (.isub, 1) := by decide +kernel
theorem dX2_holder_27 : decode cX2_holder 27 = .ok (.iload_n 3, 1) := by decide +kernel
theorem dX2_holder_28 : decode cX2_holder 28 = .ok (.invokevirtual 22, 3) := by decide +kernel
theorem dX2_holder_31 : decode cX2_holder 31 = .ok (.ifCond .ne 14, 3) := by decide +kernel
theorem dX2_holder_34 : decode cX2_holder 34 = .ok (.aload_n 0, 1) := by decide +kernel
theorem dX2_holder_35 : decode cX2_holder 35 = .ok (.iload_n 3, 1) := by decide +kernel
theorem dX2_holder_36 : decode cX2_holder 36 = .ok (.iload_n 3, 1) := by decide +kernel
theorem dX2_holder_37 : decode cX2_holder 37 = .ok (.iconst 1, 1) := by decide +kernel
theorem dX2_holder_38 : decode cX2_holder 38 = .ok (.iadd, 1) := by decide +kernel
theorem dX2_holder_39 : decode cX2_holder 39 = .ok (.invokevirtual 22, 3) := by decide +kernel
theorem dX2_holder_42 : decode cX2_holder 42 = .ok (.ifCond .eq 7, 3) := by decide +kernel
theorem dX2_holder_45 : decode cX2_holder 45 = .ok (.iconst (-1), 1) := by decide +kernel
theorem dX2_holder_46 : decode cX2_holder 46 = .ok (.goto 9, 3) := by decide +kernel
theorem dX2_holder_49 : decode cX2_holder 49 = .ok (.aload_n 0, 1) := by decide +kernel
theorem dX2_holder_50 : decode cX2_holder 50 = .ok (.getfield 9, 3) := by decide +kernel
theorem dX2_holder_53 : decode cX2_holder 53 = .ok (.iload_n 3, 1) := by decide +kernel
theorem dX2_holder_54 : decode cX2_holder 54 = .ok (.iaload, 1) := by decide +kernel
theorem dX2_holder_55 : decode cX2_holder 55 = .ok (.ireturn, 1) := by decide +kernel
def x_Order_holder_16 (N : Nat) (w : aw_W) : Option (Int × aw_W) :=
  some ((-1), w)
theorem w_x_Order_holder_16 {l : Launch} {K : aw_K} (N d : Nat) (hd : 0 ≤ d) : ∀ (w : aw_W) (y : Int) (v : aw_W), x_Order_holder_16 N w = some (y, v) → aw_AW l K MX2_holder (d + 1) 16 [] [] w (some (.inl y), v) := by
  intro w y v h
  unfold x_Order_holder_16 at h
  refine aw_iconst (pc := 16) dX2_holder_16 ⟨by decide, by decide⟩ ?_
  cases h
  exact aw_iret (pc := 17) rfl dX2_holder_17
def x_Order_holder_55 (N : Nat) (s0 : Int) (w : aw_W) : Option (Int × aw_W) :=
  some (s0, w)
theorem w_x_Order_holder_55 {l : Launch} {K : aw_K} (N d : Nat) (hd : 0 ≤ d) : ∀ (s0 : Int) (w : aw_W) (y : Int) (v : aw_W), x_Order_holder_55 N s0 w = some (y, v) → aw_AW l K MX2_holder (d + 1) 55 [] [.inl s0] w (some (.inl y), v) := by
  intro s0 w y v h
  unfold x_Order_holder_55 at h
  cases h
  exact aw_iret (pc := 55) rfl dX2_holder_55
def x_Order_holder_49 (N : Nat) (x3 : Int) (w : aw_W) : Option (Int × aw_W) :=
  if 0 ≤ x3 ∧ x3 < 6 then
    x_Order_holder_55 N (w 19 x3.toNat) w
  else none
theorem w_x_Order_holder_49 {l : Launch} {K : aw_K} (N d : Nat) (hd : 0 ≤ d) : ∀ (x3 : Int) (w : aw_W) (y : Int) (v : aw_W), x_Order_holder_49 N x3 w = some (y, v) → aw_AW l K MX2_holder (d + 1) 49 [(0, .inr (.inr 18)), (3, .inl x3)] [] w (some (.inl y), v) := by
  intro x3 w y v h
  unfold x_Order_holder_49 at h
  refine aw_aload_n (pc := 49) (q := 0) dX2_holder_49 rfl ?_
  refine aw_getf (pc := 50) (v := .inr (.inr 19)) dX2_holder_50 fl_RX2_9 (by decide) rfl rfl rfl ?_
  refine aw_iload_n (pc := 53) (q := 1) dX2_holder_53 rfl ?_
  obtain ⟨hb, h⟩ := aw_cks h
  refine aw_ialdv (pc := 54) (v := w 19 x3.toNat) dX2_holder_54 rfl hb.1 hb.2 rfl ?_
  exact aw_sel [] rfl (w_x_Order_holder_55 N d hd  _ _ _ _ h)
def x_Order_holder_45 (N : Nat) (w : aw_W) : Option (Int × aw_W) :=
  x_Order_holder_55 N (-1) w
theorem w_x_Order_holder_45 {l : Launch} {K : aw_K} (N d : Nat) (hd : 0 ≤ d) : ∀ (w : aw_W) (y : Int) (v : aw_W), x_Order_holder_45 N w = some (y, v) → aw_AW l K MX2_holder (d + 1) 45 [] [] w (some (.inl y), v) := by
  intro w y v h
  unfold x_Order_holder_45 at h
  refine aw_iconst (pc := 45) dX2_holder_45 ⟨by decide, by decide⟩ ?_
  refine aw_goto (pc := 46) (tgt := 55) dX2_holder_46 (by decide) ?_
  exact aw_sel [] rfl (w_x_Order_holder_55 N d hd  _ _ _ _ h)
def x_Order_holder (N : Nat) (x1 x2 : Int) (w : aw_W) : Option (Int × aw_W) :=
  if (aw_w (x1 - 1)) < 0 then
    x_Order_holder_16 N w
  else
    if (aw_w (x1 - 1)) < (w 18 2) then
      if x2 = 1 then
        aw_b2 (x_Order_alike N (aw_w ((aw_w (x1 - 1)) - 1)) (aw_w (x1 - 1)) w) fun r1 w1 =>
          if r1 = 0 then
            aw_b2 (x_Order_alike N (aw_w (x1 - 1)) (aw_w ((aw_w (x1 - 1)) + 1)) w1) fun r2 w2 =>
              if r2 = 0 then
                x_Order_holder_49 N (aw_w (x1 - 1)) w2
              else
                x_Order_holder_45 N w2
          else
            x_Order_holder_45 N w1
      else
        x_Order_holder_49 N (aw_w (x1 - 1)) w
    else
      x_Order_holder_16 N w
theorem w_x_Order_holder_d {l : Launch} {K : aw_K} (N d : Nat) (hd : 0 ≤ d) : ∀ (x1 x2 : Int) (w : aw_W) (y : Int) (v : aw_W), x_Order_holder N x1 x2 w = some (y, v) → aw_Met l K MX2_holder (d + 1) [.inr (.inr 18), .inl x1, .inl x2] w (some (.inl y), v) := by
  intro x1 x2 w y v h
  unfold x_Order_holder at h
  refine aw_enter rfl (Nat.le_of_ble_eq_true rfl) ?_
  show aw_AW l K MX2_holder (d + 1) 0 [(0, .inr (.inr 18)), (1, .inl x1), (2, .inl x2)] [] w (some (.inl y), v)
  refine aw_iload_n (pc := 0) (q := 1) dX2_holder_0 rfl ?_
  refine aw_iconst (pc := 1) dX2_holder_1 ⟨by decide, by decide⟩ ?_
  refine aw_isub (pc := 2) dX2_holder_2 ?_
  refine aw_istore_n (pc := 3) (ls' := [(3, .inl (aw_w (x1 - 1))), (0, .inr (.inr 18)), (1, .inl x1), (2, .inl x2)]) dX2_holder_3 (by decide) rfl ?_
  refine aw_iload_n (pc := 4) (q := 0) dX2_holder_4 rfl ?_
  refine aw_if_lt (pc := 5) (tgt := 16) dX2_holder_5 (by decide) (fun hc => ?_) (fun hc => ?_)
  · rw [if_pos hc] at h
    exact aw_sel [] rfl (w_x_Order_holder_16 N d hd  _ _ _ h)
  · rw [if_neg hc] at h
    refine aw_iload_n (pc := 8) (q := 0) dX2_holder_8 rfl ?_
    refine aw_aload_n (pc := 9) (q := 1) dX2_holder_9 rfl ?_
    refine aw_getf (pc := 10) (v := .inl (w 18 2)) dX2_holder_10 fl_RX2_18 (by decide) rfl rfl rfl ?_
    refine aw_icmp_lt (pc := 13) (tgt := 18) dX2_holder_13 (by decide) (fun hc => ?_) (fun hc => ?_)
    · rw [if_pos hc] at h
      refine aw_iload_n (pc := 18) (q := 3) dX2_holder_18 rfl ?_
      refine aw_iconst (pc := 19) dX2_holder_19 ⟨by decide, by decide⟩ ?_
      refine aw_icmp_ne (pc := 20) (tgt := 49) dX2_holder_20 (by decide) (fun hc => ?_) (fun hc => ?_)
      · rw [if_neg hc] at h
        exact aw_sel [1, 0] rfl (w_x_Order_holder_49 N d hd  _ _ _ _ h)
      · rw [if_pos hc] at h
        refine aw_aload_n (pc := 23) (q := 1) dX2_holder_23 rfl ?_
        refine aw_iload_n (pc := 24) (q := 0) dX2_holder_24 rfl ?_
        refine aw_iconst (pc := 25) dX2_holder_25 ⟨by decide, by decide⟩ ?_
        refine aw_isub (pc := 26) dX2_holder_26 ?_
        refine aw_iload_n (pc := 27) (q := 0) dX2_holder_27 rfl ?_
        obtain ⟨r1, w1, h1, h⟩ := aw_b2s h
        refine aw_callV (pc := 28) (as := [.inl (aw_w ((aw_w (x1 - 1)) - 1)), .inl (aw_w (x1 - 1))]) (st := []) (st' := [.inl r1]) dX2_holder_28 cv_RX2_22 (by decide) rfl rfl rfl rfl (by decide) (w_x_Order_alike N d (by omega) _ _ _ _ _ h1) rfl ?_
        refine aw_if_ne (pc := 31) (tgt := 45) dX2_holder_31 (by decide) (fun hc => ?_) (fun hc => ?_)
        · rw [if_neg hc] at h
          exact aw_sel [] rfl (w_x_Order_holder_45 N d hd  _ _ _ h)
        · rw [if_pos hc] at h
          refine aw_aload_n (pc := 34) (q := 1) dX2_holder_34 rfl ?_
          refine aw_iload_n (pc := 35) (q := 0) dX2_holder_35 rfl ?_
          refine aw_iload_n (pc := 36) (q := 0) dX2_holder_36 rfl ?_
          refine aw_iconst (pc := 37) dX2_holder_37 ⟨by decide, by decide⟩ ?_
          refine aw_iadd (pc := 38) dX2_holder_38 ?_
          obtain ⟨r2, w2, h2, h⟩ := aw_b2s h
          refine aw_callV (pc := 39) (as := [.inl (aw_w (x1 - 1)), .inl (aw_w ((aw_w (x1 - 1)) + 1))]) (st := []) (st' := [.inl r2]) dX2_holder_39 cv_RX2_22 (by decide) rfl rfl rfl rfl (by decide) (w_x_Order_alike N d (by omega) _ _ _ _ _ h2) rfl ?_
          refine aw_if_eq (pc := 42) (tgt := 49) dX2_holder_42 (by decide) (fun hc => ?_) (fun hc => ?_)
          · rw [if_pos hc] at h
            exact aw_sel [1, 0] rfl (w_x_Order_holder_49 N d hd  _ _ _ _ h)
          · rw [if_neg hc] at h
            exact aw_sel [] rfl (w_x_Order_holder_45 N d hd  _ _ _ h)
    · rw [if_neg hc] at h
      exact aw_sel [] rfl (w_x_Order_holder_16 N d hd  _ _ _ h)
theorem w_x_Order_holder {l : Launch} {K : aw_K} (N d : Nat) (hd : 1 ≤ d) : ∀ (x1 x2 : Int) (w : aw_W) (y : Int) (v : aw_W), x_Order_holder N x1 x2 w = some (y, v) → aw_Met l K MX2_holder (d) [.inr (.inr 18), .inl x1, .inl x2] w (some (.inl y), v) := by
  obtain ⟨e, rfl⟩ : ∃ e, d = e + 1 := ⟨d - 1, by omega⟩
  exact w_x_Order_holder_d N e (by omega)
theorem dX2_firsts_0 : decode cX2_firsts 0 = .ok (.iconst 0, 1) := by decide +kernel
theorem dX2_firsts_1 : decode cX2_firsts 1 = .ok (.istore_n 2, 1) := by decide +kernel
theorem dX2_firsts_2 : decode cX2_firsts 2 = .ok (.iconst 0, 1) := by decide +kernel
theorem dX2_firsts_3 : decode cX2_firsts 3 = .ok (.istore_n 3, 1) := by decide +kernel
theorem dX2_firsts_4 : decode cX2_firsts 4 = .ok (.iload_n 3, 1) := by decide +kernel
theorem dX2_firsts_5 : decode cX2_firsts 5 = .ok (.aload_n 0, 1) := by decide +kernel
theorem dX2_firsts_6 : decode cX2_firsts 6 = .ok (.getfield 18, 3) := by decide +kernel
theorem dX2_firsts_9 : decode cX2_firsts 9 = .ok (.if_icmp .ge 44, 3) := by decide +kernel
theorem dX2_firsts_12 : decode cX2_firsts 12 = .ok (.iload_n 3, 1) := by decide +kernel
theorem dX2_firsts_13 : decode cX2_firsts 13 = .ok (.ifCond .eq 23, 3) := by decide +kernel
theorem dX2_firsts_16 : decode cX2_firsts 16 = .ok (.iload_n 1, 1) := by decide +kernel
theorem dX2_firsts_17 : decode cX2_firsts 17 = .ok (.iconst 1, 1) := by decide +kernel
theorem dX2_firsts_18 : decode cX2_firsts 18 = .ok (.if_icmp .ne 29, 3) := by decide +kernel
theorem dX2_firsts_21 : decode cX2_firsts 21 = .ok (.aload_n 0, 1) := by decide +kernel
theorem dX2_firsts_22 : decode cX2_firsts 22 = .ok (.getfield 15, 3) := by decide +kernel
theorem dX2_firsts_25 : decode cX2_firsts 25 = .ok (.iload_n 3, 1) := by decide +kernel
theorem dX2_firsts_26 : decode cX2_firsts 26 = .ok (.iaload, 1) := by decide +kernel
theorem dX2_firsts_27 : decode cX2_firsts 27 = .ok (.aload_n 0, 1) := by decide +kernel
theorem dX2_firsts_28 : decode cX2_firsts 28 = .ok (.getfield 15, 3) := by decide +kernel
theorem dX2_firsts_31 : decode cX2_firsts 31 = .ok (.iconst 0, 1) := by decide +kernel
theorem dX2_firsts_32 : decode cX2_firsts 32 = .ok (.iaload, 1) := by decide +kernel
theorem dX2_firsts_33 : decode cX2_firsts 33 = .ok (.if_icmp .ne 14, 3) := by decide +kernel
theorem dX2_firsts_36 : decode cX2_firsts 36 = .ok (.iload_n 2, 1) := by decide +kernel
theorem dX2_firsts_37 : decode cX2_firsts 37 = .ok (.iconst 1, 1) := by decide +kernel
theorem dX2_firsts_38 : decode cX2_firsts 38 = .ok (.aload_n 0, 1) := by decide +kernel
theorem dX2_firsts_39 : decode cX2_firsts 39 = .ok (.getfield 9, 3) := by decide +kernel
theorem dX2_firsts_42 : decode cX2_firsts 42 = .ok (.iload_n 3, 1) := by decide +kernel
theorem dX2_firsts_43 : decode cX2_firsts 43 = .ok (.iaload, 1) := by decide +kernel
theorem dX2_firsts_44 : decode cX2_firsts 44 = .ok (.ishl, 1) := by decide +kernel
theorem dX2_firsts_45 : decode cX2_firsts 45 = .ok (.ior, 1) := by decide +kernel
theorem dX2_firsts_46 : decode cX2_firsts 46 = .ok (.istore_n 2, 1) := by decide +kernel
theorem dX2_firsts_47 : decode cX2_firsts 47 = .ok (.iinc 3 1, 3) := by decide +kernel
theorem dX2_firsts_50 : decode cX2_firsts 50 = .ok (.goto (-46), 3) := by decide +kernel
theorem dX2_firsts_53 : decode cX2_firsts 53 = .ok (.iload_n 2, 1) := by decide +kernel
theorem dX2_firsts_54 : decode cX2_firsts 54 = .ok (.ireturn, 1) := by decide +kernel
def x_Order_firsts_53 (N : Nat) (x2 : Int) (w : aw_W) : Option (Int × aw_W) :=
  some (x2, w)
theorem w_x_Order_firsts_53 {l : Launch} {K : aw_K} (N d : Nat) : ∀ (x2 : Int) (w : aw_W) (y : Int) (v : aw_W), x_Order_firsts_53 N x2 w = some (y, v) → aw_AW l K MX2_firsts (d) 53 [(2, .inl x2)] [] w (some (.inl y), v) := by
  intro x2 w y v h
  unfold x_Order_firsts_53 at h
  refine aw_iload_n (pc := 53) (q := 0) dX2_firsts_53 rfl ?_
  cases h
  exact aw_iret (pc := 54) rfl dX2_firsts_54
def x_Order_firsts_47 (N : Nat) (k4 : Int → Int → Int → aw_W → Option (Int × aw_W)) (x1 x2 x3 : Int) (w : aw_W) : Option (Int × aw_W) :=
  k4 x1 x2 (aw_w (x3 + 1)) w
theorem w_x_Order_firsts_47 {l : Launch} {K : aw_K} (N d : Nat) (k4 : Int → Int → Int → aw_W → Option (Int × aw_W)) (hk4 : ∀ (x1 x2 x3 : Int) (w : aw_W) (y : Int) (v : aw_W), k4 x1 x2 x3 w = some (y, v) → aw_AW l K MX2_firsts (d) 4 [(0, .inr (.inr 18)), (1, .inl x1), (2, .inl x2), (3, .inl x3)] [] w (some (.inl y), v)) : ∀ (x1 x2 x3 : Int) (w : aw_W) (y : Int) (v : aw_W), x_Order_firsts_47 N k4 x1 x2 x3 w = some (y, v) → aw_AW l K MX2_firsts (d) 47 [(0, .inr (.inr 18)), (1, .inl x1), (2, .inl x2), (3, .inl x3)] [] w (some (.inl y), v) := by
  intro x1 x2 x3 w y v h
  unfold x_Order_firsts_47 at h
  refine aw_iinc (pc := 47) (q := 3) (ls' := [(3, .inl (aw_w (x3 + 1))), (0, .inr (.inr 18)), (1, .inl x1), (2, .inl x2)]) dX2_firsts_47 rfl (by decide) rfl ?_
  refine aw_goto (pc := 50) (tgt := 4) dX2_firsts_50 (by decide) ?_
  exact aw_sel [1, 2, 3, 0] rfl (hk4 _ _ _ _ _ _ h)
def x_Order_firsts_36 (N : Nat) (k4 : Int → Int → Int → aw_W → Option (Int × aw_W)) (x1 x2 x3 : Int) (w : aw_W) : Option (Int × aw_W) :=
  if 0 ≤ x3 ∧ x3 < 6 then
    x_Order_firsts_47 N k4 x1 (aw_or x2 (aw_shl 1 (w 19 x3.toNat))) x3 w
  else none
theorem w_x_Order_firsts_36 {l : Launch} {K : aw_K} (N d : Nat) (k4 : Int → Int → Int → aw_W → Option (Int × aw_W)) (hk4 : ∀ (x1 x2 x3 : Int) (w : aw_W) (y : Int) (v : aw_W), k4 x1 x2 x3 w = some (y, v) → aw_AW l K MX2_firsts (d) 4 [(0, .inr (.inr 18)), (1, .inl x1), (2, .inl x2), (3, .inl x3)] [] w (some (.inl y), v)) : ∀ (x1 x2 x3 : Int) (w : aw_W) (y : Int) (v : aw_W), x_Order_firsts_36 N k4 x1 x2 x3 w = some (y, v) → aw_AW l K MX2_firsts (d) 36 [(0, .inr (.inr 18)), (1, .inl x1), (2, .inl x2), (3, .inl x3)] [] w (some (.inl y), v) := by
  intro x1 x2 x3 w y v h
  unfold x_Order_firsts_36 at h
  refine aw_iload_n (pc := 36) (q := 2) dX2_firsts_36 rfl ?_
  refine aw_iconst (pc := 37) dX2_firsts_37 ⟨by decide, by decide⟩ ?_
  refine aw_aload_n (pc := 38) (q := 0) dX2_firsts_38 rfl ?_
  refine aw_getf (pc := 39) (v := .inr (.inr 19)) dX2_firsts_39 fl_RX2_9 (by decide) rfl rfl rfl ?_
  refine aw_iload_n (pc := 42) (q := 3) dX2_firsts_42 rfl ?_
  obtain ⟨hb, h⟩ := aw_cks h
  refine aw_ialdv (pc := 43) (v := w 19 x3.toNat) dX2_firsts_43 rfl hb.1 hb.2 rfl ?_
  refine aw_ishl (pc := 44) dX2_firsts_44 ?_
  refine aw_ior (pc := 45) dX2_firsts_45 ?_
  refine aw_istore_n (pc := 46) (ls' := [(2, .inl (aw_or x2 (aw_shl 1 (w 19 x3.toNat)))), (0, .inr (.inr 18)), (1, .inl x1), (3, .inl x3)]) dX2_firsts_46 (by decide) rfl ?_
  exact aw_sel [1, 2, 0, 3] rfl (w_x_Order_firsts_47 N d  _ hk4 _ _ _ _ _ _ h)
def x_Order_firsts_4 (N : Nat) : Nat → Int → Int → Int → aw_W → Option (Int × aw_W)
  | 0, _, _, _, _ => none
  | n + 1, x1, x2, x3, w =>
    if (w 18 2) ≤ x3 then
      x_Order_firsts_53 N x2 w
    else
      if x3 = 0 then
        x_Order_firsts_36 N (x_Order_firsts_4 N n) x1 x2 x3 w
      else
        if x1 = 1 then
          if 0 ≤ x3 ∧ x3 < 6 then
            if (w 20 x3.toNat) = (w 20 0) then
              x_Order_firsts_36 N (x_Order_firsts_4 N n) x1 x2 x3 w
            else
              x_Order_firsts_47 N (x_Order_firsts_4 N n) x1 x2 x3 w
          else none
        else
          x_Order_firsts_47 N (x_Order_firsts_4 N n) x1 x2 x3 w
theorem w_x_Order_firsts_4 {l : Launch} {K : aw_K} (N d : Nat) : ∀ (n : Nat) (x1 x2 x3 : Int) (w : aw_W) (y : Int) (v : aw_W), x_Order_firsts_4 N n x1 x2 x3 w = some (y, v) → aw_AW l K MX2_firsts (d) 4 [(0, .inr (.inr 18)), (1, .inl x1), (2, .inl x2), (3, .inl x3)] [] w (some (.inl y), v) := by
  intro n
  induction n with
  | zero => intro x1 x2 x3 w y v h; rw [x_Order_firsts_4] at h; cases h
  | succ n ih =>
    intro x1 x2 x3 w y v h
    rw [x_Order_firsts_4] at h
    refine aw_iload_n (pc := 4) (q := 3) dX2_firsts_4 rfl ?_
    refine aw_aload_n (pc := 5) (q := 0) dX2_firsts_5 rfl ?_
    refine aw_getf (pc := 6) (v := .inl (w 18 2)) dX2_firsts_6 fl_RX2_18 (by decide) rfl rfl rfl ?_
    refine aw_icmp_ge (pc := 9) (tgt := 53) dX2_firsts_9 (by decide) (fun hc => ?_) (fun hc => ?_)
    · rw [if_pos hc] at h
      exact aw_sel [2] rfl (w_x_Order_firsts_53 N d  _ _ _ _ h)
    · rw [if_neg hc] at h
      refine aw_iload_n (pc := 12) (q := 3) dX2_firsts_12 rfl ?_
      refine aw_if_eq (pc := 13) (tgt := 36) dX2_firsts_13 (by decide) (fun hc => ?_) (fun hc => ?_)
      · rw [if_pos hc] at h
        exact aw_sel [0, 1, 2, 3] rfl (w_x_Order_firsts_36 N d  _ ih _ _ _ _ _ _ h)
      · rw [if_neg hc] at h
        refine aw_iload_n (pc := 16) (q := 1) dX2_firsts_16 rfl ?_
        refine aw_iconst (pc := 17) dX2_firsts_17 ⟨by decide, by decide⟩ ?_
        refine aw_icmp_ne (pc := 18) (tgt := 47) dX2_firsts_18 (by decide) (fun hc => ?_) (fun hc => ?_)
        · rw [if_neg hc] at h
          exact aw_sel [0, 1, 2, 3] rfl (w_x_Order_firsts_47 N d  _ ih _ _ _ _ _ _ h)
        · rw [if_pos hc] at h
          refine aw_aload_n (pc := 21) (q := 0) dX2_firsts_21 rfl ?_
          refine aw_getf (pc := 22) (v := .inr (.inr 20)) dX2_firsts_22 fl_RX2_15 (by decide) rfl rfl rfl ?_
          refine aw_iload_n (pc := 25) (q := 3) dX2_firsts_25 rfl ?_
          obtain ⟨hb, h⟩ := aw_cks h
          refine aw_ialdv (pc := 26) (v := w 20 x3.toNat) dX2_firsts_26 rfl hb.1 hb.2 rfl ?_
          refine aw_aload_n (pc := 27) (q := 0) dX2_firsts_27 rfl ?_
          refine aw_getf (pc := 28) (v := .inr (.inr 20)) dX2_firsts_28 fl_RX2_15 (by decide) rfl rfl rfl ?_
          refine aw_iconst (pc := 31) dX2_firsts_31 ⟨by decide, by decide⟩ ?_
          refine aw_ialdv (pc := 32) (v := w 20 0) dX2_firsts_32 rfl (by decide) (by decide) rfl ?_
          refine aw_icmp_ne (pc := 33) (tgt := 47) dX2_firsts_33 (by decide) (fun hc => ?_) (fun hc => ?_)
          · rw [if_neg hc] at h
            exact aw_sel [0, 1, 2, 3] rfl (w_x_Order_firsts_47 N d  _ ih _ _ _ _ _ _ h)
          · rw [if_pos hc] at h
            exact aw_sel [0, 1, 2, 3] rfl (w_x_Order_firsts_36 N d  _ ih _ _ _ _ _ _ h)
def x_Order_firsts (N : Nat) (x1 : Int) (w : aw_W) : Option (Int × aw_W) :=
  x_Order_firsts_4 N N x1 0 0 w
theorem w_x_Order_firsts {l : Launch} {K : aw_K} (N d : Nat) (hd : 0 ≤ d) : ∀ (x1 : Int) (w : aw_W) (y : Int) (v : aw_W), x_Order_firsts N x1 w = some (y, v) → aw_Met l K MX2_firsts (d) [.inr (.inr 18), .inl x1] w (some (.inl y), v) := by
  intro x1 w y v h
  unfold x_Order_firsts at h
  refine aw_enter rfl (Nat.le_of_ble_eq_true rfl) ?_
  show aw_AW l K MX2_firsts (d) 0 [(0, .inr (.inr 18)), (1, .inl x1)] [] w (some (.inl y), v)
  refine aw_iconst (pc := 0) dX2_firsts_0 ⟨by decide, by decide⟩ ?_
  refine aw_istore_n (pc := 1) (ls' := [(2, .inl 0), (0, .inr (.inr 18)), (1, .inl x1)]) dX2_firsts_1 (by decide) rfl ?_
  refine aw_iconst (pc := 2) dX2_firsts_2 ⟨by decide, by decide⟩ ?_
  refine aw_istore_n (pc := 3) (ls' := [(3, .inl 0), (2, .inl 0), (0, .inr (.inr 18)), (1, .inl x1)]) dX2_firsts_3 (by decide) rfl ?_
  exact aw_sel [2, 3, 1, 0] rfl (w_x_Order_firsts_4 N d  N _ _ _ _ _ _ h)
