theorem dX5_mark_0 : decode cX5_mark 0 = .ok (.iload_n 1, 1) := by decide +kernel
theorem dX5_mark_1 : decode cX5_mark 1 = .ok (.ifCond .lt 10, 3) := by decide +kernel
theorem dX5_mark_4 : decode cX5_mark 4 = .ok (.iload_n 1, 1) := by decide +kernel
theorem dX5_mark_5 : decode cX5_mark 5 = .ok (.sipush 10000, 3) := by decide +kernel
theorem dX5_mark_8 : decode cX5_mark 8 = .ok (.if_icmp .lt 4, 3) := by decide +kernel
theorem dX5_mark_11 : decode cX5_mark 11 = .ok (.return_, 1) := by decide +kernel
theorem dX5_mark_12 : decode cX5_mark 12 = .ok (.lconst 1, 1) := by decide +kernel
theorem dX5_mark_13 : decode cX5_mark 13 = .ok (.iload_n 1, 1) := by decide +kernel
theorem dX5_mark_14 : decode cX5_mark 14 = .ok (.bipush 64, 2) := by decide +kernel
theorem dX5_mark_16 : decode cX5_mark 16 = .ok (.irem, 1) := by decide +kernel
theorem dX5_mark_17 : decode cX5_mark 17 = .ok (.lshl, 1) := by decide +kernel
theorem dX5_mark_18 : decode cX5_mark 18 = .ok (.lstore_n 3, 1) := by decide +kernel
theorem dX5_mark_19 : decode cX5_mark 19 = .ok (.iload_n 2, 1) := by decide +kernel
theorem dX5_mark_20 : decode cX5_mark 20 = .ok (.ifCond .eq 19, 3) := by decide +kernel
theorem dX5_mark_23 : decode cX5_mark 23 = .ok (.aload_n 0, 1) := by decide +kernel
theorem dX5_mark_24 : decode cX5_mark 24 = .ok (.getfield 11, 3) := by decide +kernel
theorem dX5_mark_27 : decode cX5_mark 27 = .ok (.iload_n 1, 1) := by decide +kernel
theorem dX5_mark_28 : decode cX5_mark 28 = .ok (.bipush 64, 2) := by decide +kernel
theorem dX5_mark_30 : decode cX5_mark 30 = .ok (.idiv, 1) := by decide +kernel
theorem dX5_mark_31 : decode cX5_mark 31 = .ok (.dup2, 1) := by decide +kernel
theorem dX5_mark_32 : decode cX5_mark 32 = .ok (.laload, 1) := by decide +kernel
theorem dX5_mark_33 : decode cX5_mark 33 = .ok (.lload_n 3, 1) := by decide +kernel
theorem dX5_mark_34 : decode cX5_mark 34 = .ok (.lor, 1) := by decide +kernel
theorem dX5_mark_35 : decode cX5_mark 35 = .ok (.lastore, 1) := by decide +kernel
theorem dX5_mark_36 : decode cX5_mark 36 = .ok (.goto 20, 3) := by decide +kernel
theorem dX5_mark_39 : decode cX5_mark 39 = .ok (.aload_n 0, 1) := by decide +kernel
theorem dX5_mark_40 : decode cX5_mark 40 = .ok (.getfield 11, 3) := by decide +kernel
theorem dX5_mark_43 : decode cX5_mark 43 = .ok (.iload_n 1, 1) := by decide +kernel
theorem dX5_mark_44 : decode cX5_mark 44 = .ok (.bipush 64, 2) := by decide +kernel
theorem dX5_mark_46 : decode cX5_mark 46 = .ok (.idiv, 1) := by decide +kernel
theorem dX5_mark_47 : decode cX5_mark 47 = .ok (.dup2, 1) := by decide +kernel
theorem dX5_mark_48 : decode cX5_mark 48 = .ok (.laload, 1) := by decide +kernel
theorem dX5_mark_49 : decode cX5_mark 49 = .ok (.lload_n 3, 1) := by decide +kernel
theorem dX5_mark_50 : decode cX5_mark 50 = .ok (.ldc2_w 122, 3) := by decide +kernel
theorem dX5_mark_53 : decode cX5_mark 53 = .ok (.lxor, 1) := by decide +kernel
theorem dX5_mark_54 : decode cX5_mark 54 = .ok (.land, 1) := by decide +kernel
theorem dX5_mark_55 : decode cX5_mark 55 = .ok (.lastore, 1) := by decide +kernel
theorem dX5_mark_56 : decode cX5_mark 56 = .ok (.return_, 1) := by decide +kernel
def x_Rests_mark_11 (N : Nat) (w : aw_W) : Option (aw_W) :=
  some w
theorem w_x_Rests_mark_11 {l : Launch} {K : aw_K} (N d : Nat) : ∀ (w v : aw_W), x_Rests_mark_11 N w = some v → aw_AW l K MX5_mark (d) 11 [] [] w (none, v) := by
  intro w v h
  unfold x_Rests_mark_11 at h
  cases h
  exact aw_vret (pc := 11) rfl dX5_mark_11
def x_Rests_mark_56 (N : Nat) (w : aw_W) : Option (aw_W) :=
  some w
theorem w_x_Rests_mark_56 {l : Launch} {K : aw_K} (N d : Nat) : ∀ (w v : aw_W), x_Rests_mark_56 N w = some v → aw_AW l K MX5_mark (d) 56 [] [] w (none, v) := by
  intro w v h
  unfold x_Rests_mark_56 at h
  cases h
  exact aw_vret (pc := 56) rfl dX5_mark_56
def x_Rests_mark (N : Nat) (x1 x2 : Int) (w : aw_W) : Option (aw_W) :=
  if x1 < 0 then
    x_Rests_mark_11 N w
  else
    if x1 < 10000 then
      if x2 = 0 then
        if 0 ≤ (aw_w (Int.tdiv x1 64)) ∧ (aw_w (Int.tdiv x1 64)) < 157 then
          if 0 ≤ (aw_w (Int.tdiv x1 64)) ∧ (aw_w (Int.tdiv x1 64)) < 157 then
            x_Rests_mark_56 N (aw_up w 24 ((aw_w (Int.tdiv x1 64)).toNat) (aw_andL (w 24 ((aw_w (Int.tdiv x1 64)).toNat)) (aw_xorL (aw_shlL 1 (aw_w (Int.tmod x1 64))) (-1))))
          else none
        else none
      else
        if 0 ≤ (aw_w (Int.tdiv x1 64)) ∧ (aw_w (Int.tdiv x1 64)) < 157 then
          if 0 ≤ (aw_w (Int.tdiv x1 64)) ∧ (aw_w (Int.tdiv x1 64)) < 157 then
            x_Rests_mark_56 N (aw_up w 24 ((aw_w (Int.tdiv x1 64)).toNat) (aw_orL (w 24 ((aw_w (Int.tdiv x1 64)).toNat)) (aw_shlL 1 (aw_w (Int.tmod x1 64)))))
          else none
        else none
    else
      x_Rests_mark_11 N w
theorem w_x_Rests_mark {l : Launch} {K : aw_K} (N d : Nat) (hd : 0 ≤ d) : ∀ (x1 x2 : Int) (w v : aw_W), x_Rests_mark N x1 x2 w = some v → aw_Met l K MX5_mark (d) [.inr (.inr 23), .inl x1, .inl x2] w (none, v) := by
  intro x1 x2 w v h
  unfold x_Rests_mark at h
  refine aw_enter rfl (Nat.le_of_ble_eq_true rfl) ?_
  show aw_AW l K MX5_mark (d) 0 [(0, .inr (.inr 23)), (1, .inl x1), (2, .inl x2)] [] w (none, v)
  refine aw_iload_n (pc := 0) (q := 1) dX5_mark_0 rfl ?_
  refine aw_if_lt (pc := 1) (tgt := 11) dX5_mark_1 (by decide) (fun hc => ?_) (fun hc => ?_)
  · rw [if_pos hc] at h
    exact aw_sel [] rfl (w_x_Rests_mark_11 N d  _ _ h)
  · rw [if_neg hc] at h
    refine aw_iload_n (pc := 4) (q := 1) dX5_mark_4 rfl ?_
    refine aw_sipush (pc := 5) dX5_mark_5 (by decide) ⟨by decide, by decide⟩ ?_
    refine aw_icmp_lt (pc := 8) (tgt := 12) dX5_mark_8 (by decide) (fun hc => ?_) (fun hc => ?_)
    · rw [if_pos hc] at h
      refine aw_lconst (pc := 12) (x := 1) dX5_mark_12 (by decide) ⟨by decide, by decide⟩ ?_
      refine aw_iload_n (pc := 13) (q := 1) dX5_mark_13 rfl ?_
      refine aw_bipush (pc := 14) dX5_mark_14 (by decide) ⟨by decide, by decide⟩ ?_
      refine aw_irem (pc := 16) dX5_mark_16 (by decide) ?_
      refine aw_lshl (pc := 17) dX5_mark_17 ?_
      refine aw_lstore_n (pc := 18) (ls' := [(3, .inr (.inl (aw_shlL 1 (aw_w (Int.tmod x1 64))))), (0, .inr (.inr 23)), (1, .inl x1), (2, .inl x2)]) dX5_mark_18 (by decide) rfl ?_
      refine aw_iload_n (pc := 19) (q := 3) dX5_mark_19 rfl ?_
      refine aw_if_eq (pc := 20) (tgt := 39) dX5_mark_20 (by decide) (fun hc => ?_) (fun hc => ?_)
      · rw [if_pos hc] at h
        refine aw_aload_n (pc := 39) (q := 1) dX5_mark_39 rfl ?_
        refine aw_getf (pc := 40) (v := .inr (.inr 24)) dX5_mark_40 fl_RX5_11 (by decide) rfl rfl rfl ?_
        refine aw_iload_n (pc := 43) (q := 2) dX5_mark_43 rfl ?_
        refine aw_bipush (pc := 44) dX5_mark_44 (by decide) ⟨by decide, by decide⟩ ?_
        refine aw_idiv (pc := 46) dX5_mark_46 (by decide) ?_
        refine aw_dup2 (pc := 47) dX5_mark_47 rfl rfl ?_
        obtain ⟨hb, h⟩ := aw_cks h
        refine aw_laldv (pc := 48) (v := w 24 ((aw_w (Int.tdiv x1 64)).toNat)) dX5_mark_48 rfl hb.1 hb.2 rfl ?_
        refine aw_lload_n (pc := 49) (q := 0) dX5_mark_49 rfl ?_
        refine aw_ldc2 (pc := 50) (x := (-1)) dX5_mark_50 cl_RX5_122 ⟨by decide, by decide⟩ ?_
        refine aw_lxor (pc := 53) dX5_mark_53 ?_
        refine aw_land (pc := 54) dX5_mark_54 ?_
        obtain ⟨hb, h⟩ := aw_cks h
        refine aw_last (pc := 55) dX5_mark_55 rfl hb.1 hb.2 ?_
        exact aw_sel [] rfl (w_x_Rests_mark_56 N d  _ _ h)
      · rw [if_neg hc] at h
        refine aw_aload_n (pc := 23) (q := 1) dX5_mark_23 rfl ?_
        refine aw_getf (pc := 24) (v := .inr (.inr 24)) dX5_mark_24 fl_RX5_11 (by decide) rfl rfl rfl ?_
        refine aw_iload_n (pc := 27) (q := 2) dX5_mark_27 rfl ?_
        refine aw_bipush (pc := 28) dX5_mark_28 (by decide) ⟨by decide, by decide⟩ ?_
        refine aw_idiv (pc := 30) dX5_mark_30 (by decide) ?_
        refine aw_dup2 (pc := 31) dX5_mark_31 rfl rfl ?_
        obtain ⟨hb, h⟩ := aw_cks h
        refine aw_laldv (pc := 32) (v := w 24 ((aw_w (Int.tdiv x1 64)).toNat)) dX5_mark_32 rfl hb.1 hb.2 rfl ?_
        refine aw_lload_n (pc := 33) (q := 0) dX5_mark_33 rfl ?_
        refine aw_lor (pc := 34) dX5_mark_34 ?_
        obtain ⟨hb, h⟩ := aw_cks h
        refine aw_last (pc := 35) dX5_mark_35 rfl hb.1 hb.2 ?_
        refine aw_goto (pc := 36) (tgt := 56) dX5_mark_36 (by decide) ?_
        exact aw_sel [] rfl (w_x_Rests_mark_56 N d  _ _ h)
    · rw [if_neg hc] at h
      exact aw_sel [] rfl (w_x_Rests_mark_11 N d  _ _ h)
theorem dX5_markAll_0 : decode cX5_markAll 0 = .ok (.aload_n 0, 1) := by decide +kernel
theorem dX5_markAll_1 : decode cX5_markAll 1 = .ok (.getfield 19, 3) := by decide +kernel
theorem dX5_markAll_4 : decode cX5_markAll 4 = .ok (.invokevirtual 53, 3) := by decide +kernel
theorem dX5_markAll_7 : decode cX5_markAll 7 = .ok (.istore_n 1, 1) := by decide +kernel
theorem dX5_markAll_8 : decode cX5_markAll 8 = .ok (.aload_n 0, 1) := by decide +kernel
theorem dX5_markAll_9 : decode cX5_markAll 9 = .ok (.getfield 23, 3) := by decide +kernel
theorem dX5_markAll_12 : decode cX5_markAll 12 = .ok (.iload_n 1, 1) := by decide +kernel
theorem dX5_markAll_13 : decode cX5_markAll 13 = .ok (.invokevirtual 57, 3) := by decide +kernel
theorem dX5_markAll_16 : decode cX5_markAll 16 = .ok (.aload_n 0, 1) := by decide +kernel
theorem dX5_markAll_17 : decode cX5_markAll 17 = .ok (.getfield 23, 3) := by decide +kernel
theorem dX5_markAll_20 : decode cX5_markAll 20 = .ok (.iload_n 1, 1) := by decide +kernel
theorem dX5_markAll_21 : decode cX5_markAll 21 = .ok (.invokevirtual 62, 3) := by decide +kernel
theorem dX5_markAll_24 : decode cX5_markAll 24 = .ok (.istore_n 2, 1) := by decide +kernel
theorem dX5_markAll_25 : decode cX5_markAll 25 = .ok (.iconst 0, 1) := by decide +kernel
theorem dX5_markAll_26 : decode cX5_markAll 26 = .ok (.istore_n 3, 1) := by decide +kernel
theorem dX5_markAll_27 : decode cX5_markAll 27 = .ok (.iload_n 3, 1) := by decide +kernel
theorem dX5_markAll_28 : decode cX5_markAll 28 = .ok (.iload_n 2, 1) := by decide +kernel
theorem dX5_markAll_29 : decode cX5_markAll 29 = .ok (.if_icmp .ge 29, 3) := by decide +kernel
theorem dX5_markAll_32 : decode cX5_markAll 32 = .ok (.aload_n 0, 1) := by decide +kernel
theorem dX5_markAll_33 : decode cX5_markAll 33 = .ok (.aload_n 0, 1) := by decide +kernel
theorem dX5_markAll_34 : decode cX5_markAll 34 = .ok (.getfield 23, 3) := by decide +kernel
theorem dX5_markAll_37 : decode cX5_markAll 37 = .ok (.invokevirtual 66, 3) := by decide +kernel
theorem dX5_markAll_40 : decode cX5_markAll 40 = .ok (.iconst 1, 1) := by decide +kernel
theorem dX5_markAll_41 : decode cX5_markAll 41 = .ok (.invokevirtual 69, 3) := by decide +kernel
theorem dX5_markAll_44 : decode cX5_markAll 44 = .ok (.aload_n 0, 1) := by decide +kernel
theorem dX5_markAll_45 : decode cX5_markAll 45 = .ok (.getfield 23, 3) := by decide +kernel
theorem dX5_markAll_48 : decode cX5_markAll 48 = .ok (.iload_n 1, 1) := by decide +kernel
theorem dX5_markAll_49 : decode cX5_markAll 49 = .ok (.invokevirtual 73, 3) := by decide +kernel
theorem dX5_markAll_52 : decode cX5_markAll 52 = .ok (.iinc 3 1, 3) := by decide +kernel
theorem dX5_markAll_55 : decode cX5_markAll 55 = .ok (.goto (-28), 3) := by decide +kernel
theorem dX5_markAll_58 : decode cX5_markAll 58 = .ok (.return_, 1) := by decide +kernel
def x_Rests_markAll_58 (N : Nat) (w : aw_W) : Option (aw_W) :=
  some w
theorem w_x_Rests_markAll_58 {l : Launch} {K : aw_K} (N d : Nat) (hd : 1 ≤ d) : ∀ (w v : aw_W), x_Rests_markAll_58 N w = some v → aw_AW l K MX5_markAll (d + 1) 58 [] [] w (none, v) := by
  intro w v h
  unfold x_Rests_markAll_58 at h
  cases h
  exact aw_vret (pc := 58) rfl dX5_markAll_58
def x_Rests_markAll_27 (N : Nat) : Nat → Int → Int → Int → aw_W → Option (aw_W)
  | 0, _, _, _, _ => none
  | n + 1, x1, x2, x3, w =>
    if x2 ≤ x3 then
      x_Rests_markAll_58 N w
    else
      aw_b2 (x_Sale_row N w) fun r1 w1 =>
        aw_b1 (x_Rests_mark N r1 1 w1) fun w2 =>
          aw_b1 (x_Sale_next N x1 w2) fun w3 =>
            x_Rests_markAll_27 N n x1 x2 (aw_w (x3 + 1)) w3
theorem w_x_Rests_markAll_27 {l : Launch} {K : aw_K} (N d : Nat) (hd : 1 ≤ d) : ∀ (n : Nat) (x1 x2 x3 : Int) (w v : aw_W), x_Rests_markAll_27 N n x1 x2 x3 w = some v → aw_AW l K MX5_markAll (d + 1) 27 [(0, .inr (.inr 23)), (1, .inl x1), (2, .inl x2), (3, .inl x3)] [] w (none, v) := by
  intro n
  induction n with
  | zero => intro x1 x2 x3 w v h; rw [x_Rests_markAll_27] at h; cases h
  | succ n ih =>
    intro x1 x2 x3 w v h
    rw [x_Rests_markAll_27] at h
    refine aw_iload_n (pc := 27) (q := 3) dX5_markAll_27 rfl ?_
    refine aw_iload_n (pc := 28) (q := 2) dX5_markAll_28 rfl ?_
    refine aw_icmp_ge (pc := 29) (tgt := 58) dX5_markAll_29 (by decide) (fun hc => ?_) (fun hc => ?_)
    · rw [if_pos hc] at h
      exact aw_sel [] rfl (w_x_Rests_markAll_58 N d hd  _ _ h)
    · rw [if_neg hc] at h
      refine aw_aload_n (pc := 32) (q := 0) dX5_markAll_32 rfl ?_
      refine aw_aload_n (pc := 33) (q := 0) dX5_markAll_33 rfl ?_
      refine aw_getf (pc := 34) (v := .inr (.inr 17)) dX5_markAll_34 fl_RX5_23 (by decide) rfl rfl rfl ?_
      obtain ⟨r1, w1, h1, h⟩ := aw_b2s h
      refine aw_callV (pc := 37) (as := []) (st := [.inr (.inr 23)]) (st' := [.inl r1, .inr (.inr 23)]) dX5_markAll_37 cv_RX5_66 (by decide) rfl rfl rfl rfl (Nat.le_of_ble_eq_true rfl) (w_x_Sale_row N d (by omega) _ _ _ h1) rfl ?_
      refine aw_iconst (pc := 40) dX5_markAll_40 ⟨by decide, by decide⟩ ?_
      obtain ⟨w2, h2, h⟩ := aw_b1s h
      refine aw_callV (pc := 41) (as := [.inl r1, .inl 1]) (st := []) (st' := []) dX5_markAll_41 cv_RX5_69 (by decide) rfl rfl rfl rfl (Nat.le_of_ble_eq_true rfl) (w_x_Rests_mark N d (by omega) _ _ _ _ h2) rfl ?_
      refine aw_aload_n (pc := 44) (q := 0) dX5_markAll_44 rfl ?_
      refine aw_getf (pc := 45) (v := .inr (.inr 17)) dX5_markAll_45 fl_RX5_23 (by decide) rfl rfl rfl ?_
      refine aw_iload_n (pc := 48) (q := 1) dX5_markAll_48 rfl ?_
      obtain ⟨w3, h3, h⟩ := aw_b1s h
      refine aw_callV (pc := 49) (as := [.inl x1]) (st := []) (st' := []) dX5_markAll_49 cv_RX5_73 (by decide) rfl rfl rfl rfl (Nat.le_of_ble_eq_true rfl) (w_x_Sale_next N d (by omega) _ _ _ h3) rfl ?_
      refine aw_iinc (pc := 52) (q := 3) (ls' := [(3, .inl (aw_w (x3 + 1))), (0, .inr (.inr 23)), (1, .inl x1), (2, .inl x2)]) dX5_markAll_52 rfl (by decide) rfl ?_
      refine aw_goto (pc := 55) (tgt := 27) dX5_markAll_55 (by decide) ?_
      exact aw_sel [1, 2, 3, 0] rfl (ih _ _ _ _ _ h)
def x_Rests_markAll (N : Nat) (w : aw_W) : Option (aw_W) :=
  aw_b2 (x_Land_all N w) fun r1 w1 =>
    aw_b1 (x_Sale_lowest N r1 w1) fun w2 =>
      aw_b2 (x_Sale_rowsOf N r1 w2) fun r3 w3 =>
        x_Rests_markAll_27 N N r1 r3 0 w3
theorem w_x_Rests_markAll_d {l : Launch} {K : aw_K} (N d : Nat) (hd : 1 ≤ d) : ∀ (w v : aw_W), x_Rests_markAll N w = some v → aw_Met l K MX5_markAll (d + 1) [.inr (.inr 23)] w (none, v) := by
  intro w v h
  unfold x_Rests_markAll at h
  refine aw_enter rfl (Nat.le_of_ble_eq_true rfl) ?_
  show aw_AW l K MX5_markAll (d + 1) 0 [(0, .inr (.inr 23))] [] w (none, v)
  refine aw_aload_n (pc := 0) (q := 0) dX5_markAll_0 rfl ?_
  refine aw_getf (pc := 1) (v := .inr (.inr 3)) dX5_markAll_1 fl_RX5_19 (by decide) rfl rfl rfl ?_
  obtain ⟨r1, w1, h1, h⟩ := aw_b2s h
  refine aw_callV (pc := 4) (as := []) (st := []) (st' := [.inl r1]) dX5_markAll_4 cv_RX5_53 (by decide) rfl rfl rfl rfl (Nat.le_of_ble_eq_true rfl) (w_x_Land_all N d (by omega) _ _ _ h1) rfl ?_
  refine aw_istore_n (pc := 7) (ls' := [(1, .inl r1), (0, .inr (.inr 23))]) dX5_markAll_7 (by decide) rfl ?_
  refine aw_aload_n (pc := 8) (q := 1) dX5_markAll_8 rfl ?_
  refine aw_getf (pc := 9) (v := .inr (.inr 17)) dX5_markAll_9 fl_RX5_23 (by decide) rfl rfl rfl ?_
  refine aw_iload_n (pc := 12) (q := 0) dX5_markAll_12 rfl ?_
  obtain ⟨w2, h2, h⟩ := aw_b1s h
  refine aw_callV (pc := 13) (as := [.inl r1]) (st := []) (st' := []) dX5_markAll_13 cv_RX5_57 (by decide) rfl rfl rfl rfl (Nat.le_of_ble_eq_true rfl) (w_x_Sale_lowest N d (by omega) _ _ _ h2) rfl ?_
  refine aw_aload_n (pc := 16) (q := 1) dX5_markAll_16 rfl ?_
  refine aw_getf (pc := 17) (v := .inr (.inr 17)) dX5_markAll_17 fl_RX5_23 (by decide) rfl rfl rfl ?_
  refine aw_iload_n (pc := 20) (q := 0) dX5_markAll_20 rfl ?_
  obtain ⟨r3, w3, h3, h⟩ := aw_b2s h
  refine aw_callV (pc := 21) (as := [.inl r1]) (st := []) (st' := [.inl r3]) dX5_markAll_21 cv_RX5_62 (by decide) rfl rfl rfl rfl (Nat.le_of_ble_eq_true rfl) (w_x_Sale_rowsOf N d (by omega) _ _ _ _ h3) rfl ?_
  refine aw_istore_n (pc := 24) (ls' := [(2, .inl r3), (1, .inl r1), (0, .inr (.inr 23))]) dX5_markAll_24 (by decide) rfl ?_
  refine aw_iconst (pc := 25) dX5_markAll_25 ⟨by decide, by decide⟩ ?_
  refine aw_istore_n (pc := 26) (ls' := [(3, .inl 0), (2, .inl r3), (1, .inl r1), (0, .inr (.inr 23))]) dX5_markAll_26 (by decide) rfl ?_
  exact aw_sel [3, 2, 1, 0] rfl (w_x_Rests_markAll_27 N d hd  N _ _ _ _ _ h)
theorem w_x_Rests_markAll {l : Launch} {K : aw_K} (N d : Nat) (hd : 2 ≤ d) : ∀ (w v : aw_W), x_Rests_markAll N w = some v → aw_Met l K MX5_markAll (d) [.inr (.inr 23)] w (none, v) := by
  obtain ⟨e, rfl⟩ : ∃ e, d = e + 1 := ⟨d - 1, by omega⟩
  exact w_x_Rests_markAll_d N e (by omega)
theorem dX5_isMarked_0 : decode cX5_isMarked 0 = .ok (.iload_n 1, 1) := by decide +kernel
theorem dX5_isMarked_1 : decode cX5_isMarked 1 = .ok (.ifCond .lt 35, 3) := by decide +kernel
theorem dX5_isMarked_4 : decode cX5_isMarked 4 = .ok (.iload_n 1, 1) := by decide +kernel
theorem dX5_isMarked_5 : decode cX5_isMarked 5 = .ok (.sipush 10000, 3) := by decide +kernel
theorem dX5_isMarked_8 : decode cX5_isMarked 8 = .ok (.if_icmp .ge 28, 3) := by decide +kernel
theorem dX5_isMarked_11 : decode cX5_isMarked 11 = .ok (.aload_n 0, 1) := by decide +kernel
theorem dX5_isMarked_12 : decode cX5_isMarked 12 = .ok (.getfield 11, 3) := by decide +kernel
theorem dX5_isMarked_15 : decode cX5_isMarked 15 = .ok (.iload_n 1, 1) := by decide +kernel
theorem dX5_isMarked_16 : decode cX5_isMarked 16 = .ok (.bipush 64, 2) := by decide +kernel
theorem dX5_isMarked_18 : decode cX5_isMarked 18 = .ok (.idiv, 1) := by decide +kernel
theorem dX5_isMarked_19 : decode cX5_isMarked 19 = .ok (.laload, 1) := by decide +kernel
theorem dX5_isMarked_20 : decode cX5_isMarked 20 = .ok (.iload_n 1, 1) := by decide +kernel
theorem dX5_isMarked_21 : decode cX5_isMarked 21 = .ok (.bipush 64, 2) := by decide +kernel
theorem dX5_isMarked_23 : decode cX5_isMarked 23 = .ok (.irem, 1) := by decide +kernel
theorem dX5_isMarked_24 : decode cX5_isMarked 24 = .ok (.lushr, 1) := by decide +kernel
theorem dX5_isMarked_25 : decode cX5_isMarked 25 = .ok (.lconst 1, 1) := by decide +kernel
theorem dX5_isMarked_26 : decode cX5_isMarked 26 = .ok (.land, 1) := by decide +kernel
theorem dX5_isMarked_27 : decode cX5_isMarked 27 = .ok (.lconst 0, 1) := by decide +kernel
theorem dX5_isMarked_28 : decode cX5_isMarked 28 = .ok (.lcmp, 1) := by decide +kernel
theorem dX5_isMarked_29 : decode cX5_isMarked 29 = .ok (.ifCond .eq 7, 3) := by decide +kernel
theorem dX5_isMarked_32 : decode cX5_isMarked 32 = .ok (.iconst 1, 1) := by decide +kernel
theorem dX5_isMarked_33 : decode cX5_isMarked 33 = .ok (.goto 4, 3) := by decide +kernel
theorem dX5_isMarked_36 : decode cX5_isMarked 36 = .ok (.iconst 0, 1) := by decide +kernel
theorem dX5_isMarked_37 : decode cX5_isMarked 37 = .ok (.ireturn, 1) := by decide +kernel
def x_Rests_isMarked_37 (N : Nat) (s0 : Int) (w : aw_W) : Option (Int × aw_W) :=
  if s0 = 0 ∨ s0 = 1 then
    some (s0, w)
  else none
theorem w_x_Rests_isMarked_37 {l : Launch} {K : aw_K} (N d : Nat) : ∀ (s0 : Int) (w : aw_W) (y : Int) (v : aw_W), x_Rests_isMarked_37 N s0 w = some (y, v) → aw_AW l K MX5_isMarked (d) 37 [] [.inl s0] w (some (.inl y), v) := by
  intro s0 w y v h
  unfold x_Rests_isMarked_37 at h
  obtain ⟨hz, h⟩ := aw_cks h
  cases h
  exact aw_zret (pc := 37) rfl hz dX5_isMarked_37
def x_Rests_isMarked_36 (N : Nat) (w : aw_W) : Option (Int × aw_W) :=
  x_Rests_isMarked_37 N 0 w
theorem w_x_Rests_isMarked_36 {l : Launch} {K : aw_K} (N d : Nat) : ∀ (w : aw_W) (y : Int) (v : aw_W), x_Rests_isMarked_36 N w = some (y, v) → aw_AW l K MX5_isMarked (d) 36 [] [] w (some (.inl y), v) := by
  intro w y v h
  unfold x_Rests_isMarked_36 at h
  refine aw_iconst (pc := 36) dX5_isMarked_36 ⟨by decide, by decide⟩ ?_
  exact aw_sel [] rfl (w_x_Rests_isMarked_37 N d  _ _ _ _ h)
def x_Rests_isMarked (N : Nat) (x1 : Int) (w : aw_W) : Option (Int × aw_W) :=
  if x1 < 0 then
    x_Rests_isMarked_36 N w
  else
    if 10000 ≤ x1 then
      x_Rests_isMarked_36 N w
    else
      if 0 ≤ (aw_w (Int.tdiv x1 64)) ∧ (aw_w (Int.tdiv x1 64)) < 157 then
        if (aw_cmpL (aw_andL (aw_ushrL (w 24 ((aw_w (Int.tdiv x1 64)).toNat)) (aw_w (Int.tmod x1 64))) 1) 0) = 0 then
          x_Rests_isMarked_36 N w
        else
          x_Rests_isMarked_37 N 1 w
      else none
theorem w_x_Rests_isMarked {l : Launch} {K : aw_K} (N d : Nat) (hd : 0 ≤ d) : ∀ (x1 : Int) (w : aw_W) (y : Int) (v : aw_W), x_Rests_isMarked N x1 w = some (y, v) → aw_Met l K MX5_isMarked (d) [.inr (.inr 23), .inl x1] w (some (.inl y), v) := by
  intro x1 w y v h
  unfold x_Rests_isMarked at h
  refine aw_enter rfl (Nat.le_of_ble_eq_true rfl) ?_
  show aw_AW l K MX5_isMarked (d) 0 [(0, .inr (.inr 23)), (1, .inl x1)] [] w (some (.inl y), v)
  refine aw_iload_n (pc := 0) (q := 1) dX5_isMarked_0 rfl ?_
  refine aw_if_lt (pc := 1) (tgt := 36) dX5_isMarked_1 (by decide) (fun hc => ?_) (fun hc => ?_)
  · rw [if_pos hc] at h
    exact aw_sel [] rfl (w_x_Rests_isMarked_36 N d  _ _ _ h)
  · rw [if_neg hc] at h
    refine aw_iload_n (pc := 4) (q := 1) dX5_isMarked_4 rfl ?_
    refine aw_sipush (pc := 5) dX5_isMarked_5 (by decide) ⟨by decide, by decide⟩ ?_
    refine aw_icmp_ge (pc := 8) (tgt := 36) dX5_isMarked_8 (by decide) (fun hc => ?_) (fun hc => ?_)
    · rw [if_pos hc] at h
      exact aw_sel [] rfl (w_x_Rests_isMarked_36 N d  _ _ _ h)
    · rw [if_neg hc] at h
      refine aw_aload_n (pc := 11) (q := 0) dX5_isMarked_11 rfl ?_
      refine aw_getf (pc := 12) (v := .inr (.inr 24)) dX5_isMarked_12 fl_RX5_11 (by decide) rfl rfl rfl ?_
      refine aw_iload_n (pc := 15) (q := 1) dX5_isMarked_15 rfl ?_
      refine aw_bipush (pc := 16) dX5_isMarked_16 (by decide) ⟨by decide, by decide⟩ ?_
      refine aw_idiv (pc := 18) dX5_isMarked_18 (by decide) ?_
      obtain ⟨hb, h⟩ := aw_cks h
      refine aw_laldv (pc := 19) (v := w 24 ((aw_w (Int.tdiv x1 64)).toNat)) dX5_isMarked_19 rfl hb.1 hb.2 rfl ?_
      refine aw_iload_n (pc := 20) (q := 1) dX5_isMarked_20 rfl ?_
      refine aw_bipush (pc := 21) dX5_isMarked_21 (by decide) ⟨by decide, by decide⟩ ?_
      refine aw_irem (pc := 23) dX5_isMarked_23 (by decide) ?_
      refine aw_lushr (pc := 24) dX5_isMarked_24 ?_
      refine aw_lconst (pc := 25) (x := 1) dX5_isMarked_25 (by decide) ⟨by decide, by decide⟩ ?_
      refine aw_land (pc := 26) dX5_isMarked_26 ?_
      refine aw_lconst (pc := 27) (x := 0) dX5_isMarked_27 (by decide) ⟨by decide, by decide⟩ ?_
      refine aw_lcmp (pc := 28) dX5_isMarked_28 ?_
      refine aw_if_eq (pc := 29) (tgt := 36) dX5_isMarked_29 (by decide) (fun hc => ?_) (fun hc => ?_)
      · rw [if_pos hc] at h
        exact aw_sel [] rfl (w_x_Rests_isMarked_36 N d  _ _ _ h)
      · rw [if_neg hc] at h
        refine aw_iconst (pc := 32) dX5_isMarked_32 ⟨by decide, by decide⟩ ?_
        refine aw_goto (pc := 33) (tgt := 37) dX5_isMarked_33 (by decide) ?_
        exact aw_sel [] rfl (w_x_Rests_isMarked_37 N d  _ _ _ _ h)
theorem dX5_tally_0 : decode cX5_tally 0 = .ok (.aload_n 0, 1) := by decide +kernel
theorem dX5_tally_1 : decode cX5_tally 1 = .ok (.iconst 0, 1) := by decide +kernel
theorem dX5_tally_2 : decode cX5_tally 2 = .ok (.putfield 91, 3) := by decide +kernel
theorem dX5_tally_5 : decode cX5_tally 5 = .ok (.iconst 0, 1) := by decide +kernel
theorem dX5_tally_6 : decode cX5_tally 6 = .ok (.istore_n 1, 1) := by decide +kernel
theorem dX5_tally_7 : decode cX5_tally 7 = .ok (.iload_n 1, 1) := by decide +kernel
theorem dX5_tally_8 : decode cX5_tally 8 = .ok (.sipush 10000, 3) := by decide +kernel
theorem dX5_tally_11 : decode cX5_tally 11 = .ok (.if_icmp .ge 100, 3) := by decide +kernel
theorem dX5_tally_14 : decode cX5_tally 14 = .ok (.aload_n 0, 1) := by decide +kernel
theorem dX5_tally_15 : decode cX5_tally 15 = .ok (.iload_n 1, 1) := by decide +kernel
theorem dX5_tally_16 : decode cX5_tally 16 = .ok (.invokevirtual 94, 3) := by decide +kernel
theorem dX5_tally_19 : decode cX5_tally 19 = .ok (.ifCond .ne 6, 3) := by decide +kernel
theorem dX5_tally_22 : decode cX5_tally 22 = .ok (.goto 83, 3) := by decide +kernel
theorem dX5_tally_25 : decode cX5_tally 25 = .ok (.aload_n 0, 1) := by decide +kernel
theorem dX5_tally_26 : decode cX5_tally 26 = .ok (.getfield 23, 3) := by decide +kernel
theorem dX5_tally_29 : decode cX5_tally 29 = .ok (.iload_n 1, 1) := by decide +kernel
theorem dX5_tally_30 : decode cX5_tally 30 = .ok (.invokevirtual 98, 3) := by decide +kernel
theorem dX5_tally_33 : decode cX5_tally 33 = .ok (.pop, 1) := by decide +kernel
theorem dX5_tally_34 : decode cX5_tally 34 = .ok (.aload_n 0, 1) := by decide +kernel
theorem dX5_tally_35 : decode cX5_tally 35 = .ok (.getfield 23, 3) := by decide +kernel
theorem dX5_tally_38 : decode cX5_tally 38 = .ok (.invokevirtual 101, 3) := by decide +kernel
theorem dX5_tally_41 : decode cX5_tally 41 = .ok (.aload_n 0, 1) := by decide +kernel
theorem dX5_tally_42 : decode cX5_tally 42 = .ok (.getfield 23, 3) := by decide +kernel
theorem dX5_tally_45 : decode cX5_tally 45 = .ok (.invokevirtual 104, 3) := by decide +kernel
theorem dX5_tally_48 : decode cX5_tally 48 = .ok (.istore_n 2, 1) := by decide +kernel
theorem dX5_tally_49 : decode cX5_tally 49 = .ok (.aload_n 0, 1) := by decide +kernel
theorem dX5_tally_50 : decode cX5_tally 50 = .ok (.aload_n 0, 1) := by decide +kernel
theorem dX5_tally_51 : decode cX5_tally 51 = .ok (.getfield 91, 3) := by decide +kernel
theorem dX5_tally_54 : decode cX5_tally 54 = .ok (.ifCond .ne 7, 3) := by decide +kernel
theorem dX5_tally_57 : decode cX5_tally 57 = .ok (.iload_n 2, 1) := by decide +kernel
theorem dX5_tally_58 : decode cX5_tally 58 = .ok (.goto 11, 3) := by decide +kernel
theorem dX5_tally_61 : decode cX5_tally 61 = .ok (.aload_n 0, 1) := by decide +kernel
theorem dX5_tally_62 : decode cX5_tally 62 = .ok (.getfield 107, 3) := by decide +kernel
theorem dX5_tally_65 : decode cX5_tally 65 = .ok (.iload_n 2, 1) := by decide +kernel
theorem dX5_tally_66 : decode cX5_tally 66 = .ok (.invokestatic 110, 3) := by decide +kernel
theorem dX5_tally_69 : decode cX5_tally 69 = .ok (.putfield 107, 3) := by decide +kernel
theorem dX5_tally_72 : decode cX5_tally 72 = .ok (.aload_n 0, 1) := by decide +kernel
theorem dX5_tally_73 : decode cX5_tally 73 = .ok (.aload_n 0, 1) := by decide +kernel
theorem dX5_tally_74 : decode cX5_tally 74 = .ok (.getfield 91, 3) := by decide +kernel
theorem dX5_tally_77 : decode cX5_tally 77 = .ok (.ifCond .ne 7, 3) := by decide +kernel
theorem dX5_tally_80 : decode cX5_tally 80 = .ok (.iload_n 2, 1) := by decide +kernel
theorem dX5_tally_81 : decode cX5_tally 81 = .ok (.goto 11, 3) := by decide +kernel
theorem dX5_tally_84 : decode cX5_tally 84 = .ok (.aload_n 0, 1) := by decide +kernel
theorem dX5_tally_85 : decode cX5_tally 85 = .ok (.getfield 113, 3) := by decide +kernel
theorem dX5_tally_88 : decode cX5_tally 88 = .ok (.iload_n 2, 1) := by decide +kernel
theorem dX5_tally_89 : decode cX5_tally 89 = .ok (.invokestatic 83, 3) := by decide +kernel
theorem dX5_tally_92 : decode cX5_tally 92 = .ok (.putfield 113, 3) := by decide +kernel
theorem dX5_tally_95 : decode cX5_tally 95 = .ok (.aload_n 0, 1) := by decide +kernel
theorem dX5_tally_96 : decode cX5_tally 96 = .ok (.dup, 1) := by decide +kernel
theorem dX5_tally_97 : decode cX5_tally 97 = .ok (.getfield 91, 3) := by decide +kernel
theorem dX5_tally_100 : decode cX5_tally 100 = .ok (.iconst 1, 1) := by decide +kernel
theorem dX5_tally_101 : decode cX5_tally 101 = .ok (.iadd, 1) := by decide +kernel
theorem dX5_tally_102 : decode cX5_tally 102 = .ok (.putfield 91, 3) := by decide +kernel
theorem dX5_tally_105 : decode cX5_tally 105 = .ok (.iinc 1 1, 3) := by decide +kernel
theorem dX5_tally_108 : decode cX5_tally 108 = .ok (.goto (-101), 3) := by decide +kernel
theorem dX5_tally_111 : decode cX5_tally 111 = .ok (.return_, 1) := by decide +kernel
def x_Rests_tally_111 (N : Nat) (w : aw_W) : Option (aw_W) :=
  some w
theorem w_x_Rests_tally_111 {l : Launch} {K : aw_K} (N d : Nat) (hd : 2 ≤ d) : ∀ (w v : aw_W), x_Rests_tally_111 N w = some v → aw_AW l K MX5_tally (d + 1) 111 [] [] w (none, v) := by
  intro w v h
  unfold x_Rests_tally_111 at h
  cases h
  exact aw_vret (pc := 111) rfl dX5_tally_111
def x_Rests_tally_105 (N : Nat) (k7 : Int → aw_W → Option (aw_W)) (x1 : Int) (w : aw_W) : Option (aw_W) :=
  k7 (aw_w (x1 + 1)) w
theorem w_x_Rests_tally_105 {l : Launch} {K : aw_K} (N d : Nat) (hd : 2 ≤ d) (k7 : Int → aw_W → Option (aw_W)) (hk7 : ∀ (x1 : Int) (w v : aw_W), k7 x1 w = some v → aw_AW l K MX5_tally (d + 1) 7 [(0, .inr (.inr 23)), (1, .inl x1)] [] w (none, v)) : ∀ (x1 : Int) (w v : aw_W), x_Rests_tally_105 N k7 x1 w = some v → aw_AW l K MX5_tally (d + 1) 105 [(0, .inr (.inr 23)), (1, .inl x1)] [] w (none, v) := by
  intro x1 w v h
  unfold x_Rests_tally_105 at h
  refine aw_iinc (pc := 105) (q := 1) (ls' := [(1, .inl (aw_w (x1 + 1))), (0, .inr (.inr 23))]) dX5_tally_105 rfl (by decide) rfl ?_
  refine aw_goto (pc := 108) (tgt := 7) dX5_tally_108 (by decide) ?_
  exact aw_sel [1, 0] rfl (hk7 _ _ _ h)
def x_Rests_tally_92 (N : Nat) (k7 : Int → aw_W → Option (aw_W)) (x1 s0 : Int) (w : aw_W) : Option (aw_W) :=
  x_Rests_tally_105 N k7 x1 (aw_up (aw_up w 23 7 s0) 23 5 (aw_w ((w 23 5) + 1)))
theorem w_x_Rests_tally_92 {l : Launch} {K : aw_K} (N d : Nat) (hd : 2 ≤ d) (k7 : Int → aw_W → Option (aw_W)) (hk7 : ∀ (x1 : Int) (w v : aw_W), k7 x1 w = some v → aw_AW l K MX5_tally (d + 1) 7 [(0, .inr (.inr 23)), (1, .inl x1)] [] w (none, v)) : ∀ (x1 s0 : Int) (w v : aw_W), x_Rests_tally_92 N k7 x1 s0 w = some v → aw_AW l K MX5_tally (d + 1) 92 [(0, .inr (.inr 23)), (1, .inl x1)] [.inl s0, .inr (.inr 23)] w (none, v) := by
  intro x1 s0 w v h
  unfold x_Rests_tally_92 at h
  refine aw_puti (pc := 92) dX5_tally_92 fp_RX5_113 (by decide) rfl rfl ?_
  refine aw_aload_n (pc := 95) (q := 0) dX5_tally_95 rfl ?_
  refine aw_dup (pc := 96) dX5_tally_96 rfl ?_
  refine aw_getf (pc := 97) (v := .inl (w 23 5)) dX5_tally_97 fl_RX5_91 (by decide) rfl rfl rfl ?_
  refine aw_iconst (pc := 100) dX5_tally_100 ⟨by decide, by decide⟩ ?_
  refine aw_iadd (pc := 101) dX5_tally_101 ?_
  refine aw_puti (pc := 102) dX5_tally_102 fp_RX5_91 (by decide) rfl rfl ?_
  exact aw_sel [0, 1] rfl (w_x_Rests_tally_105 N d hd  _ hk7 _ _ _ h)
def x_Rests_tally_69 (N : Nat) (k7 : Int → aw_W → Option (aw_W)) (x1 x2 s0 : Int) (w : aw_W) : Option (aw_W) :=
  if (w 23 5) = 0 then
    x_Rests_tally_92 N k7 x1 x2 (aw_up w 23 6 s0)
  else
    x_Rests_tally_92 N k7 x1 (aw_mx (w 23 7) x2) (aw_up w 23 6 s0)
theorem w_x_Rests_tally_69 {l : Launch} {K : aw_K} (N d : Nat) (hd : 2 ≤ d) (k7 : Int → aw_W → Option (aw_W)) (hk7 : ∀ (x1 : Int) (w v : aw_W), k7 x1 w = some v → aw_AW l K MX5_tally (d + 1) 7 [(0, .inr (.inr 23)), (1, .inl x1)] [] w (none, v)) : ∀ (x1 x2 s0 : Int) (w v : aw_W), x_Rests_tally_69 N k7 x1 x2 s0 w = some v → aw_AW l K MX5_tally (d + 1) 69 [(0, .inr (.inr 23)), (1, .inl x1), (2, .inl x2)] [.inl s0, .inr (.inr 23)] w (none, v) := by
  intro x1 x2 s0 w v h
  unfold x_Rests_tally_69 at h
  refine aw_puti (pc := 69) dX5_tally_69 fp_RX5_107 (by decide) rfl rfl ?_
  refine aw_aload_n (pc := 72) (q := 0) dX5_tally_72 rfl ?_
  refine aw_aload_n (pc := 73) (q := 0) dX5_tally_73 rfl ?_
  refine aw_getf (pc := 74) (v := .inl (w 23 5)) dX5_tally_74 fl_RX5_91 (by decide) rfl rfl rfl ?_
  refine aw_if_ne (pc := 77) (tgt := 84) dX5_tally_77 (by decide) (fun hc => ?_) (fun hc => ?_)
  · rw [if_neg hc] at h
    refine aw_aload_n (pc := 84) (q := 0) dX5_tally_84 rfl ?_
    refine aw_getf (pc := 85) (v := .inl (w 23 7)) dX5_tally_85 fl_RX5_113 (by decide) rfl rfl rfl ?_
    refine aw_iload_n (pc := 88) (q := 2) dX5_tally_88 rfl ?_
    refine aw_mmax (pc := 89) dX5_tally_89 cm_RX5_83 (Nat.le_of_ble_eq_true rfl) ?_
    exact aw_sel [0, 1] rfl (w_x_Rests_tally_92 N d hd  _ hk7 _ _ _ _ h)
  · rw [if_pos hc] at h
    refine aw_iload_n (pc := 80) (q := 2) dX5_tally_80 rfl ?_
    refine aw_goto (pc := 81) (tgt := 92) dX5_tally_81 (by decide) ?_
    exact aw_sel [0, 1] rfl (w_x_Rests_tally_92 N d hd  _ hk7 _ _ _ _ h)
def x_Rests_tally_7 (N : Nat) : Nat → Int → aw_W → Option (aw_W)
  | 0, _, _ => none
  | n + 1, x1, w =>
    if 10000 ≤ x1 then
      x_Rests_tally_111 N w
    else
      aw_b2 (x_Rests_isMarked N x1 w) fun r1 w1 =>
        if r1 = 0 then
          x_Rests_tally_105 N (x_Rests_tally_7 N n) x1 w1
        else
          aw_b2 (x_Sale_put N x1 w1) fun r2 w2 =>
            aw_b1 (x_Sale_settle N w2) fun w3 =>
              aw_b2 (x_Sale_takings N w3) fun r4 w4 =>
                if (w4 23 5) = 0 then
                  x_Rests_tally_69 N (x_Rests_tally_7 N n) x1 r4 r4 w4
                else
                  x_Rests_tally_69 N (x_Rests_tally_7 N n) x1 r4 (aw_mn (w4 23 6) r4) w4
theorem w_x_Rests_tally_7 {l : Launch} {K : aw_K} (N d : Nat) (hd : 2 ≤ d) : ∀ (n : Nat) (x1 : Int) (w v : aw_W), x_Rests_tally_7 N n x1 w = some v → aw_AW l K MX5_tally (d + 1) 7 [(0, .inr (.inr 23)), (1, .inl x1)] [] w (none, v) := by
  intro n
  induction n with
  | zero => intro x1 w v h; rw [x_Rests_tally_7] at h; cases h
  | succ n ih =>
    intro x1 w v h
    rw [x_Rests_tally_7] at h
    refine aw_iload_n (pc := 7) (q := 1) dX5_tally_7 rfl ?_
    refine aw_sipush (pc := 8) dX5_tally_8 (by decide) ⟨by decide, by decide⟩ ?_
    refine aw_icmp_ge (pc := 11) (tgt := 111) dX5_tally_11 (by decide) (fun hc => ?_) (fun hc => ?_)
    · rw [if_pos hc] at h
      exact aw_sel [] rfl (w_x_Rests_tally_111 N d hd  _ _ h)
    · rw [if_neg hc] at h
      refine aw_aload_n (pc := 14) (q := 0) dX5_tally_14 rfl ?_
      refine aw_iload_n (pc := 15) (q := 1) dX5_tally_15 rfl ?_
      obtain ⟨r1, w1, h1, h⟩ := aw_b2s h
      refine aw_callV (pc := 16) (as := [.inl x1]) (st := []) (st' := [.inl r1]) dX5_tally_16 cv_RX5_94 (by decide) rfl rfl rfl rfl (Nat.le_of_ble_eq_true rfl) (w_x_Rests_isMarked N d (by omega) _ _ _ _ h1) rfl ?_
      refine aw_if_ne (pc := 19) (tgt := 25) dX5_tally_19 (by decide) (fun hc => ?_) (fun hc => ?_)
      · rw [if_neg hc] at h
        refine aw_aload_n (pc := 25) (q := 0) dX5_tally_25 rfl ?_
        refine aw_getf (pc := 26) (v := .inr (.inr 17)) dX5_tally_26 fl_RX5_23 (by decide) rfl rfl rfl ?_
        refine aw_iload_n (pc := 29) (q := 1) dX5_tally_29 rfl ?_
        obtain ⟨r2, w2, h2, h⟩ := aw_b2s h
        refine aw_callV (pc := 30) (as := [.inl x1]) (st := []) (st' := [.inl r2]) dX5_tally_30 cv_RX5_98 (by decide) rfl rfl rfl rfl (Nat.le_of_ble_eq_true rfl) (w_x_Sale_put N d (by omega) _ _ _ _ h2) rfl ?_
        refine aw_pop (pc := 33) dX5_tally_33 rfl ?_
        refine aw_aload_n (pc := 34) (q := 0) dX5_tally_34 rfl ?_
        refine aw_getf (pc := 35) (v := .inr (.inr 17)) dX5_tally_35 fl_RX5_23 (by decide) rfl rfl rfl ?_
        obtain ⟨w3, h3, h⟩ := aw_b1s h
        refine aw_callV (pc := 38) (as := []) (st := []) (st' := []) dX5_tally_38 cv_RX5_101 (by decide) rfl rfl rfl rfl (Nat.le_of_ble_eq_true rfl) (w_x_Sale_settle N d (by omega) _ _ h3) rfl ?_
        refine aw_aload_n (pc := 41) (q := 0) dX5_tally_41 rfl ?_
        refine aw_getf (pc := 42) (v := .inr (.inr 17)) dX5_tally_42 fl_RX5_23 (by decide) rfl rfl rfl ?_
        obtain ⟨r4, w4, h4, h⟩ := aw_b2s h
        refine aw_callV (pc := 45) (as := []) (st := []) (st' := [.inl r4]) dX5_tally_45 cv_RX5_104 (by decide) rfl rfl rfl rfl (Nat.le_of_ble_eq_true rfl) (w_x_Sale_takings N d (by omega) _ _ _ h4) rfl ?_
        refine aw_istore_n (pc := 48) (ls' := [(2, .inl r4), (0, .inr (.inr 23)), (1, .inl x1)]) dX5_tally_48 (by decide) rfl ?_
        refine aw_aload_n (pc := 49) (q := 1) dX5_tally_49 rfl ?_
        refine aw_aload_n (pc := 50) (q := 1) dX5_tally_50 rfl ?_
        refine aw_getf (pc := 51) (v := .inl (w4 23 5)) dX5_tally_51 fl_RX5_91 (by decide) rfl rfl rfl ?_
        refine aw_if_ne (pc := 54) (tgt := 61) dX5_tally_54 (by decide) (fun hc => ?_) (fun hc => ?_)
        · rw [if_neg hc] at h
          refine aw_aload_n (pc := 61) (q := 1) dX5_tally_61 rfl ?_
          refine aw_getf (pc := 62) (v := .inl (w4 23 6)) dX5_tally_62 fl_RX5_107 (by decide) rfl rfl rfl ?_
          refine aw_iload_n (pc := 65) (q := 0) dX5_tally_65 rfl ?_
          refine aw_mmin (pc := 66) dX5_tally_66 cm_RX5_110 (Nat.le_of_ble_eq_true rfl) ?_
          exact aw_sel [1, 2, 0] rfl (w_x_Rests_tally_69 N d hd  _ ih _ _ _ _ _ h)
        · rw [if_pos hc] at h
          refine aw_iload_n (pc := 57) (q := 0) dX5_tally_57 rfl ?_
          refine aw_goto (pc := 58) (tgt := 69) dX5_tally_58 (by decide) ?_
          exact aw_sel [1, 2, 0] rfl (w_x_Rests_tally_69 N d hd  _ ih _ _ _ _ _ h)
      · rw [if_pos hc] at h
        refine aw_goto (pc := 22) (tgt := 105) dX5_tally_22 (by decide) ?_
        exact aw_sel [0, 1] rfl (w_x_Rests_tally_105 N d hd  _ ih _ _ _ h)
def x_Rests_tally (N : Nat) (w : aw_W) : Option (aw_W) :=
  x_Rests_tally_7 N N 0 (aw_up w 23 5 0)
theorem w_x_Rests_tally_d {l : Launch} {K : aw_K} (N d : Nat) (hd : 2 ≤ d) : ∀ (w v : aw_W), x_Rests_tally N w = some v → aw_Met l K MX5_tally (d + 1) [.inr (.inr 23)] w (none, v) := by
  intro w v h
  unfold x_Rests_tally at h
  refine aw_enter rfl (Nat.le_of_ble_eq_true rfl) ?_
  show aw_AW l K MX5_tally (d + 1) 0 [(0, .inr (.inr 23))] [] w (none, v)
  refine aw_aload_n (pc := 0) (q := 0) dX5_tally_0 rfl ?_
  refine aw_iconst (pc := 1) dX5_tally_1 ⟨by decide, by decide⟩ ?_
  refine aw_puti (pc := 2) dX5_tally_2 fp_RX5_91 (by decide) rfl rfl ?_
  refine aw_iconst (pc := 5) dX5_tally_5 ⟨by decide, by decide⟩ ?_
  refine aw_istore_n (pc := 6) (ls' := [(1, .inl 0), (0, .inr (.inr 23))]) dX5_tally_6 (by decide) rfl ?_
  exact aw_sel [1, 0] rfl (w_x_Rests_tally_7 N d hd  N _ _ _ h)
theorem w_x_Rests_tally {l : Launch} {K : aw_K} (N d : Nat) (hd : 3 ≤ d) : ∀ (w v : aw_W), x_Rests_tally N w = some v → aw_Met l K MX5_tally (d) [.inr (.inr 23)] w (none, v) := by
  obtain ⟨e, rfl⟩ : ∃ e, d = e + 1 := ⟨d - 1, by omega⟩
  exact w_x_Rests_tally_d N e (by omega)
theorem dX5_unmarkWorse_0 : decode cX5_unmarkWorse 0 = .ok (.aload_n 0, 1) := by decide +kernel
theorem dX5_unmarkWorse_1 : decode cX5_unmarkWorse 1 = .ok (.getfield 19, 3) := by decide +kernel
theorem dX5_unmarkWorse_4 : decode cX5_unmarkWorse 4 = .ok (.invokevirtual 53, 3) := by decide +kernel
theorem dX5_unmarkWorse_7 : decode cX5_unmarkWorse 7 = .ok (.iconst 1, 1) := by decide +kernel
theorem dX5_unmarkWorse_8 : decode cX5_unmarkWorse 8 = .ok (.iload_n 1, 1) := by decide +kernel
theorem dX5_unmarkWorse_9 : decode cX5_unmarkWorse 9 = .ok (.ishl, 1) := by decide +kernel
theorem dX5_unmarkWorse_10 : decode cX5_unmarkWorse 10 = .ok (.iconst (-1), 1) := by decide +kernel
theorem dX5_unmarkWorse_11 : decode cX5_unmarkWorse 11 = .ok (.ixor, 1) := by decide +kernel
theorem dX5_unmarkWorse_12 : decode cX5_unmarkWorse 12 = .ok (.iand, 1) := by decide +kernel
theorem dX5_unmarkWorse_13 : decode cX5_unmarkWorse 13 = .ok (.istore_n 2, 1) := by decide +kernel
theorem dX5_unmarkWorse_14 : decode cX5_unmarkWorse 14 = .ok (.aload_n 0, 1) := by decide +kernel
theorem dX5_unmarkWorse_15 : decode cX5_unmarkWorse 15 = .ok (.getfield 23, 3) := by decide +kernel
theorem dX5_unmarkWorse_18 : decode cX5_unmarkWorse 18 = .ok (.iload_n 2, 1) := by decide +kernel
theorem dX5_unmarkWorse_19 : decode cX5_unmarkWorse 19 = .ok (.invokevirtual 57, 3) := by decide +kernel
theorem dX5_unmarkWorse_22 : decode cX5_unmarkWorse 22 = .ok (.aload_n 0, 1) := by decide +kernel
theorem dX5_unmarkWorse_23 : decode cX5_unmarkWorse 23 = .ok (.getfield 23, 3) := by decide +kernel
theorem dX5_unmarkWorse_26 : decode cX5_unmarkWorse 26 = .ok (.iload_n 2, 1) := by decide +kernel
theorem dX5_unmarkWorse_27 : decode cX5_unmarkWorse 27 = .ok (.invokevirtual 62, 3) := by decide +kernel
theorem dX5_unmarkWorse_30 : decode cX5_unmarkWorse 30 = .ok (.istore_n 3, 1) := by decide +kernel
theorem dX5_unmarkWorse_31 : decode cX5_unmarkWorse 31 = .ok (.iconst 0, 1) := by decide +kernel
theorem dX5_unmarkWorse_32 : decode cX5_unmarkWorse 32 = .ok (.istore 4, 2) := by decide +kernel
theorem dX5_unmarkWorse_34 : decode cX5_unmarkWorse 34 = .ok (.iload 4, 2) := by decide +kernel
theorem dX5_unmarkWorse_36 : decode cX5_unmarkWorse 36 = .ok (.iload_n 3, 1) := by decide +kernel
theorem dX5_unmarkWorse_37 : decode cX5_unmarkWorse 37 = .ok (.if_icmp .ge 161, 3) := by decide +kernel
theorem dX5_unmarkWorse_40 : decode cX5_unmarkWorse 40 = .ok (.iconst 0, 1) := by decide +kernel
theorem dX5_unmarkWorse_41 : decode cX5_unmarkWorse 41 = .ok (.istore 5, 2) := by decide +kernel
theorem dX5_unmarkWorse_43 : decode cX5_unmarkWorse 43 = .ok (.iconst 0, 1) := by decide +kernel
theorem dX5_unmarkWorse_44 : decode cX5_unmarkWorse 44 = .ok (.istore 6, 2) := by decide +kernel
theorem dX5_unmarkWorse_46 : decode cX5_unmarkWorse 46 = .ok (.iload 6, 2) := by decide +kernel
theorem dX5_unmarkWorse_48 : decode cX5_unmarkWorse 48 = .ok (.aload_n 0, 1) := by decide +kernel
theorem dX5_unmarkWorse_49 : decode cX5_unmarkWorse 49 = .ok (.getfield 19, 3) := by decide +kernel
theorem dX5_unmarkWorse_52 : decode cX5_unmarkWorse 52 = .ok (.getfield 76, 3) := by decide +kernel
theorem dX5_unmarkWorse_55 : decode cX5_unmarkWorse 55 = .ok (.iconst 4, 1) := by decide +kernel
theorem dX5_unmarkWorse_56 : decode cX5_unmarkWorse 56 = .ok (.iaload, 1) := by decide +kernel
theorem dX5_unmarkWorse_57 : decode cX5_unmarkWorse 57 = .ok (.if_icmp .gt 62, 3) := by decide +kernel
theorem dX5_unmarkWorse_60 : decode cX5_unmarkWorse 60 = .ok (.iload 6, 2) := by decide +kernel
theorem dX5_unmarkWorse_62 : decode cX5_unmarkWorse 62 = .ok (.bipush 10, 2) := by decide +kernel
theorem dX5_unmarkWorse_64 : decode cX5_unmarkWorse 64 = .ok (.if_icmp .ge 55, 3) := by decide +kernel
theorem dX5_unmarkWorse_67 : decode cX5_unmarkWorse 67 = .ok (.aload_n 0, 1) := by decide +kernel
theorem dX5_unmarkWorse_68 : decode cX5_unmarkWorse 68 = .ok (.getfield 15, 3) := by decide +kernel
theorem dX5_unmarkWorse_71 : decode cX5_unmarkWorse 71 = .ok (.iload 6, 2) := by decide +kernel
theorem dX5_unmarkWorse_73 : decode cX5_unmarkWorse 73 = .ok (.aload_n 0, 1) := by decide +kernel
theorem dX5_unmarkWorse_74 : decode cX5_unmarkWorse 74 = .ok (.getfield 23, 3) := by decide +kernel
theorem dX5_unmarkWorse_77 : decode cX5_unmarkWorse 77 = .ok (.iload_n 1, 1) := by decide +kernel
theorem dX5_unmarkWorse_78 : decode cX5_unmarkWorse 78 = .ok (.iload 6, 2) := by decide +kernel
theorem dX5_unmarkWorse_80 : decode cX5_unmarkWorse 80 = .ok (.invokevirtual 79, 3) := by decide +kernel
theorem dX5_unmarkWorse_83 : decode cX5_unmarkWorse 83 = .ok (.iastore, 1) := by decide +kernel
theorem dX5_unmarkWorse_84 : decode cX5_unmarkWorse 84 = .ok (.iload 6, 2) := by decide +kernel
theorem dX5_unmarkWorse_86 : decode cX5_unmarkWorse 86 = .ok (.ifCond .ne 13, 3) := by decide +kernel
theorem dX5_unmarkWorse_89 : decode cX5_unmarkWorse 89 = .ok (.aload_n 0, 1) := by decide +kernel
theorem dX5_unmarkWorse_90 : decode cX5_unmarkWorse 90 = .ok (.getfield 15, 3) := by decide +kernel
theorem dX5_unmarkWorse_93 : decode cX5_unmarkWorse 93 = .ok (.iload 6, 2) := by decide +kernel
theorem dX5_unmarkWorse_95 : decode cX5_unmarkWorse 95 = .ok (.iaload, 1) := by decide +kernel
theorem dX5_unmarkWorse_96 : decode cX5_unmarkWorse 96 = .ok (.goto 15, 3) := by decide +kernel
theorem dX5_unmarkWorse_99 : decode cX5_unmarkWorse 99 = .ok (.iload 5, 2) := by decide +kernel
theorem dX5_unmarkWorse_101 : decode cX5_unmarkWorse 101 = .ok (.aload_n 0, 1) := by decide +kernel
theorem dX5_unmarkWorse_102 : decode cX5_unmarkWorse 102 = .ok (.getfield 15, 3) := by decide +kernel
theorem dX5_unmarkWorse_105 : decode cX5_unmarkWorse 105 = .ok (.iload 6, 2) := by decide +kernel
theorem dX5_unmarkWorse_107 : decode cX5_unmarkWorse 107 = .ok (.iaload, 1) := by decide +kernel
theorem dX5_unmarkWorse_108 : decode cX5_unmarkWorse 108 = .ok (.invokestatic 83, 3) := by decide +kernel
theorem dX5_unmarkWorse_111 : decode cX5_unmarkWorse 111 = .ok (.istore 5, 2) := by decide +kernel
theorem dX5_unmarkWorse_113 : decode cX5_unmarkWorse 113 = .ok (.iinc 6 1, 3) := by decide +kernel
theorem dX5_unmarkWorse_116 : decode cX5_unmarkWorse 116 = .ok (.goto (-70), 3) := by decide +kernel
theorem dX5_unmarkWorse_119 : decode cX5_unmarkWorse 119 = .ok (.iconst 0, 1) := by decide +kernel
theorem dX5_unmarkWorse_120 : decode cX5_unmarkWorse 120 = .ok (.istore 6, 2) := by decide +kernel
theorem dX5_unmarkWorse_122 : decode cX5_unmarkWorse 122 = .ok (.iload 6, 2) := by decide +kernel
theorem dX5_unmarkWorse_124 : decode cX5_unmarkWorse 124 = .ok (.aload_n 0, 1) := by decide +kernel
theorem dX5_unmarkWorse_125 : decode cX5_unmarkWorse 125 = .ok (.getfield 19, 3) := by decide +kernel
theorem dX5_unmarkWorse_128 : decode cX5_unmarkWorse 128 = .ok (.getfield 76, 3) := by decide +kernel
theorem dX5_unmarkWorse_131 : decode cX5_unmarkWorse 131 = .ok (.iconst 4, 1) := by decide +kernel
theorem dX5_unmarkWorse_132 : decode cX5_unmarkWorse 132 = .ok (.iaload, 1) := by decide +kernel
theorem dX5_unmarkWorse_133 : decode cX5_unmarkWorse 133 = .ok (.if_icmp .gt 51, 3) := by decide +kernel
theorem dX5_unmarkWorse_136 : decode cX5_unmarkWorse 136 = .ok (.iload 6, 2) := by decide +kernel
theorem dX5_unmarkWorse_138 : decode cX5_unmarkWorse 138 = .ok (.bipush 10, 2) := by decide +kernel
theorem dX5_unmarkWorse_140 : decode cX5_unmarkWorse 140 = .ok (.if_icmp .ge 44, 3) := by decide +kernel
theorem dX5_unmarkWorse_143 : decode cX5_unmarkWorse 143 = .ok (.aload_n 0, 1) := by decide +kernel
theorem dX5_unmarkWorse_144 : decode cX5_unmarkWorse 144 = .ok (.getfield 15, 3) := by decide +kernel
theorem dX5_unmarkWorse_147 : decode cX5_unmarkWorse 147 = .ok (.iload 6, 2) := by decide +kernel
theorem dX5_unmarkWorse_149 : decode cX5_unmarkWorse 149 = .ok (.iaload, 1) := by decide +kernel
theorem dX5_unmarkWorse_150 : decode cX5_unmarkWorse 150 = .ok (.iload 5, 2) := by decide +kernel
theorem dX5_unmarkWorse_152 : decode cX5_unmarkWorse 152 = .ok (.if_icmp .ge 26, 3) := by decide +kernel
theorem dX5_unmarkWorse_155 : decode cX5_unmarkWorse 155 = .ok (.aload_n 0, 1) := by decide +kernel
theorem dX5_unmarkWorse_156 : decode cX5_unmarkWorse 156 = .ok (.getfield 23, 3) := by decide +kernel
theorem dX5_unmarkWorse_159 : decode cX5_unmarkWorse 159 = .ok (.getfield 88, 3) := by decide +kernel
theorem dX5_unmarkWorse_162 : decode cX5_unmarkWorse 162 = .ok (.iload_n 1, 1) := by decide +kernel
theorem dX5_unmarkWorse_163 : decode cX5_unmarkWorse 163 = .ok (.iload 6, 2) := by decide +kernel
theorem dX5_unmarkWorse_165 : decode cX5_unmarkWorse 165 = .ok (.iastore, 1) := by decide +kernel
theorem dX5_unmarkWorse_166 : decode cX5_unmarkWorse 166 = .ok (.aload_n 0, 1) := by decide +kernel
theorem dX5_unmarkWorse_167 : decode cX5_unmarkWorse 167 = .ok (.aload_n 0, 1) := by decide +kernel
theorem dX5_unmarkWorse_168 : decode cX5_unmarkWorse 168 = .ok (.getfield 23, 3) := by decide +kernel
theorem dX5_unmarkWorse_171 : decode cX5_unmarkWorse 171 = .ok (.invokevirtual 66, 3) := by decide +kernel
theorem dX5_unmarkWorse_174 : decode cX5_unmarkWorse 174 = .ok (.iconst 0, 1) := by decide +kernel
theorem dX5_unmarkWorse_175 : decode cX5_unmarkWorse 175 = .ok (.invokevirtual 69, 3) := by decide +kernel
theorem dX5_unmarkWorse_178 : decode cX5_unmarkWorse 178 = .ok (.iinc 6 1, 3) := by decide +kernel
theorem dX5_unmarkWorse_181 : decode cX5_unmarkWorse 181 = .ok (.goto (-59), 3) := by decide +kernel
theorem dX5_unmarkWorse_184 : decode cX5_unmarkWorse 184 = .ok (.aload_n 0, 1) := by decide +kernel
theorem dX5_unmarkWorse_185 : decode cX5_unmarkWorse 185 = .ok (.getfield 23, 3) := by decide +kernel
theorem dX5_unmarkWorse_188 : decode cX5_unmarkWorse 188 = .ok (.iload_n 2, 1) := by decide +kernel
theorem dX5_unmarkWorse_189 : decode cX5_unmarkWorse 189 = .ok (.invokevirtual 73, 3) := by decide +kernel
theorem dX5_unmarkWorse_192 : decode cX5_unmarkWorse 192 = .ok (.iinc 4 1, 3) := by decide +kernel
theorem dX5_unmarkWorse_195 : decode cX5_unmarkWorse 195 = .ok (.goto (-161), 3) := by decide +kernel
theorem dX5_unmarkWorse_198 : decode cX5_unmarkWorse 198 = .ok (.return_, 1) := by decide +kernel
def x_Rests_unmarkWorse_198 (N : Nat) (w : aw_W) : Option (aw_W) :=
  some w
theorem w_x_Rests_unmarkWorse_198 {l : Launch} {K : aw_K} (N d : Nat) (hd : 3 ≤ d) : ∀ (w v : aw_W), x_Rests_unmarkWorse_198 N w = some v → aw_AW l K MX5_unmarkWorse (d + 1) 198 [] [] w (none, v) := by
  intro w v h
  unfold x_Rests_unmarkWorse_198 at h
  cases h
  exact aw_vret (pc := 198) rfl dX5_unmarkWorse_198
def x_Rests_unmarkWorse_184 (N : Nat) (k34 : Int → Int → Int → Int → aw_W → Option (aw_W)) (x1 x2 x3 x4 : Int) (w : aw_W) : Option (aw_W) :=
  aw_b1 (x_Sale_next N x2 w) fun w1 =>
    k34 x1 x2 x3 (aw_w (x4 + 1)) w1
theorem w_x_Rests_unmarkWorse_184 {l : Launch} {K : aw_K} (N d : Nat) (hd : 3 ≤ d) (k34 : Int → Int → Int → Int → aw_W → Option (aw_W)) (hk34 : ∀ (x1 x2 x3 x4 : Int) (w v : aw_W), k34 x1 x2 x3 x4 w = some v → aw_AW l K MX5_unmarkWorse (d + 1) 34 [(0, .inr (.inr 23)), (1, .inl x1), (2, .inl x2), (3, .inl x3), (4, .inl x4)] [] w (none, v)) : ∀ (x1 x2 x3 x4 : Int) (w v : aw_W), x_Rests_unmarkWorse_184 N k34 x1 x2 x3 x4 w = some v → aw_AW l K MX5_unmarkWorse (d + 1) 184 [(0, .inr (.inr 23)), (1, .inl x1), (2, .inl x2), (3, .inl x3), (4, .inl x4)] [] w (none, v) := by
  intro x1 x2 x3 x4 w v h
  unfold x_Rests_unmarkWorse_184 at h
  refine aw_aload_n (pc := 184) (q := 0) dX5_unmarkWorse_184 rfl ?_
  refine aw_getf (pc := 185) (v := .inr (.inr 17)) dX5_unmarkWorse_185 fl_RX5_23 (by decide) rfl rfl rfl ?_
  refine aw_iload_n (pc := 188) (q := 2) dX5_unmarkWorse_188 rfl ?_
  obtain ⟨w1, h1, h⟩ := aw_b1s h
  refine aw_callV (pc := 189) (as := [.inl x2]) (st := []) (st' := []) dX5_unmarkWorse_189 cv_RX5_73 (by decide) rfl rfl rfl rfl (Nat.le_of_ble_eq_true rfl) (w_x_Sale_next N d (by omega) _ _ _ h1) rfl ?_
  refine aw_iinc (pc := 192) (q := 4) (ls' := [(4, .inl (aw_w (x4 + 1))), (0, .inr (.inr 23)), (1, .inl x1), (2, .inl x2), (3, .inl x3)]) dX5_unmarkWorse_192 rfl (by decide) rfl ?_
  refine aw_goto (pc := 195) (tgt := 34) dX5_unmarkWorse_195 (by decide) ?_
  exact aw_sel [1, 2, 3, 4, 0] rfl (hk34 _ _ _ _ _ _ h)
def x_Rests_unmarkWorse_178 (N : Nat) (k34 : Int → Int → Int → Int → aw_W → Option (aw_W)) (k122 : Int → Int → Int → Int → Int → Int → aw_W → Option (aw_W)) (x1 x2 x3 x4 x5 x6 : Int) (w : aw_W) : Option (aw_W) :=
  k122 x1 x2 x3 x4 x5 (aw_w (x6 + 1)) w
theorem w_x_Rests_unmarkWorse_178 {l : Launch} {K : aw_K} (N d : Nat) (hd : 3 ≤ d) (k34 : Int → Int → Int → Int → aw_W → Option (aw_W)) (hk34 : ∀ (x1 x2 x3 x4 : Int) (w v : aw_W), k34 x1 x2 x3 x4 w = some v → aw_AW l K MX5_unmarkWorse (d + 1) 34 [(0, .inr (.inr 23)), (1, .inl x1), (2, .inl x2), (3, .inl x3), (4, .inl x4)] [] w (none, v)) (k122 : Int → Int → Int → Int → Int → Int → aw_W → Option (aw_W)) (hk122 : ∀ (x1 x2 x3 x4 x5 x6 : Int) (w v : aw_W), k122 x1 x2 x3 x4 x5 x6 w = some v → aw_AW l K MX5_unmarkWorse (d + 1) 122 [(0, .inr (.inr 23)), (1, .inl x1), (2, .inl x2), (3, .inl x3), (4, .inl x4), (5, .inl x5), (6, .inl x6)] [] w (none, v)) : ∀ (x1 x2 x3 x4 x5 x6 : Int) (w v : aw_W), x_Rests_unmarkWorse_178 N k34 k122 x1 x2 x3 x4 x5 x6 w = some v → aw_AW l K MX5_unmarkWorse (d + 1) 178 [(0, .inr (.inr 23)), (1, .inl x1), (2, .inl x2), (3, .inl x3), (4, .inl x4), (5, .inl x5), (6, .inl x6)] [] w (none, v) := by
  intro x1 x2 x3 x4 x5 x6 w v h
  unfold x_Rests_unmarkWorse_178 at h
  refine aw_iinc (pc := 178) (q := 6) (ls' := [(6, .inl (aw_w (x6 + 1))), (0, .inr (.inr 23)), (1, .inl x1), (2, .inl x2), (3, .inl x3), (4, .inl x4), (5, .inl x5)]) dX5_unmarkWorse_178 rfl (by decide) rfl ?_
  refine aw_goto (pc := 181) (tgt := 122) dX5_unmarkWorse_181 (by decide) ?_
  exact aw_sel [1, 2, 3, 4, 5, 6, 0] rfl (hk122 _ _ _ _ _ _ _ _ h)
def x_Rests_unmarkWorse_122 (N : Nat) (k34 : Int → Int → Int → Int → aw_W → Option (aw_W)) : Nat → Int → Int → Int → Int → Int → Int → aw_W → Option (aw_W)
  | 0, _, _, _, _, _, _, _ => none
  | n + 1, x1, x2, x3, x4, x5, x6, w =>
    if (w 5 4) < x6 then
      x_Rests_unmarkWorse_184 N k34 x1 x2 x3 x4 w
    else
      if 10 ≤ x6 then
        x_Rests_unmarkWorse_184 N k34 x1 x2 x3 x4 w
      else
        if 0 ≤ x6 ∧ x6 < 10 then
          if x5 ≤ (w 25 x6.toNat) then
            x_Rests_unmarkWorse_178 N k34 (x_Rests_unmarkWorse_122 N k34 n) x1 x2 x3 x4 x5 x6 w
          else
            if 0 ≤ x1 ∧ x1 < 6 then
              aw_b2 (x_Sale_row N (aw_up w 21 x1.toNat x6)) fun r1 w1 =>
                aw_b1 (x_Rests_mark N r1 0 w1) fun w2 =>
                  x_Rests_unmarkWorse_178 N k34 (x_Rests_unmarkWorse_122 N k34 n) x1 x2 x3 x4 x5 x6 w2
            else none
        else none
theorem w_x_Rests_unmarkWorse_122 {l : Launch} {K : aw_K} (N d : Nat) (hd : 3 ≤ d) (k34 : Int → Int → Int → Int → aw_W → Option (aw_W)) (hk34 : ∀ (x1 x2 x3 x4 : Int) (w v : aw_W), k34 x1 x2 x3 x4 w = some v → aw_AW l K MX5_unmarkWorse (d + 1) 34 [(0, .inr (.inr 23)), (1, .inl x1), (2, .inl x2), (3, .inl x3), (4, .inl x4)] [] w (none, v)) : ∀ (n : Nat) (x1 x2 x3 x4 x5 x6 : Int) (w v : aw_W), x_Rests_unmarkWorse_122 N k34 n x1 x2 x3 x4 x5 x6 w = some v → aw_AW l K MX5_unmarkWorse (d + 1) 122 [(0, .inr (.inr 23)), (1, .inl x1), (2, .inl x2), (3, .inl x3), (4, .inl x4), (5, .inl x5), (6, .inl x6)] [] w (none, v) := by
  intro n
  induction n with
  | zero => intro x1 x2 x3 x4 x5 x6 w v h; rw [x_Rests_unmarkWorse_122] at h; cases h
  | succ n ih =>
    intro x1 x2 x3 x4 x5 x6 w v h
    rw [x_Rests_unmarkWorse_122] at h
    refine aw_iload (pc := 122) (q := 6) dX5_unmarkWorse_122 rfl ?_
    refine aw_aload_n (pc := 124) (q := 0) dX5_unmarkWorse_124 rfl ?_
    refine aw_getf (pc := 125) (v := .inr (.inr 3)) dX5_unmarkWorse_125 fl_RX5_19 (by decide) rfl rfl rfl ?_
    refine aw_getf (pc := 128) (v := .inr (.inr 5)) dX5_unmarkWorse_128 fl_RX5_76 (by decide) rfl rfl rfl ?_
    refine aw_iconst (pc := 131) dX5_unmarkWorse_131 ⟨by decide, by decide⟩ ?_
    refine aw_ialdv (pc := 132) (v := w 5 4) dX5_unmarkWorse_132 rfl (by decide) (by decide) rfl ?_
    refine aw_icmp_gt (pc := 133) (tgt := 184) dX5_unmarkWorse_133 (by decide) (fun hc => ?_) (fun hc => ?_)
    · rw [if_pos hc] at h
      exact aw_sel [0, 1, 2, 3, 4] rfl (w_x_Rests_unmarkWorse_184 N d hd  _ hk34 _ _ _ _ _ _ h)
    · rw [if_neg hc] at h
      refine aw_iload (pc := 136) (q := 6) dX5_unmarkWorse_136 rfl ?_
      refine aw_bipush (pc := 138) dX5_unmarkWorse_138 (by decide) ⟨by decide, by decide⟩ ?_
      refine aw_icmp_ge (pc := 140) (tgt := 184) dX5_unmarkWorse_140 (by decide) (fun hc => ?_) (fun hc => ?_)
      · rw [if_pos hc] at h
        exact aw_sel [0, 1, 2, 3, 4] rfl (w_x_Rests_unmarkWorse_184 N d hd  _ hk34 _ _ _ _ _ _ h)
      · rw [if_neg hc] at h
        refine aw_aload_n (pc := 143) (q := 0) dX5_unmarkWorse_143 rfl ?_
        refine aw_getf (pc := 144) (v := .inr (.inr 25)) dX5_unmarkWorse_144 fl_RX5_15 (by decide) rfl rfl rfl ?_
        refine aw_iload (pc := 147) (q := 6) dX5_unmarkWorse_147 rfl ?_
        obtain ⟨hb, h⟩ := aw_cks h
        refine aw_ialdv (pc := 149) (v := w 25 x6.toNat) dX5_unmarkWorse_149 rfl hb.1 hb.2 rfl ?_
        refine aw_iload (pc := 150) (q := 5) dX5_unmarkWorse_150 rfl ?_
        refine aw_icmp_ge (pc := 152) (tgt := 178) dX5_unmarkWorse_152 (by decide) (fun hc => ?_) (fun hc => ?_)
        · rw [if_pos hc] at h
          exact aw_sel [0, 1, 2, 3, 4, 5, 6] rfl (w_x_Rests_unmarkWorse_178 N d hd  _ hk34 _ ih _ _ _ _ _ _ _ _ h)
        · rw [if_neg hc] at h
          refine aw_aload_n (pc := 155) (q := 0) dX5_unmarkWorse_155 rfl ?_
          refine aw_getf (pc := 156) (v := .inr (.inr 17)) dX5_unmarkWorse_156 fl_RX5_23 (by decide) rfl rfl rfl ?_
          refine aw_getf (pc := 159) (v := .inr (.inr 21)) dX5_unmarkWorse_159 fl_RX5_88 (by decide) rfl rfl rfl ?_
          refine aw_iload_n (pc := 162) (q := 1) dX5_unmarkWorse_162 rfl ?_
          refine aw_iload (pc := 163) (q := 6) dX5_unmarkWorse_163 rfl ?_
          obtain ⟨hb, h⟩ := aw_cks h
          refine aw_iast (pc := 165) dX5_unmarkWorse_165 rfl hb.1 hb.2 ?_
          refine aw_aload_n (pc := 166) (q := 0) dX5_unmarkWorse_166 rfl ?_
          refine aw_aload_n (pc := 167) (q := 0) dX5_unmarkWorse_167 rfl ?_
          refine aw_getf (pc := 168) (v := .inr (.inr 17)) dX5_unmarkWorse_168 fl_RX5_23 (by decide) rfl rfl rfl ?_
          obtain ⟨r1, w1, h1, h⟩ := aw_b2s h
          refine aw_callV (pc := 171) (as := []) (st := [.inr (.inr 23)]) (st' := [.inl r1, .inr (.inr 23)]) dX5_unmarkWorse_171 cv_RX5_66 (by decide) rfl rfl rfl rfl (Nat.le_of_ble_eq_true rfl) (w_x_Sale_row N d (by omega) _ _ _ h1) rfl ?_
          refine aw_iconst (pc := 174) dX5_unmarkWorse_174 ⟨by decide, by decide⟩ ?_
          obtain ⟨w2, h2, h⟩ := aw_b1s h
          refine aw_callV (pc := 175) (as := [.inl r1, .inl 0]) (st := []) (st' := []) dX5_unmarkWorse_175 cv_RX5_69 (by decide) rfl rfl rfl rfl (Nat.le_of_ble_eq_true rfl) (w_x_Rests_mark N d (by omega) _ _ _ _ h2) rfl ?_
          exact aw_sel [0, 1, 2, 3, 4, 5, 6] rfl (w_x_Rests_unmarkWorse_178 N d hd  _ hk34 _ ih _ _ _ _ _ _ _ _ h)
def x_Rests_unmarkWorse_119 (N : Nat) (k34 : Int → Int → Int → Int → aw_W → Option (aw_W)) (x1 x2 x3 x4 x5 : Int) (w : aw_W) : Option (aw_W) :=
  x_Rests_unmarkWorse_122 N k34 N x1 x2 x3 x4 x5 0 w
theorem w_x_Rests_unmarkWorse_119 {l : Launch} {K : aw_K} (N d : Nat) (hd : 3 ≤ d) (k34 : Int → Int → Int → Int → aw_W → Option (aw_W)) (hk34 : ∀ (x1 x2 x3 x4 : Int) (w v : aw_W), k34 x1 x2 x3 x4 w = some v → aw_AW l K MX5_unmarkWorse (d + 1) 34 [(0, .inr (.inr 23)), (1, .inl x1), (2, .inl x2), (3, .inl x3), (4, .inl x4)] [] w (none, v)) : ∀ (x1 x2 x3 x4 x5 : Int) (w v : aw_W), x_Rests_unmarkWorse_119 N k34 x1 x2 x3 x4 x5 w = some v → aw_AW l K MX5_unmarkWorse (d + 1) 119 [(0, .inr (.inr 23)), (1, .inl x1), (2, .inl x2), (3, .inl x3), (4, .inl x4), (5, .inl x5)] [] w (none, v) := by
  intro x1 x2 x3 x4 x5 w v h
  unfold x_Rests_unmarkWorse_119 at h
  refine aw_iconst (pc := 119) dX5_unmarkWorse_119 ⟨by decide, by decide⟩ ?_
  refine aw_istore (pc := 120) (ls' := [(6, .inl 0), (0, .inr (.inr 23)), (1, .inl x1), (2, .inl x2), (3, .inl x3), (4, .inl x4), (5, .inl x5)]) dX5_unmarkWorse_120 (by decide) rfl ?_
  exact aw_sel [1, 2, 3, 4, 5, 6, 0] rfl (w_x_Rests_unmarkWorse_122 N d hd  _ hk34 N _ _ _ _ _ _ _ _ h)
def x_Rests_unmarkWorse_111 (N : Nat) (k34 : Int → Int → Int → Int → aw_W → Option (aw_W)) (k46 : Int → Int → Int → Int → Int → Int → aw_W → Option (aw_W)) (x1 x2 x3 x4 x6 s0 : Int) (w : aw_W) : Option (aw_W) :=
  k46 x1 x2 x3 x4 s0 (aw_w (x6 + 1)) w
theorem w_x_Rests_unmarkWorse_111 {l : Launch} {K : aw_K} (N d : Nat) (hd : 3 ≤ d) (k34 : Int → Int → Int → Int → aw_W → Option (aw_W)) (hk34 : ∀ (x1 x2 x3 x4 : Int) (w v : aw_W), k34 x1 x2 x3 x4 w = some v → aw_AW l K MX5_unmarkWorse (d + 1) 34 [(0, .inr (.inr 23)), (1, .inl x1), (2, .inl x2), (3, .inl x3), (4, .inl x4)] [] w (none, v)) (k46 : Int → Int → Int → Int → Int → Int → aw_W → Option (aw_W)) (hk46 : ∀ (x1 x2 x3 x4 x5 x6 : Int) (w v : aw_W), k46 x1 x2 x3 x4 x5 x6 w = some v → aw_AW l K MX5_unmarkWorse (d + 1) 46 [(0, .inr (.inr 23)), (1, .inl x1), (2, .inl x2), (3, .inl x3), (4, .inl x4), (5, .inl x5), (6, .inl x6)] [] w (none, v)) : ∀ (x1 x2 x3 x4 x6 s0 : Int) (w v : aw_W), x_Rests_unmarkWorse_111 N k34 k46 x1 x2 x3 x4 x6 s0 w = some v → aw_AW l K MX5_unmarkWorse (d + 1) 111 [(0, .inr (.inr 23)), (1, .inl x1), (2, .inl x2), (3, .inl x3), (4, .inl x4), (6, .inl x6)] [.inl s0] w (none, v) := by
  intro x1 x2 x3 x4 x6 s0 w v h
  unfold x_Rests_unmarkWorse_111 at h
  refine aw_istore (pc := 111) (ls' := [(5, .inl s0), (0, .inr (.inr 23)), (1, .inl x1), (2, .inl x2), (3, .inl x3), (4, .inl x4), (6, .inl x6)]) dX5_unmarkWorse_111 (by decide) rfl ?_
  refine aw_iinc (pc := 113) (q := 6) (ls' := [(6, .inl (aw_w (x6 + 1))), (5, .inl s0), (0, .inr (.inr 23)), (1, .inl x1), (2, .inl x2), (3, .inl x3), (4, .inl x4)]) dX5_unmarkWorse_113 rfl (by decide) rfl ?_
  refine aw_goto (pc := 116) (tgt := 46) dX5_unmarkWorse_116 (by decide) ?_
  exact aw_sel [2, 3, 4, 5, 6, 1, 0] rfl (hk46 _ _ _ _ _ _ _ _ h)
def x_Rests_unmarkWorse_46 (N : Nat) (k34 : Int → Int → Int → Int → aw_W → Option (aw_W)) : Nat → Int → Int → Int → Int → Int → Int → aw_W → Option (aw_W)
  | 0, _, _, _, _, _, _, _ => none
  | n + 1, x1, x2, x3, x4, x5, x6, w =>
    if (w 5 4) < x6 then
      x_Rests_unmarkWorse_119 N k34 x1 x2 x3 x4 x5 w
    else
      if 10 ≤ x6 then
        x_Rests_unmarkWorse_119 N k34 x1 x2 x3 x4 x5 w
      else
        aw_b2 (x_Sale_gainWith N x1 x6 w) fun r1 w1 =>
          if 0 ≤ x6 ∧ x6 < 10 then
            if x6 = 0 then
              if 0 ≤ x6 ∧ x6 < 10 then
                x_Rests_unmarkWorse_111 N k34 (x_Rests_unmarkWorse_46 N k34 n) x1 x2 x3 x4 x6 ((aw_up w1 25 x6.toNat r1) 25 x6.toNat) (aw_up w1 25 x6.toNat r1)
              else none
            else
              if 0 ≤ x6 ∧ x6 < 10 then
                x_Rests_unmarkWorse_111 N k34 (x_Rests_unmarkWorse_46 N k34 n) x1 x2 x3 x4 x6 (aw_mx x5 ((aw_up w1 25 x6.toNat r1) 25 x6.toNat)) (aw_up w1 25 x6.toNat r1)
              else none
          else none
theorem w_x_Rests_unmarkWorse_46 {l : Launch} {K : aw_K} (N d : Nat) (hd : 3 ≤ d) (k34 : Int → Int → Int → Int → aw_W → Option (aw_W)) (hk34 : ∀ (x1 x2 x3 x4 : Int) (w v : aw_W), k34 x1 x2 x3 x4 w = some v → aw_AW l K MX5_unmarkWorse (d + 1) 34 [(0, .inr (.inr 23)), (1, .inl x1), (2, .inl x2), (3, .inl x3), (4, .inl x4)] [] w (none, v)) : ∀ (n : Nat) (x1 x2 x3 x4 x5 x6 : Int) (w v : aw_W), x_Rests_unmarkWorse_46 N k34 n x1 x2 x3 x4 x5 x6 w = some v → aw_AW l K MX5_unmarkWorse (d + 1) 46 [(0, .inr (.inr 23)), (1, .inl x1), (2, .inl x2), (3, .inl x3), (4, .inl x4), (5, .inl x5), (6, .inl x6)] [] w (none, v) := by
  intro n
  induction n with
  | zero => intro x1 x2 x3 x4 x5 x6 w v h; rw [x_Rests_unmarkWorse_46] at h; cases h
  | succ n ih =>
    intro x1 x2 x3 x4 x5 x6 w v h
    rw [x_Rests_unmarkWorse_46] at h
    refine aw_iload (pc := 46) (q := 6) dX5_unmarkWorse_46 rfl ?_
    refine aw_aload_n (pc := 48) (q := 0) dX5_unmarkWorse_48 rfl ?_
    refine aw_getf (pc := 49) (v := .inr (.inr 3)) dX5_unmarkWorse_49 fl_RX5_19 (by decide) rfl rfl rfl ?_
    refine aw_getf (pc := 52) (v := .inr (.inr 5)) dX5_unmarkWorse_52 fl_RX5_76 (by decide) rfl rfl rfl ?_
    refine aw_iconst (pc := 55) dX5_unmarkWorse_55 ⟨by decide, by decide⟩ ?_
    refine aw_ialdv (pc := 56) (v := w 5 4) dX5_unmarkWorse_56 rfl (by decide) (by decide) rfl ?_
    refine aw_icmp_gt (pc := 57) (tgt := 119) dX5_unmarkWorse_57 (by decide) (fun hc => ?_) (fun hc => ?_)
    · rw [if_pos hc] at h
      exact aw_sel [0, 1, 2, 3, 4, 5] rfl (w_x_Rests_unmarkWorse_119 N d hd  _ hk34 _ _ _ _ _ _ _ h)
    · rw [if_neg hc] at h
      refine aw_iload (pc := 60) (q := 6) dX5_unmarkWorse_60 rfl ?_
      refine aw_bipush (pc := 62) dX5_unmarkWorse_62 (by decide) ⟨by decide, by decide⟩ ?_
      refine aw_icmp_ge (pc := 64) (tgt := 119) dX5_unmarkWorse_64 (by decide) (fun hc => ?_) (fun hc => ?_)
      · rw [if_pos hc] at h
        exact aw_sel [0, 1, 2, 3, 4, 5] rfl (w_x_Rests_unmarkWorse_119 N d hd  _ hk34 _ _ _ _ _ _ _ h)
      · rw [if_neg hc] at h
        refine aw_aload_n (pc := 67) (q := 0) dX5_unmarkWorse_67 rfl ?_
        refine aw_getf (pc := 68) (v := .inr (.inr 25)) dX5_unmarkWorse_68 fl_RX5_15 (by decide) rfl rfl rfl ?_
        refine aw_iload (pc := 71) (q := 6) dX5_unmarkWorse_71 rfl ?_
        refine aw_aload_n (pc := 73) (q := 0) dX5_unmarkWorse_73 rfl ?_
        refine aw_getf (pc := 74) (v := .inr (.inr 17)) dX5_unmarkWorse_74 fl_RX5_23 (by decide) rfl rfl rfl ?_
        refine aw_iload_n (pc := 77) (q := 1) dX5_unmarkWorse_77 rfl ?_
        refine aw_iload (pc := 78) (q := 6) dX5_unmarkWorse_78 rfl ?_
        obtain ⟨r1, w1, h1, h⟩ := aw_b2s h
        refine aw_callV (pc := 80) (as := [.inl x1, .inl x6]) (st := [.inl x6, .inr (.inr 25)]) (st' := [.inl r1, .inl x6, .inr (.inr 25)]) dX5_unmarkWorse_80 cv_RX5_79 (by decide) rfl rfl rfl rfl (Nat.le_of_ble_eq_true rfl) (w_x_Sale_gainWith N d (by omega) _ _ _ _ _ h1) rfl ?_
        obtain ⟨hb, h⟩ := aw_cks h
        refine aw_iast (pc := 83) dX5_unmarkWorse_83 rfl hb.1 hb.2 ?_
        refine aw_iload (pc := 84) (q := 6) dX5_unmarkWorse_84 rfl ?_
        refine aw_if_ne (pc := 86) (tgt := 99) dX5_unmarkWorse_86 (by decide) (fun hc => ?_) (fun hc => ?_)
        · rw [if_neg hc] at h
          refine aw_iload (pc := 99) (q := 5) dX5_unmarkWorse_99 rfl ?_
          refine aw_aload_n (pc := 101) (q := 0) dX5_unmarkWorse_101 rfl ?_
          refine aw_getf (pc := 102) (v := .inr (.inr 25)) dX5_unmarkWorse_102 fl_RX5_15 (by decide) rfl rfl rfl ?_
          refine aw_iload (pc := 105) (q := 6) dX5_unmarkWorse_105 rfl ?_
          obtain ⟨hb, h⟩ := aw_cks h
          refine aw_ialdv (pc := 107) (v := (aw_up w1 25 x6.toNat r1) 25 x6.toNat) dX5_unmarkWorse_107 rfl hb.1 hb.2 rfl ?_
          refine aw_mmax (pc := 108) dX5_unmarkWorse_108 cm_RX5_83 (Nat.le_of_ble_eq_true rfl) ?_
          exact aw_sel [0, 1, 2, 3, 4, 6] rfl (w_x_Rests_unmarkWorse_111 N d hd  _ hk34 _ ih _ _ _ _ _ _ _ _ h)
        · rw [if_pos hc] at h
          refine aw_aload_n (pc := 89) (q := 0) dX5_unmarkWorse_89 rfl ?_
          refine aw_getf (pc := 90) (v := .inr (.inr 25)) dX5_unmarkWorse_90 fl_RX5_15 (by decide) rfl rfl rfl ?_
          refine aw_iload (pc := 93) (q := 6) dX5_unmarkWorse_93 rfl ?_
          obtain ⟨hb, h⟩ := aw_cks h
          refine aw_ialdv (pc := 95) (v := (aw_up w1 25 x6.toNat r1) 25 x6.toNat) dX5_unmarkWorse_95 rfl hb.1 hb.2 rfl ?_
          refine aw_goto (pc := 96) (tgt := 111) dX5_unmarkWorse_96 (by decide) ?_
          exact aw_sel [0, 1, 2, 3, 4, 6] rfl (w_x_Rests_unmarkWorse_111 N d hd  _ hk34 _ ih _ _ _ _ _ _ _ _ h)
def x_Rests_unmarkWorse_34 (N : Nat) : Nat → Int → Int → Int → Int → aw_W → Option (aw_W)
  | 0, _, _, _, _, _ => none
  | n + 1, x1, x2, x3, x4, w =>
    if x3 ≤ x4 then
      x_Rests_unmarkWorse_198 N w
    else
      x_Rests_unmarkWorse_46 N (x_Rests_unmarkWorse_34 N n) N x1 x2 x3 x4 0 0 w
theorem w_x_Rests_unmarkWorse_34 {l : Launch} {K : aw_K} (N d : Nat) (hd : 3 ≤ d) : ∀ (n : Nat) (x1 x2 x3 x4 : Int) (w v : aw_W), x_Rests_unmarkWorse_34 N n x1 x2 x3 x4 w = some v → aw_AW l K MX5_unmarkWorse (d + 1) 34 [(0, .inr (.inr 23)), (1, .inl x1), (2, .inl x2), (3, .inl x3), (4, .inl x4)] [] w (none, v) := by
  intro n
  induction n with
  | zero => intro x1 x2 x3 x4 w v h; rw [x_Rests_unmarkWorse_34] at h; cases h
  | succ n ih =>
    intro x1 x2 x3 x4 w v h
    rw [x_Rests_unmarkWorse_34] at h
    refine aw_iload (pc := 34) (q := 4) dX5_unmarkWorse_34 rfl ?_
    refine aw_iload_n (pc := 36) (q := 3) dX5_unmarkWorse_36 rfl ?_
    refine aw_icmp_ge (pc := 37) (tgt := 198) dX5_unmarkWorse_37 (by decide) (fun hc => ?_) (fun hc => ?_)
    · rw [if_pos hc] at h
      exact aw_sel [] rfl (w_x_Rests_unmarkWorse_198 N d hd  _ _ h)
    · rw [if_neg hc] at h
      refine aw_iconst (pc := 40) dX5_unmarkWorse_40 ⟨by decide, by decide⟩ ?_
      refine aw_istore (pc := 41) (ls' := [(5, .inl 0), (0, .inr (.inr 23)), (1, .inl x1), (2, .inl x2), (3, .inl x3), (4, .inl x4)]) dX5_unmarkWorse_41 (by decide) rfl ?_
      refine aw_iconst (pc := 43) dX5_unmarkWorse_43 ⟨by decide, by decide⟩ ?_
      refine aw_istore (pc := 44) (ls' := [(6, .inl 0), (5, .inl 0), (0, .inr (.inr 23)), (1, .inl x1), (2, .inl x2), (3, .inl x3), (4, .inl x4)]) dX5_unmarkWorse_44 (by decide) rfl ?_
      exact aw_sel [2, 3, 4, 5, 6, 1, 0] rfl (w_x_Rests_unmarkWorse_46 N d hd  _ ih N _ _ _ _ _ _ _ _ h)
def x_Rests_unmarkWorse (N : Nat) (x1 : Int) (w : aw_W) : Option (aw_W) :=
  aw_b2 (x_Land_all N w) fun r1 w1 =>
    aw_b1 (x_Sale_lowest N (aw_and r1 (aw_xor (aw_shl 1 x1) (-1))) w1) fun w2 =>
      aw_b2 (x_Sale_rowsOf N (aw_and r1 (aw_xor (aw_shl 1 x1) (-1))) w2) fun r3 w3 =>
        x_Rests_unmarkWorse_34 N N x1 (aw_and r1 (aw_xor (aw_shl 1 x1) (-1))) r3 0 w3
theorem w_x_Rests_unmarkWorse_d {l : Launch} {K : aw_K} (N d : Nat) (hd : 3 ≤ d) : ∀ (x1 : Int) (w v : aw_W), x_Rests_unmarkWorse N x1 w = some v → aw_Met l K MX5_unmarkWorse (d + 1) [.inr (.inr 23), .inl x1] w (none, v) := by
  intro x1 w v h
  unfold x_Rests_unmarkWorse at h
  refine aw_enter rfl (Nat.le_of_ble_eq_true rfl) ?_
  show aw_AW l K MX5_unmarkWorse (d + 1) 0 [(0, .inr (.inr 23)), (1, .inl x1)] [] w (none, v)
  refine aw_aload_n (pc := 0) (q := 0) dX5_unmarkWorse_0 rfl ?_
  refine aw_getf (pc := 1) (v := .inr (.inr 3)) dX5_unmarkWorse_1 fl_RX5_19 (by decide) rfl rfl rfl ?_
  obtain ⟨r1, w1, h1, h⟩ := aw_b2s h
  refine aw_callV (pc := 4) (as := []) (st := []) (st' := [.inl r1]) dX5_unmarkWorse_4 cv_RX5_53 (by decide) rfl rfl rfl rfl (Nat.le_of_ble_eq_true rfl) (w_x_Land_all N d (by omega) _ _ _ h1) rfl ?_
  refine aw_iconst (pc := 7) dX5_unmarkWorse_7 ⟨by decide, by decide⟩ ?_
  refine aw_iload_n (pc := 8) (q := 1) dX5_unmarkWorse_8 rfl ?_
  refine aw_ishl (pc := 9) dX5_unmarkWorse_9 ?_
  refine aw_iconst (pc := 10) dX5_unmarkWorse_10 ⟨by decide, by decide⟩ ?_
  refine aw_ixor (pc := 11) dX5_unmarkWorse_11 ?_
  refine aw_iand (pc := 12) dX5_unmarkWorse_12 ?_
  refine aw_istore_n (pc := 13) (ls' := [(2, .inl (aw_and r1 (aw_xor (aw_shl 1 x1) (-1)))), (0, .inr (.inr 23)), (1, .inl x1)]) dX5_unmarkWorse_13 (by decide) rfl ?_
  refine aw_aload_n (pc := 14) (q := 1) dX5_unmarkWorse_14 rfl ?_
  refine aw_getf (pc := 15) (v := .inr (.inr 17)) dX5_unmarkWorse_15 fl_RX5_23 (by decide) rfl rfl rfl ?_
  refine aw_iload_n (pc := 18) (q := 0) dX5_unmarkWorse_18 rfl ?_
  obtain ⟨w2, h2, h⟩ := aw_b1s h
  refine aw_callV (pc := 19) (as := [.inl (aw_and r1 (aw_xor (aw_shl 1 x1) (-1)))]) (st := []) (st' := []) dX5_unmarkWorse_19 cv_RX5_57 (by decide) rfl rfl rfl rfl (Nat.le_of_ble_eq_true rfl) (w_x_Sale_lowest N d (by omega) _ _ _ h2) rfl ?_
  refine aw_aload_n (pc := 22) (q := 1) dX5_unmarkWorse_22 rfl ?_
  refine aw_getf (pc := 23) (v := .inr (.inr 17)) dX5_unmarkWorse_23 fl_RX5_23 (by decide) rfl rfl rfl ?_
  refine aw_iload_n (pc := 26) (q := 0) dX5_unmarkWorse_26 rfl ?_
  obtain ⟨r3, w3, h3, h⟩ := aw_b2s h
  refine aw_callV (pc := 27) (as := [.inl (aw_and r1 (aw_xor (aw_shl 1 x1) (-1)))]) (st := []) (st' := [.inl r3]) dX5_unmarkWorse_27 cv_RX5_62 (by decide) rfl rfl rfl rfl (Nat.le_of_ble_eq_true rfl) (w_x_Sale_rowsOf N d (by omega) _ _ _ _ h3) rfl ?_
  refine aw_istore_n (pc := 30) (ls' := [(3, .inl r3), (2, .inl (aw_and r1 (aw_xor (aw_shl 1 x1) (-1)))), (0, .inr (.inr 23)), (1, .inl x1)]) dX5_unmarkWorse_30 (by decide) rfl ?_
  refine aw_iconst (pc := 31) dX5_unmarkWorse_31 ⟨by decide, by decide⟩ ?_
  refine aw_istore (pc := 32) (ls' := [(4, .inl 0), (3, .inl r3), (2, .inl (aw_and r1 (aw_xor (aw_shl 1 x1) (-1)))), (0, .inr (.inr 23)), (1, .inl x1)]) dX5_unmarkWorse_32 (by decide) rfl ?_
  exact aw_sel [3, 4, 2, 1, 0] rfl (w_x_Rests_unmarkWorse_34 N d hd  N _ _ _ _ _ _ h)
theorem w_x_Rests_unmarkWorse {l : Launch} {K : aw_K} (N d : Nat) (hd : 4 ≤ d) : ∀ (x1 : Int) (w v : aw_W), x_Rests_unmarkWorse N x1 w = some v → aw_Met l K MX5_unmarkWorse (d) [.inr (.inr 23), .inl x1] w (none, v) := by
  obtain ⟨e, rfl⟩ : ∃ e, d = e + 1 := ⟨d - 1, by omega⟩
  exact w_x_Rests_unmarkWorse_d N e (by omega)
theorem dX5_find_0 : decode cX5_find 0 = .ok (.aload_n 0, 1) := by decide +kernel
theorem dX5_find_1 : decode cX5_find 1 = .ok (.getfield 27, 3) := by decide +kernel
theorem dX5_find_4 : decode cX5_find 4 = .ok (.ifCond .ne 14, 3) := by decide +kernel
theorem dX5_find_7 : decode cX5_find 7 = .ok (.aload_n 0, 1) := by decide +kernel
theorem dX5_find_8 : decode cX5_find 8 = .ok (.getfield 19, 3) := by decide +kernel
theorem dX5_find_11 : decode cX5_find 11 = .ok (.getfield 31, 3) := by decide +kernel
theorem dX5_find_14 : decode cX5_find 14 = .ok (.iconst 4, 1) := by decide +kernel
theorem dX5_find_15 : decode cX5_find 15 = .ok (.if_icmp .le 4, 3) := by decide +kernel
theorem dX5_find_18 : decode cX5_find 18 = .ok (.return_, 1) := by decide +kernel
theorem dX5_find_19 : decode cX5_find 19 = .ok (.aload_n 0, 1) := by decide +kernel
theorem dX5_find_20 : decode cX5_find 20 = .ok (.getfield 11, 3) := by decide +kernel
theorem dX5_find_23 : decode cX5_find 23 = .ok (.lconst 0, 1) := by decide +kernel
theorem dX5_find_24 : decode cX5_find 24 = .ok (.invokestatic 37, 3) := by decide +kernel
theorem dX5_find_27 : decode cX5_find 27 = .ok (.aload_n 0, 1) := by decide +kernel
theorem dX5_find_28 : decode cX5_find 28 = .ok (.invokevirtual 43, 3) := by decide +kernel
theorem dX5_find_31 : decode cX5_find 31 = .ok (.iconst 0, 1) := by decide +kernel
theorem dX5_find_32 : decode cX5_find 32 = .ok (.istore_n 1, 1) := by decide +kernel
theorem dX5_find_33 : decode cX5_find 33 = .ok (.iload_n 1, 1) := by decide +kernel
theorem dX5_find_34 : decode cX5_find 34 = .ok (.aload_n 0, 1) := by decide +kernel
theorem dX5_find_35 : decode cX5_find 35 = .ok (.getfield 19, 3) := by decide +kernel
theorem dX5_find_38 : decode cX5_find 38 = .ok (.getfield 31, 3) := by decide +kernel
theorem dX5_find_41 : decode cX5_find 41 = .ok (.if_icmp .ge 14, 3) := by decide +kernel
theorem dX5_find_44 : decode cX5_find 44 = .ok (.aload_n 0, 1) := by decide +kernel
theorem dX5_find_45 : decode cX5_find 45 = .ok (.iload_n 1, 1) := by decide +kernel
theorem dX5_find_46 : decode cX5_find 46 = .ok (.invokevirtual 46, 3) := by decide +kernel
theorem dX5_find_49 : decode cX5_find 49 = .ok (.iinc 1 1, 3) := by decide +kernel
theorem dX5_find_52 : decode cX5_find 52 = .ok (.goto (-19), 3) := by decide +kernel
theorem dX5_find_55 : decode cX5_find 55 = .ok (.aload_n 0, 1) := by decide +kernel
theorem dX5_find_56 : decode cX5_find 56 = .ok (.invokevirtual 50, 3) := by decide +kernel
theorem dX5_find_59 : decode cX5_find 59 = .ok (.aload_n 0, 1) := by decide +kernel
theorem dX5_find_60 : decode cX5_find 60 = .ok (.iconst 1, 1) := by decide +kernel
theorem dX5_find_61 : decode cX5_find 61 = .ok (.putfield 27, 3) := by decide +kernel
theorem dX5_find_64 : decode cX5_find 64 = .ok (.return_, 1) := by decide +kernel
def x_Rests_find_18 (N : Nat) (w : aw_W) : Option (aw_W) :=
  some w
theorem w_x_Rests_find_18 {l : Launch} {K : aw_K} (N d : Nat) (hd : 4 ≤ d) : ∀ (w v : aw_W), x_Rests_find_18 N w = some v → aw_AW l K MX5_find (d + 1) 18 [] [] w (none, v) := by
  intro w v h
  unfold x_Rests_find_18 at h
  cases h
  exact aw_vret (pc := 18) rfl dX5_find_18
def x_Rests_find_55 (N : Nat) (w : aw_W) : Option (aw_W) :=
  aw_b1 (x_Rests_tally N w) fun w1 =>
    some (aw_up w1 23 4 1)
theorem w_x_Rests_find_55 {l : Launch} {K : aw_K} (N d : Nat) (hd : 4 ≤ d) : ∀ (w v : aw_W), x_Rests_find_55 N w = some v → aw_AW l K MX5_find (d + 1) 55 [(0, .inr (.inr 23))] [] w (none, v) := by
  intro w v h
  unfold x_Rests_find_55 at h
  refine aw_aload_n (pc := 55) (q := 0) dX5_find_55 rfl ?_
  obtain ⟨w1, h1, h⟩ := aw_b1s h
  refine aw_callV (pc := 56) (as := []) (st := []) (st' := []) dX5_find_56 cv_RX5_50 (by decide) rfl rfl rfl rfl (Nat.le_of_ble_eq_true rfl) (w_x_Rests_tally N d (by omega) _ _ h1) rfl ?_
  refine aw_aload_n (pc := 59) (q := 0) dX5_find_59 rfl ?_
  refine aw_iconst (pc := 60) dX5_find_60 ⟨by decide, by decide⟩ ?_
  refine aw_putz (pc := 61) dX5_find_61 fp_RX5_27 (by decide) rfl rfl (by decide) ?_
  cases h
  exact aw_vret (pc := 64) rfl dX5_find_64
def x_Rests_find_33 (N : Nat) : Nat → Int → aw_W → Option (aw_W)
  | 0, _, _ => none
  | n + 1, x1, w =>
    if (w 3 4) ≤ x1 then
      x_Rests_find_55 N w
    else
      aw_b1 (x_Rests_unmarkWorse N x1 w) fun w1 =>
        x_Rests_find_33 N n (aw_w (x1 + 1)) w1
theorem w_x_Rests_find_33 {l : Launch} {K : aw_K} (N d : Nat) (hd : 4 ≤ d) : ∀ (n : Nat) (x1 : Int) (w v : aw_W), x_Rests_find_33 N n x1 w = some v → aw_AW l K MX5_find (d + 1) 33 [(0, .inr (.inr 23)), (1, .inl x1)] [] w (none, v) := by
  intro n
  induction n with
  | zero => intro x1 w v h; rw [x_Rests_find_33] at h; cases h
  | succ n ih =>
    intro x1 w v h
    rw [x_Rests_find_33] at h
    refine aw_iload_n (pc := 33) (q := 1) dX5_find_33 rfl ?_
    refine aw_aload_n (pc := 34) (q := 0) dX5_find_34 rfl ?_
    refine aw_getf (pc := 35) (v := .inr (.inr 3)) dX5_find_35 fl_RX5_19 (by decide) rfl rfl rfl ?_
    refine aw_getf (pc := 38) (v := .inl (w 3 4)) dX5_find_38 fl_RX5_31 (by decide) rfl rfl rfl ?_
    refine aw_icmp_ge (pc := 41) (tgt := 55) dX5_find_41 (by decide) (fun hc => ?_) (fun hc => ?_)
    · rw [if_pos hc] at h
      exact aw_sel [0] rfl (w_x_Rests_find_55 N d hd  _ _ h)
    · rw [if_neg hc] at h
      refine aw_aload_n (pc := 44) (q := 0) dX5_find_44 rfl ?_
      refine aw_iload_n (pc := 45) (q := 1) dX5_find_45 rfl ?_
      obtain ⟨w1, h1, h⟩ := aw_b1s h
      refine aw_callV (pc := 46) (as := [.inl x1]) (st := []) (st' := []) dX5_find_46 cv_RX5_46 (by decide) rfl rfl rfl rfl (Nat.le_of_ble_eq_true rfl) (w_x_Rests_unmarkWorse N d (by omega) _ _ _ h1) rfl ?_
      refine aw_iinc (pc := 49) (q := 1) (ls' := [(1, .inl (aw_w (x1 + 1))), (0, .inr (.inr 23))]) dX5_find_49 rfl (by decide) rfl ?_
      refine aw_goto (pc := 52) (tgt := 33) dX5_find_52 (by decide) ?_
      exact aw_sel [1, 0] rfl (ih _ _ _ h)
def x_Rests_find (N : Nat) (w : aw_W) : Option (aw_W) :=
  if (w 23 4) = 0 then
    if (w 3 4) ≤ 4 then
      aw_b1 (j_Arr_fill_Ll N 0 w) fun w1 =>
        aw_b1 (x_Rests_markAll N w1) fun w2 =>
          x_Rests_find_33 N N 0 w2
    else
      x_Rests_find_18 N w
  else
    x_Rests_find_18 N w
theorem w_x_Rests_find_d {l : Launch} {K : aw_K} (N d : Nat) (hd : 4 ≤ d) : ∀ (w v : aw_W), x_Rests_find N w = some v → aw_Met l K MX5_find (d + 1) [.inr (.inr 23)] w (none, v) := by
  intro w v h
  unfold x_Rests_find at h
  refine aw_enter rfl (Nat.le_of_ble_eq_true rfl) ?_
  show aw_AW l K MX5_find (d + 1) 0 [(0, .inr (.inr 23))] [] w (none, v)
  refine aw_aload_n (pc := 0) (q := 0) dX5_find_0 rfl ?_
  refine aw_getf (pc := 1) (v := .inl (w 23 4)) dX5_find_1 fl_RX5_27 (by decide) rfl rfl rfl ?_
  refine aw_if_ne (pc := 4) (tgt := 18) dX5_find_4 (by decide) (fun hc => ?_) (fun hc => ?_)
  · rw [if_neg hc] at h
    exact aw_sel [] rfl (w_x_Rests_find_18 N d hd  _ _ h)
  · rw [if_pos hc] at h
    refine aw_aload_n (pc := 7) (q := 0) dX5_find_7 rfl ?_
    refine aw_getf (pc := 8) (v := .inr (.inr 3)) dX5_find_8 fl_RX5_19 (by decide) rfl rfl rfl ?_
    refine aw_getf (pc := 11) (v := .inl (w 3 4)) dX5_find_11 fl_RX5_31 (by decide) rfl rfl rfl ?_
    refine aw_iconst (pc := 14) dX5_find_14 ⟨by decide, by decide⟩ ?_
    refine aw_icmp_le (pc := 15) (tgt := 19) dX5_find_15 (by decide) (fun hc => ?_) (fun hc => ?_)
    · rw [if_pos hc] at h
      refine aw_aload_n (pc := 19) (q := 0) dX5_find_19 rfl ?_
      refine aw_getf (pc := 20) (v := .inr (.inr 24)) dX5_find_20 fl_RX5_11 (by decide) rfl rfl rfl ?_
      refine aw_lconst (pc := 23) (x := 0) dX5_find_23 (by decide) ⟨by decide, by decide⟩ ?_
      obtain ⟨w1, h1, h⟩ := aw_b1s h
      refine aw_callS (pc := 24) (as := [.inr (.inr 24), .inr (.inl 0)]) (st := []) (st' := []) dX5_find_24 cs_RX5_37 rfl rfl (Nat.le_of_ble_eq_true rfl) (w_j_Arr_fill_Ll N d (by omega) _ _ _ h1) rfl ?_
      refine aw_aload_n (pc := 27) (q := 0) dX5_find_27 rfl ?_
      obtain ⟨w2, h2, h⟩ := aw_b1s h
      refine aw_callV (pc := 28) (as := []) (st := []) (st' := []) dX5_find_28 cv_RX5_43 (by decide) rfl rfl rfl rfl (Nat.le_of_ble_eq_true rfl) (w_x_Rests_markAll N d (by omega) _ _ h2) rfl ?_
      refine aw_iconst (pc := 31) dX5_find_31 ⟨by decide, by decide⟩ ?_
      refine aw_istore_n (pc := 32) (ls' := [(1, .inl 0), (0, .inr (.inr 23))]) dX5_find_32 (by decide) rfl ?_
      exact aw_sel [1, 0] rfl (w_x_Rests_find_33 N d hd  N _ _ _ h)
    · rw [if_neg hc] at h
      exact aw_sel [] rfl (w_x_Rests_find_18 N d hd  _ _ h)
theorem w_x_Rests_find {l : Launch} {K : aw_K} (N d : Nat) (hd : 5 ≤ d) : ∀ (w v : aw_W), x_Rests_find N w = some v → aw_Met l K MX5_find (d) [.inr (.inr 23)] w (none, v) := by
  obtain ⟨e, rfl⟩ : ∃ e, d = e + 1 := ⟨d - 1, by omega⟩
  exact w_x_Rests_find_d N e (by omega)
theorem dX5_nth_0 : decode cX5_nth 0 = .ok (.iload_n 1, 1) := by decide +kernel
theorem dX5_nth_1 : decode cX5_nth 1 = .ok (.ifCond .lt 11, 3) := by decide +kernel
theorem dX5_nth_4 : decode cX5_nth 4 = .ok (.iload_n 1, 1) := by decide +kernel
theorem dX5_nth_5 : decode cX5_nth 5 = .ok (.aload_n 0, 1) := by decide +kernel
theorem dX5_nth_6 : decode cX5_nth 6 = .ok (.getfield 91, 3) := by decide +kernel
theorem dX5_nth_9 : decode cX5_nth 9 = .ok (.if_icmp .lt 5, 3) := by decide +kernel
theorem dX5_nth_12 : decode cX5_nth 12 = .ok (.iconst (-1), 1) := by decide +kernel
theorem dX5_nth_13 : decode cX5_nth 13 = .ok (.ireturn, 1) := by decide +kernel
theorem dX5_nth_14 : decode cX5_nth 14 = .ok (.iload_n 1, 1) := by decide +kernel
theorem dX5_nth_15 : decode cX5_nth 15 = .ok (.istore_n 2, 1) := by decide +kernel
theorem dX5_nth_16 : decode cX5_nth 16 = .ok (.iconst 0, 1) := by decide +kernel
theorem dX5_nth_17 : decode cX5_nth 17 = .ok (.istore_n 3, 1) := by decide +kernel
theorem dX5_nth_18 : decode cX5_nth 18 = .ok (.iload_n 3, 1) := by decide +kernel
theorem dX5_nth_19 : decode cX5_nth 19 = .ok (.aload_n 0, 1) := by decide +kernel
theorem dX5_nth_20 : decode cX5_nth 20 = .ok (.getfield 11, 3) := by decide +kernel
theorem dX5_nth_23 : decode cX5_nth 23 = .ok (.arraylength, 1) := by decide +kernel
theorem dX5_nth_24 : decode cX5_nth 24 = .ok (.if_icmp .ge 34, 3) := by decide +kernel
theorem dX5_nth_27 : decode cX5_nth 27 = .ok (.aload_n 0, 1) := by decide +kernel
theorem dX5_nth_28 : decode cX5_nth 28 = .ok (.getfield 11, 3) := by decide +kernel
theorem dX5_nth_31 : decode cX5_nth 31 = .ok (.iload_n 3, 1) := by decide +kernel
theorem dX5_nth_32 : decode cX5_nth 32 = .ok (.laload, 1) := by decide +kernel
theorem dX5_nth_33 : decode cX5_nth 33 = .ok (.invokestatic 116, 3) := by decide +kernel
theorem dX5_nth_36 : decode cX5_nth 36 = .ok (.iload_n 2, 1) := by decide +kernel
theorem dX5_nth_37 : decode cX5_nth 37 = .ok (.if_icmp .gt 21, 3) := by decide +kernel
theorem dX5_nth_40 : decode cX5_nth 40 = .ok (.iload_n 2, 1) := by decide +kernel
theorem dX5_nth_41 : decode cX5_nth 41 = .ok (.aload_n 0, 1) := by decide +kernel
theorem dX5_nth_42 : decode cX5_nth 42 = .ok (.getfield 11, 3) := by decide +kernel
theorem dX5_nth_45 : decode cX5_nth 45 = .ok (.iload_n 3, 1) := by decide +kernel
theorem dX5_nth_46 : decode cX5_nth 46 = .ok (.laload, 1) := by decide +kernel
theorem dX5_nth_47 : decode cX5_nth 47 = .ok (.invokestatic 116, 3) := by decide +kernel
theorem dX5_nth_50 : decode cX5_nth 50 = .ok (.isub, 1) := by decide +kernel
theorem dX5_nth_51 : decode cX5_nth 51 = .ok (.istore_n 2, 1) := by decide +kernel
theorem dX5_nth_52 : decode cX5_nth 52 = .ok (.iinc 3 1, 3) := by decide +kernel
theorem dX5_nth_55 : decode cX5_nth 55 = .ok (.goto (-37), 3) := by decide +kernel
theorem dX5_nth_58 : decode cX5_nth 58 = .ok (.iload_n 3, 1) := by decide +kernel
theorem dX5_nth_59 : decode cX5_nth 59 = .ok (.bipush 64, 2) := by decide +kernel
theorem dX5_nth_61 : decode cX5_nth 61 = .ok (.imul, 1) := by decide +kernel
theorem dX5_nth_62 : decode cX5_nth 62 = .ok (.istore 4, 2) := by decide +kernel
theorem dX5_nth_64 : decode cX5_nth 64 = .ok (.iload 4, 2) := by decide +kernel
theorem dX5_nth_66 : decode cX5_nth 66 = .ok (.sipush 10000, 3) := by decide +kernel
theorem dX5_nth_69 : decode cX5_nth 69 = .ok (.if_icmp .ge 33, 3) := by decide +kernel
theorem dX5_nth_72 : decode cX5_nth 72 = .ok (.iload_n 2, 1) := by decide +kernel
theorem dX5_nth_73 : decode cX5_nth 73 = .ok (.aload_n 0, 1) := by decide +kernel
theorem dX5_nth_74 : decode cX5_nth 74 = .ok (.iload 4, 2) := by decide +kernel
theorem dX5_nth_76 : decode cX5_nth 76 = .ok (.invokevirtual 94, 3) := by decide +kernel
theorem dX5_nth_79 : decode cX5_nth 79 = .ok (.ifCond .eq 7, 3) := by decide +kernel
theorem dX5_nth_82 : decode cX5_nth 82 = .ok (.iconst 1, 1) := by decide +kernel
theorem dX5_nth_83 : decode cX5_nth 83 = .ok (.goto 4, 3) := by decide +kernel
theorem dX5_nth_86 : decode cX5_nth 86 = .ok (.iconst 0, 1) := by decide +kernel
theorem dX5_nth_87 : decode cX5_nth 87 = .ok (.isub, 1) := by decide +kernel
theorem dX5_nth_88 : decode cX5_nth 88 = .ok (.istore_n 2, 1) := by decide +kernel
theorem dX5_nth_89 : decode cX5_nth 89 = .ok (.iload_n 2, 1) := by decide +kernel
theorem dX5_nth_90 : decode cX5_nth 90 = .ok (.ifCond .ge 6, 3) := by decide +kernel
theorem dX5_nth_93 : decode cX5_nth 93 = .ok (.iload 4, 2) := by decide +kernel
theorem dX5_nth_95 : decode cX5_nth 95 = .ok (.ireturn, 1) := by decide +kernel
theorem dX5_nth_96 : decode cX5_nth 96 = .ok (.iinc 4 1, 3) := by decide +kernel
theorem dX5_nth_99 : decode cX5_nth 99 = .ok (.goto (-35), 3) := by decide +kernel
theorem dX5_nth_102 : decode cX5_nth 102 = .ok (.iconst (-1), 1) := by decide +kernel
theorem dX5_nth_103 : decode cX5_nth 103 = .ok (.ireturn, 1) := by decide +kernel
def x_Rests_nth_12 (N : Nat) (w : aw_W) : Option (Int × aw_W) :=
  some ((-1), w)
theorem w_x_Rests_nth_12 {l : Launch} {K : aw_K} (N d : Nat) (hd : 0 ≤ d) : ∀ (w : aw_W) (y : Int) (v : aw_W), x_Rests_nth_12 N w = some (y, v) → aw_AW l K MX5_nth (d + 1) 12 [] [] w (some (.inl y), v) := by
  intro w y v h
  unfold x_Rests_nth_12 at h
  refine aw_iconst (pc := 12) dX5_nth_12 ⟨by decide, by decide⟩ ?_
  cases h
  exact aw_iret (pc := 13) rfl dX5_nth_13
def x_Rests_nth_102 (N : Nat) (w : aw_W) : Option (Int × aw_W) :=
  some ((-1), w)
theorem w_x_Rests_nth_102 {l : Launch} {K : aw_K} (N d : Nat) (hd : 0 ≤ d) : ∀ (w : aw_W) (y : Int) (v : aw_W), x_Rests_nth_102 N w = some (y, v) → aw_AW l K MX5_nth (d + 1) 102 [] [] w (some (.inl y), v) := by
  intro w y v h
  unfold x_Rests_nth_102 at h
  refine aw_iconst (pc := 102) dX5_nth_102 ⟨by decide, by decide⟩ ?_
  cases h
  exact aw_iret (pc := 103) rfl dX5_nth_103
def x_Rests_nth_93 (N : Nat) (x4 : Int) (w : aw_W) : Option (Int × aw_W) :=
  some (x4, w)
theorem w_x_Rests_nth_93 {l : Launch} {K : aw_K} (N d : Nat) (hd : 0 ≤ d) : ∀ (x4 : Int) (w : aw_W) (y : Int) (v : aw_W), x_Rests_nth_93 N x4 w = some (y, v) → aw_AW l K MX5_nth (d + 1) 93 [(4, .inl x4)] [] w (some (.inl y), v) := by
  intro x4 w y v h
  unfold x_Rests_nth_93 at h
  refine aw_iload (pc := 93) (q := 0) dX5_nth_93 rfl ?_
  cases h
  exact aw_iret (pc := 95) rfl dX5_nth_95
def x_Rests_nth_87 (N : Nat) (k64 : Int → Int → aw_W → Option (Int × aw_W)) (x4 s0 s1 : Int) (w : aw_W) : Option (Int × aw_W) :=
  if 0 ≤ (aw_w (s1 - s0)) then
    k64 (aw_w (s1 - s0)) (aw_w (x4 + 1)) w
  else
    x_Rests_nth_93 N x4 w
theorem w_x_Rests_nth_87 {l : Launch} {K : aw_K} (N d : Nat) (hd : 0 ≤ d) (k64 : Int → Int → aw_W → Option (Int × aw_W)) (hk64 : ∀ (x2 x4 : Int) (w : aw_W) (y : Int) (v : aw_W), k64 x2 x4 w = some (y, v) → aw_AW l K MX5_nth (d + 1) 64 [(0, .inr (.inr 23)), (2, .inl x2), (4, .inl x4)] [] w (some (.inl y), v)) : ∀ (x4 s0 s1 : Int) (w : aw_W) (y : Int) (v : aw_W), x_Rests_nth_87 N k64 x4 s0 s1 w = some (y, v) → aw_AW l K MX5_nth (d + 1) 87 [(0, .inr (.inr 23)), (4, .inl x4)] [.inl s0, .inl s1] w (some (.inl y), v) := by
  intro x4 s0 s1 w y v h
  unfold x_Rests_nth_87 at h
  refine aw_isub (pc := 87) dX5_nth_87 ?_
  refine aw_istore_n (pc := 88) (ls' := [(2, .inl (aw_w (s1 - s0))), (0, .inr (.inr 23)), (4, .inl x4)]) dX5_nth_88 (by decide) rfl ?_
  refine aw_iload_n (pc := 89) (q := 0) dX5_nth_89 rfl ?_
  refine aw_if_ge (pc := 90) (tgt := 96) dX5_nth_90 (by decide) (fun hc => ?_) (fun hc => ?_)
  · rw [if_pos hc] at h
    refine aw_iinc (pc := 96) (q := 2) (ls' := [(4, .inl (aw_w (x4 + 1))), (2, .inl (aw_w (s1 - s0))), (0, .inr (.inr 23))]) dX5_nth_96 rfl (by decide) rfl ?_
    refine aw_goto (pc := 99) (tgt := 64) dX5_nth_99 (by decide) ?_
    exact aw_sel [2, 1, 0] rfl (hk64 _ _ _ _ _ h)
  · rw [if_neg hc] at h
    exact aw_sel [2] rfl (w_x_Rests_nth_93 N d hd  _ _ _ _ h)
def x_Rests_nth_64 (N : Nat) : Nat → Int → Int → aw_W → Option (Int × aw_W)
  | 0, _, _, _ => none
  | n + 1, x2, x4, w =>
    if 10000 ≤ x4 then
      x_Rests_nth_102 N w
    else
      aw_b2 (x_Rests_isMarked N x4 w) fun r1 w1 =>
        if r1 = 0 then
          x_Rests_nth_87 N (x_Rests_nth_64 N n) x4 0 x2 w1
        else
          x_Rests_nth_87 N (x_Rests_nth_64 N n) x4 1 x2 w1
theorem w_x_Rests_nth_64 {l : Launch} {K : aw_K} (N d : Nat) (hd : 0 ≤ d) : ∀ (n : Nat) (x2 x4 : Int) (w : aw_W) (y : Int) (v : aw_W), x_Rests_nth_64 N n x2 x4 w = some (y, v) → aw_AW l K MX5_nth (d + 1) 64 [(0, .inr (.inr 23)), (2, .inl x2), (4, .inl x4)] [] w (some (.inl y), v) := by
  intro n
  induction n with
  | zero => intro x2 x4 w y v h; rw [x_Rests_nth_64] at h; cases h
  | succ n ih =>
    intro x2 x4 w y v h
    rw [x_Rests_nth_64] at h
    refine aw_iload (pc := 64) (q := 2) dX5_nth_64 rfl ?_
    refine aw_sipush (pc := 66) dX5_nth_66 (by decide) ⟨by decide, by decide⟩ ?_
    refine aw_icmp_ge (pc := 69) (tgt := 102) dX5_nth_69 (by decide) (fun hc => ?_) (fun hc => ?_)
    · rw [if_pos hc] at h
      exact aw_sel [] rfl (w_x_Rests_nth_102 N d hd  _ _ _ h)
    · rw [if_neg hc] at h
      refine aw_iload_n (pc := 72) (q := 1) dX5_nth_72 rfl ?_
      refine aw_aload_n (pc := 73) (q := 0) dX5_nth_73 rfl ?_
      refine aw_iload (pc := 74) (q := 2) dX5_nth_74 rfl ?_
      obtain ⟨r1, w1, h1, h⟩ := aw_b2s h
      refine aw_callV (pc := 76) (as := [.inl x4]) (st := [.inl x2]) (st' := [.inl r1, .inl x2]) dX5_nth_76 cv_RX5_94 (by decide) rfl rfl rfl rfl (Nat.le_of_ble_eq_true rfl) (w_x_Rests_isMarked N d (by omega) _ _ _ _ h1) rfl ?_
      refine aw_if_eq (pc := 79) (tgt := 86) dX5_nth_79 (by decide) (fun hc => ?_) (fun hc => ?_)
      · rw [if_pos hc] at h
        refine aw_iconst (pc := 86) dX5_nth_86 ⟨by decide, by decide⟩ ?_
        exact aw_sel [0, 2] rfl (w_x_Rests_nth_87 N d hd  _ ih _ _ _ _ _ _ h)
      · rw [if_neg hc] at h
        refine aw_iconst (pc := 82) dX5_nth_82 ⟨by decide, by decide⟩ ?_
        refine aw_goto (pc := 83) (tgt := 87) dX5_nth_83 (by decide) ?_
        exact aw_sel [0, 2] rfl (w_x_Rests_nth_87 N d hd  _ ih _ _ _ _ _ _ h)
def x_Rests_nth_58 (N : Nat) (x2 x3 : Int) (w : aw_W) : Option (Int × aw_W) :=
  x_Rests_nth_64 N N x2 (aw_w (x3 * 64)) w
theorem w_x_Rests_nth_58 {l : Launch} {K : aw_K} (N d : Nat) (hd : 0 ≤ d) : ∀ (x2 x3 : Int) (w : aw_W) (y : Int) (v : aw_W), x_Rests_nth_58 N x2 x3 w = some (y, v) → aw_AW l K MX5_nth (d + 1) 58 [(0, .inr (.inr 23)), (2, .inl x2), (3, .inl x3)] [] w (some (.inl y), v) := by
  intro x2 x3 w y v h
  unfold x_Rests_nth_58 at h
  refine aw_iload_n (pc := 58) (q := 2) dX5_nth_58 rfl ?_
  refine aw_bipush (pc := 59) dX5_nth_59 (by decide) ⟨by decide, by decide⟩ ?_
  refine aw_imul (pc := 61) dX5_nth_61 ?_
  refine aw_istore (pc := 62) (ls' := [(4, .inl (aw_w (x3 * 64))), (0, .inr (.inr 23)), (2, .inl x2), (3, .inl x3)]) dX5_nth_62 (by decide) rfl ?_
  exact aw_sel [1, 2, 0] rfl (w_x_Rests_nth_64 N d hd  N _ _ _ _ _ h)
def x_Rests_nth_18 (N : Nat) : Nat → Int → Int → aw_W → Option (Int × aw_W)
  | 0, _, _, _ => none
  | n + 1, x2, x3, w =>
    if 157 ≤ x3 then
      x_Rests_nth_58 N x2 x3 w
    else
      if 0 ≤ x3 ∧ x3 < 157 then
        aw_b2 (j_Long_bitCount N (w 24 x3.toNat) w) fun r1 w1 =>
          if x2 < r1 then
            x_Rests_nth_58 N x2 x3 w1
          else
            if 0 ≤ x3 ∧ x3 < 157 then
              aw_b2 (j_Long_bitCount N (w1 24 x3.toNat) w1) fun r2 w2 =>
                x_Rests_nth_18 N n (aw_w (x2 - r2)) (aw_w (x3 + 1)) w2
            else none
      else none
theorem w_x_Rests_nth_18 {l : Launch} {K : aw_K} (N d : Nat) (hd : 0 ≤ d) : ∀ (n : Nat) (x2 x3 : Int) (w : aw_W) (y : Int) (v : aw_W), x_Rests_nth_18 N n x2 x3 w = some (y, v) → aw_AW l K MX5_nth (d + 1) 18 [(0, .inr (.inr 23)), (2, .inl x2), (3, .inl x3)] [] w (some (.inl y), v) := by
  intro n
  induction n with
  | zero => intro x2 x3 w y v h; rw [x_Rests_nth_18] at h; cases h
  | succ n ih =>
    intro x2 x3 w y v h
    rw [x_Rests_nth_18] at h
    refine aw_iload_n (pc := 18) (q := 2) dX5_nth_18 rfl ?_
    refine aw_aload_n (pc := 19) (q := 0) dX5_nth_19 rfl ?_
    refine aw_getf (pc := 20) (v := .inr (.inr 24)) dX5_nth_20 fl_RX5_11 (by decide) rfl rfl rfl ?_
    refine aw_alenv (pc := 23) (x := 157) dX5_nth_23 (by decide) rfl (by decide) rfl ⟨by decide, by decide⟩ ?_
    refine aw_icmp_ge (pc := 24) (tgt := 58) dX5_nth_24 (by decide) (fun hc => ?_) (fun hc => ?_)
    · rw [if_pos hc] at h
      exact aw_sel [0, 1, 2] rfl (w_x_Rests_nth_58 N d hd  _ _ _ _ _ h)
    · rw [if_neg hc] at h
      refine aw_aload_n (pc := 27) (q := 0) dX5_nth_27 rfl ?_
      refine aw_getf (pc := 28) (v := .inr (.inr 24)) dX5_nth_28 fl_RX5_11 (by decide) rfl rfl rfl ?_
      refine aw_iload_n (pc := 31) (q := 2) dX5_nth_31 rfl ?_
      obtain ⟨hb, h⟩ := aw_cks h
      refine aw_laldv (pc := 32) (v := w 24 x3.toNat) dX5_nth_32 rfl hb.1 hb.2 rfl ?_
      obtain ⟨r1, w1, h1, h⟩ := aw_b2s h
      refine aw_callS (pc := 33) (as := [.inr (.inl (w 24 x3.toNat))]) (st := []) (st' := [.inl r1]) dX5_nth_33 cs_RX5_116 rfl rfl (Nat.le_of_ble_eq_true rfl) (w_j_Long_bitCount N d (by omega) _ _ _ _ h1) rfl ?_
      refine aw_iload_n (pc := 36) (q := 1) dX5_nth_36 rfl ?_
      refine aw_icmp_gt (pc := 37) (tgt := 58) dX5_nth_37 (by decide) (fun hc => ?_) (fun hc => ?_)
      · rw [if_pos hc] at h
        exact aw_sel [0, 1, 2] rfl (w_x_Rests_nth_58 N d hd  _ _ _ _ _ h)
      · rw [if_neg hc] at h
        refine aw_iload_n (pc := 40) (q := 1) dX5_nth_40 rfl ?_
        refine aw_aload_n (pc := 41) (q := 0) dX5_nth_41 rfl ?_
        refine aw_getf (pc := 42) (v := .inr (.inr 24)) dX5_nth_42 fl_RX5_11 (by decide) rfl rfl rfl ?_
        refine aw_iload_n (pc := 45) (q := 2) dX5_nth_45 rfl ?_
        obtain ⟨hb, h⟩ := aw_cks h
        refine aw_laldv (pc := 46) (v := w1 24 x3.toNat) dX5_nth_46 rfl hb.1 hb.2 rfl ?_
        obtain ⟨r2, w2, h2, h⟩ := aw_b2s h
        refine aw_callS (pc := 47) (as := [.inr (.inl (w1 24 x3.toNat))]) (st := [.inl x2]) (st' := [.inl r2, .inl x2]) dX5_nth_47 cs_RX5_116 rfl rfl (Nat.le_of_ble_eq_true rfl) (w_j_Long_bitCount N d (by omega) _ _ _ _ h2) rfl ?_
        refine aw_isub (pc := 50) dX5_nth_50 ?_
        refine aw_istore_n (pc := 51) (ls' := [(2, .inl (aw_w (x2 - r2))), (0, .inr (.inr 23)), (3, .inl x3)]) dX5_nth_51 (by decide) rfl ?_
        refine aw_iinc (pc := 52) (q := 2) (ls' := [(3, .inl (aw_w (x3 + 1))), (2, .inl (aw_w (x2 - r2))), (0, .inr (.inr 23))]) dX5_nth_52 rfl (by decide) rfl ?_
        refine aw_goto (pc := 55) (tgt := 18) dX5_nth_55 (by decide) ?_
        exact aw_sel [2, 1, 0] rfl (ih _ _ _ _ _ h)
def x_Rests_nth (N : Nat) (x1 : Int) (w : aw_W) : Option (Int × aw_W) :=
  if x1 < 0 then
    x_Rests_nth_12 N w
  else
    if x1 < (w 23 5) then
      x_Rests_nth_18 N N x1 0 w
    else
      x_Rests_nth_12 N w
theorem w_x_Rests_nth_d {l : Launch} {K : aw_K} (N d : Nat) (hd : 0 ≤ d) : ∀ (x1 : Int) (w : aw_W) (y : Int) (v : aw_W), x_Rests_nth N x1 w = some (y, v) → aw_Met l K MX5_nth (d + 1) [.inr (.inr 23), .inl x1] w (some (.inl y), v) := by
  intro x1 w y v h
  unfold x_Rests_nth at h
  refine aw_enter rfl (Nat.le_of_ble_eq_true rfl) ?_
  show aw_AW l K MX5_nth (d + 1) 0 [(0, .inr (.inr 23)), (1, .inl x1)] [] w (some (.inl y), v)
  refine aw_iload_n (pc := 0) (q := 1) dX5_nth_0 rfl ?_
  refine aw_if_lt (pc := 1) (tgt := 12) dX5_nth_1 (by decide) (fun hc => ?_) (fun hc => ?_)
  · rw [if_pos hc] at h
    exact aw_sel [] rfl (w_x_Rests_nth_12 N d hd  _ _ _ h)
  · rw [if_neg hc] at h
    refine aw_iload_n (pc := 4) (q := 1) dX5_nth_4 rfl ?_
    refine aw_aload_n (pc := 5) (q := 0) dX5_nth_5 rfl ?_
    refine aw_getf (pc := 6) (v := .inl (w 23 5)) dX5_nth_6 fl_RX5_91 (by decide) rfl rfl rfl ?_
    refine aw_icmp_lt (pc := 9) (tgt := 14) dX5_nth_9 (by decide) (fun hc => ?_) (fun hc => ?_)
    · rw [if_pos hc] at h
      refine aw_iload_n (pc := 14) (q := 1) dX5_nth_14 rfl ?_
      refine aw_istore_n (pc := 15) (ls' := [(2, .inl x1), (0, .inr (.inr 23)), (1, .inl x1)]) dX5_nth_15 (by decide) rfl ?_
      refine aw_iconst (pc := 16) dX5_nth_16 ⟨by decide, by decide⟩ ?_
      refine aw_istore_n (pc := 17) (ls' := [(3, .inl 0), (2, .inl x1), (0, .inr (.inr 23)), (1, .inl x1)]) dX5_nth_17 (by decide) rfl ?_
      exact aw_sel [2, 1, 0] rfl (w_x_Rests_nth_18 N d hd  N _ _ _ _ _ h)
    · rw [if_neg hc] at h
      exact aw_sel [] rfl (w_x_Rests_nth_12 N d hd  _ _ _ h)
theorem w_x_Rests_nth {l : Launch} {K : aw_K} (N d : Nat) (hd : 1 ≤ d) : ∀ (x1 : Int) (w : aw_W) (y : Int) (v : aw_W), x_Rests_nth N x1 w = some (y, v) → aw_Met l K MX5_nth (d) [.inr (.inr 23), .inl x1] w (some (.inl y), v) := by
  obtain ⟨e, rfl⟩ : ∃ e, d = e + 1 := ⟨d - 1, by omega⟩
  exact w_x_Rests_nth_d N e (by omega)
theorem dX11_rests_0 : decode cX11_rests 0 = .ok (.aload_n 0, 1) := by decide +kernel
theorem dX11_rests_1 : decode cX11_rests 1 = .ok (.invokevirtual 208, 3) := by decide +kernel
theorem dX11_rests_4 : decode cX11_rests 4 = .ok (.ifCond .ne 6, 3) := by decide +kernel
theorem dX11_rests_7 : decode cX11_rests 7 = .ok (.ldc 165, 2) := by decide +kernel
theorem dX11_rests_9 : decode cX11_rests 9 = .ok (.ireturn, 1) := by decide +kernel
theorem dX11_rests_10 : decode cX11_rests 10 = .ok (.aload_n 0, 1) := by decide +kernel
theorem dX11_rests_11 : decode cX11_rests 11 = .ok (.getfield 54, 3) := by decide +kernel
theorem dX11_rests_14 : decode cX11_rests 14 = .ok (.invokevirtual 212, 3) := by decide +kernel
theorem dX11_rests_17 : decode cX11_rests 17 = .ok (.iload_n 1, 1) := by decide +kernel
theorem dX11_rests_18 : decode cX11_rests 18 = .ok (.iconst (-1), 1) := by decide +kernel
theorem dX11_rests_19 : decode cX11_rests 19 = .ok (.if_icmp .ne 13, 3) := by decide +kernel
theorem dX11_rests_22 : decode cX11_rests 22 = .ok (.aload_n 0, 1) := by decide +kernel
theorem dX11_rests_23 : decode cX11_rests 23 = .ok (.getfield 54, 3) := by decide +kernel
theorem dX11_rests_26 : decode cX11_rests 26 = .ok (.getfield 215, 3) := by decide +kernel
theorem dX11_rests_29 : decode cX11_rests 29 = .ok (.goto 11, 3) := by decide +kernel
theorem dX11_rests_32 : decode cX11_rests 32 = .ok (.aload_n 0, 1) := by decide +kernel
theorem dX11_rests_33 : decode cX11_rests 33 = .ok (.getfield 54, 3) := by decide +kernel
theorem dX11_rests_36 : decode cX11_rests 36 = .ok (.iload_n 1, 1) := by decide +kernel
theorem dX11_rests_37 : decode cX11_rests 37 = .ok (.invokevirtual 218, 3) := by decide +kernel
theorem dX11_rests_40 : decode cX11_rests 40 = .ok (.ireturn, 1) := by decide +kernel
def x_rests_40 (N : Nat) (s0 : Int) (w : aw_W) : Option (Int × aw_W) :=
  some (s0, w)
theorem w_x_rests_40 {l : Launch} {K : aw_K} (N d : Nat) (hd : 5 ≤ d) : ∀ (s0 : Int) (w : aw_W) (y : Int) (v : aw_W), x_rests_40 N s0 w = some (y, v) → aw_AW l K MX11_rests (d + 1) 40 [] [.inl s0] w (some (.inl y), v) := by
  intro s0 w y v h
  unfold x_rests_40 at h
  cases h
  exact aw_iret (pc := 40) rfl dX11_rests_40
def x_rests (N : Nat) (x1 : Int) (w : aw_W) : Option (Int × aw_W) :=
  aw_b2 (x_isSmall N w) fun r1 w1 =>
    if r1 = 0 then
      some ((-1000000), w1)
    else
      aw_b1 (x_Rests_find N w1) fun w2 =>
        if x1 = (-1) then
          x_rests_40 N (w2 23 5) w2
        else
          aw_b2 (x_Rests_nth N x1 w2) fun r3 w3 =>
            x_rests_40 N r3 w3
theorem w_x_rests_d {l : Launch} {K : aw_K} (N d : Nat) (hd : 5 ≤ d) : ∀ (x1 : Int) (w : aw_W) (y : Int) (v : aw_W), x_rests N x1 w = some (y, v) → aw_Met l K MX11_rests (d + 1) [.inr (.inr 0), .inl x1] w (some (.inl y), v) := by
  intro x1 w y v h
  unfold x_rests at h
  refine aw_enter rfl (Nat.le_of_ble_eq_true rfl) ?_
  show aw_AW l K MX11_rests (d + 1) 0 [(0, .inr (.inr 0)), (1, .inl x1)] [] w (some (.inl y), v)
  refine aw_aload_n (pc := 0) (q := 0) dX11_rests_0 rfl ?_
  obtain ⟨r1, w1, h1, h⟩ := aw_b2s h
  refine aw_callV (pc := 1) (as := []) (st := []) (st' := [.inl r1]) dX11_rests_1 cv_RX11_208 (by decide) rfl rfl rfl rfl (Nat.le_of_ble_eq_true rfl) (w_x_isSmall N d (by omega) _ _ _ h1) rfl ?_
  refine aw_if_ne (pc := 4) (tgt := 10) dX11_rests_4 (by decide) (fun hc => ?_) (fun hc => ?_)
  · rw [if_neg hc] at h
    refine aw_aload_n (pc := 10) (q := 0) dX11_rests_10 rfl ?_
    refine aw_getf (pc := 11) (v := .inr (.inr 23)) dX11_rests_11 fl_RX11_54 (by decide) rfl rfl rfl ?_
    obtain ⟨w2, h2, h⟩ := aw_b1s h
    refine aw_callV (pc := 14) (as := []) (st := []) (st' := []) dX11_rests_14 cv_RX11_212 (by decide) rfl rfl rfl rfl (Nat.le_of_ble_eq_true rfl) (w_x_Rests_find N d (by omega) _ _ h2) rfl ?_
    refine aw_iload_n (pc := 17) (q := 1) dX11_rests_17 rfl ?_
    refine aw_iconst (pc := 18) dX11_rests_18 ⟨by decide, by decide⟩ ?_
    refine aw_icmp_ne (pc := 19) (tgt := 32) dX11_rests_19 (by decide) (fun hc => ?_) (fun hc => ?_)
    · rw [if_neg hc] at h
      refine aw_aload_n (pc := 32) (q := 0) dX11_rests_32 rfl ?_
      refine aw_getf (pc := 33) (v := .inr (.inr 23)) dX11_rests_33 fl_RX11_54 (by decide) rfl rfl rfl ?_
      refine aw_iload_n (pc := 36) (q := 1) dX11_rests_36 rfl ?_
      obtain ⟨r3, w3, h3, h⟩ := aw_b2s h
      refine aw_callV (pc := 37) (as := [.inl x1]) (st := []) (st' := [.inl r3]) dX11_rests_37 cv_RX11_218 (by decide) rfl rfl rfl rfl (Nat.le_of_ble_eq_true rfl) (w_x_Rests_nth N d (by omega) _ _ _ _ h3) rfl ?_
      exact aw_sel [] rfl (w_x_rests_40 N d hd  _ _ _ _ h)
    · rw [if_pos hc] at h
      refine aw_aload_n (pc := 22) (q := 0) dX11_rests_22 rfl ?_
      refine aw_getf (pc := 23) (v := .inr (.inr 23)) dX11_rests_23 fl_RX11_54 (by decide) rfl rfl rfl ?_
      refine aw_getf (pc := 26) (v := .inl (w2 23 5)) dX11_rests_26 fl_RX11_215 (by decide) rfl rfl rfl ?_
      refine aw_goto (pc := 29) (tgt := 40) dX11_rests_29 (by decide) ?_
      exact aw_sel [] rfl (w_x_rests_40 N d hd  _ _ _ _ h)
  · rw [if_pos hc] at h
    refine aw_ldc (pc := 7) (x := (-1000000)) dX11_rests_7 cn_RX11_165 ⟨by decide, by decide⟩ ?_
    cases h
    exact aw_iret (pc := 9) rfl dX11_rests_9
theorem w_x_rests {l : Launch} {K : aw_K} (N d : Nat) (hd : 6 ≤ d) : ∀ (x1 : Int) (w : aw_W) (y : Int) (v : aw_W), x_rests N x1 w = some (y, v) → aw_Met l K MX11_rests (d) [.inr (.inr 0), .inl x1] w (some (.inl y), v) := by
  obtain ⟨e, rfl⟩ : ∃ e, d = e + 1 := ⟨d - 1, by omega⟩
  exact w_x_rests_d N e (by omega)
theorem dX6_told_0 : decode cX6_told 0 = .ok (.aload_n 0, 1) := by decide +kernel
theorem dX6_told_1 : decode cX6_told 1 = .ok (.getfield 15, 3) := by decide +kernel
theorem dX6_told_4 : decode cX6_told 4 = .ok (.iload_n 1, 1) := by decide +kernel
theorem dX6_told_5 : decode cX6_told 5 = .ok (.iconst 3, 1) := by decide +kernel
theorem dX6_told_6 : decode cX6_told 6 = .ok (.invokevirtual 50, 3) := by decide +kernel
theorem dX6_told_9 : decode cX6_told 9 = .ok (.aload_n 0, 1) := by decide +kernel
theorem dX6_told_10 : decode cX6_told 10 = .ok (.getfield 15, 3) := by decide +kernel
theorem dX6_told_13 : decode cX6_told 13 = .ok (.getfield 54, 3) := by decide +kernel
theorem dX6_told_16 : decode cX6_told 16 = .ok (.iconst 4, 1) := by decide +kernel
theorem dX6_told_17 : decode cX6_told 17 = .ok (.iaload, 1) := by decide +kernel
theorem dX6_told_18 : decode cX6_told 18 = .ok (.invokestatic 57, 3) := by decide +kernel
theorem dX6_told_21 : decode cX6_told 21 = .ok (.ireturn, 1) := by decide +kernel
def x_Rounds_told (N : Nat) (x1 : Int) (w : aw_W) : Option (Int × aw_W) :=
  aw_b2 (x_Land_item N x1 3 w) fun r1 w1 =>
    some (aw_mn r1 (w1 5 4), w1)
theorem w_x_Rounds_told_d {l : Launch} {K : aw_K} (N d : Nat) (hd : 1 ≤ d) : ∀ (x1 : Int) (w : aw_W) (y : Int) (v : aw_W), x_Rounds_told N x1 w = some (y, v) → aw_Met l K MX6_told (d + 1) [.inr (.inr 39), .inl x1] w (some (.inl y), v) := by
  intro x1 w y v h
  unfold x_Rounds_told at h
  refine aw_enter rfl (Nat.le_of_ble_eq_true rfl) ?_
  show aw_AW l K MX6_told (d + 1) 0 [(0, .inr (.inr 39)), (1, .inl x1)] [] w (some (.inl y), v)
  refine aw_aload_n (pc := 0) (q := 0) dX6_told_0 rfl ?_
  refine aw_getf (pc := 1) (v := .inr (.inr 3)) dX6_told_1 fl_RX6_15 (by decide) rfl rfl rfl ?_
  refine aw_iload_n (pc := 4) (q := 1) dX6_told_4 rfl ?_
  refine aw_iconst (pc := 5) dX6_told_5 ⟨by decide, by decide⟩ ?_
  obtain ⟨r1, w1, h1, h⟩ := aw_b2s h
  refine aw_callV (pc := 6) (as := [.inl x1, .inl 3]) (st := []) (st' := [.inl r1]) dX6_told_6 cv_RX6_50 (by decide) rfl rfl rfl rfl (Nat.le_of_ble_eq_true rfl) (w_x_Land_item N d (by omega) _ _ _ _ _ h1) rfl ?_
  refine aw_aload_n (pc := 9) (q := 0) dX6_told_9 rfl ?_
  refine aw_getf (pc := 10) (v := .inr (.inr 3)) dX6_told_10 fl_RX6_15 (by decide) rfl rfl rfl ?_
  refine aw_getf (pc := 13) (v := .inr (.inr 5)) dX6_told_13 fl_RX6_54 (by decide) rfl rfl rfl ?_
  refine aw_iconst (pc := 16) dX6_told_16 ⟨by decide, by decide⟩ ?_
  refine aw_ialdv (pc := 17) (v := w1 5 4) dX6_told_17 rfl (by decide) (by decide) rfl ?_
  refine aw_mmin (pc := 18) dX6_told_18 cm_RX6_57 (Nat.le_of_ble_eq_true rfl) ?_
  cases h
  exact aw_iret (pc := 21) rfl dX6_told_21
theorem w_x_Rounds_told {l : Launch} {K : aw_K} (N d : Nat) (hd : 2 ≤ d) : ∀ (x1 : Int) (w : aw_W) (y : Int) (v : aw_W), x_Rounds_told N x1 w = some (y, v) → aw_Met l K MX6_told (d) [.inr (.inr 39), .inl x1] w (some (.inl y), v) := by
  obtain ⟨e, rfl⟩ : ∃ e, d = e + 1 := ⟨d - 1, by omega⟩
  exact w_x_Rounds_told_d N e (by omega)
theorem dX6_bidAnew_0 : decode cX6_bidAnew 0 = .ok (.aload_n 0, 1) := by decide +kernel
theorem dX6_bidAnew_1 : decode cX6_bidAnew 1 = .ok (.getfield 15, 3) := by decide +kernel
theorem dX6_bidAnew_4 : decode cX6_bidAnew 4 = .ok (.getfield 54, 3) := by decide +kernel
theorem dX6_bidAnew_7 : decode cX6_bidAnew 7 = .ok (.iconst 4, 1) := by decide +kernel
theorem dX6_bidAnew_8 : decode cX6_bidAnew 8 = .ok (.iaload, 1) := by decide +kernel
theorem dX6_bidAnew_9 : decode cX6_bidAnew 9 = .ok (.istore_n 2, 1) := by decide +kernel
theorem dX6_bidAnew_10 : decode cX6_bidAnew 10 = .ok (.aload_n 0, 1) := by decide +kernel
theorem dX6_bidAnew_11 : decode cX6_bidAnew 11 = .ok (.getfield 15, 3) := by decide +kernel
theorem dX6_bidAnew_14 : decode cX6_bidAnew 14 = .ok (.iload_n 1, 1) := by decide +kernel
theorem dX6_bidAnew_15 : decode cX6_bidAnew 15 = .ok (.iconst 2, 1) := by decide +kernel
theorem dX6_bidAnew_16 : decode cX6_bidAnew 16 = .ok (.invokevirtual 50, 3) := by decide +kernel
theorem dX6_bidAnew_19 : decode cX6_bidAnew 19 = .ok (.tableswitch 96 1 4 #[29, 38, 66, 68], 29) := by decide +kernel
theorem dX6_bidAnew_48 : decode cX6_bidAnew 48 = .ok (.aload_n 0, 1) := by decide +kernel
theorem dX6_bidAnew_49 : decode cX6_bidAnew 49 = .ok (.getfield 19, 3) := by decide +kernel
theorem dX6_bidAnew_52 : decode cX6_bidAnew 52 = .ok (.iload_n 1, 1) := by decide +kernel
theorem dX6_bidAnew_53 : decode cX6_bidAnew 53 = .ok (.invokevirtual 74, 3) := by decide +kernel
theorem dX6_bidAnew_56 : decode cX6_bidAnew 56 = .ok (.ireturn, 1) := by decide +kernel
theorem dX6_bidAnew_57 : decode cX6_bidAnew 57 = .ok (.aload_n 0, 1) := by decide +kernel
theorem dX6_bidAnew_58 : decode cX6_bidAnew 58 = .ok (.getfield 19, 3) := by decide +kernel
theorem dX6_bidAnew_61 : decode cX6_bidAnew 61 = .ok (.getfield 29, 3) := by decide +kernel
theorem dX6_bidAnew_64 : decode cX6_bidAnew 64 = .ok (.iload_n 1, 1) := by decide +kernel
theorem dX6_bidAnew_65 : decode cX6_bidAnew 65 = .ok (.ifCond .ne 15, 3) := by decide +kernel
theorem dX6_bidAnew_68 : decode cX6_bidAnew 68 = .ok (.aload_n 0, 1) := by decide +kernel
theorem dX6_bidAnew_69 : decode cX6_bidAnew 69 = .ok (.getfield 15, 3) := by decide +kernel
theorem dX6_bidAnew_72 : decode cX6_bidAnew 72 = .ok (.getfield 23, 3) := by decide +kernel
theorem dX6_bidAnew_75 : decode cX6_bidAnew 75 = .ok (.iconst 1, 1) := by decide +kernel
theorem dX6_bidAnew_76 : decode cX6_bidAnew 76 = .ok (.isub, 1) := by decide +kernel
theorem dX6_bidAnew_77 : decode cX6_bidAnew 77 = .ok (.goto 6, 3) := by decide +kernel
theorem dX6_bidAnew_80 : decode cX6_bidAnew 80 = .ok (.iload_n 1, 1) := by decide +kernel
theorem dX6_bidAnew_81 : decode cX6_bidAnew 81 = .ok (.iconst 1, 1) := by decide +kernel
theorem dX6_bidAnew_82 : decode cX6_bidAnew 82 = .ok (.isub, 1) := by decide +kernel
theorem dX6_bidAnew_83 : decode cX6_bidAnew 83 = .ok (.iaload, 1) := by decide +kernel
theorem dX6_bidAnew_84 : decode cX6_bidAnew 84 = .ok (.ireturn, 1) := by decide +kernel
theorem dX6_bidAnew_85 : decode cX6_bidAnew 85 = .ok (.iload_n 2, 1) := by decide +kernel
theorem dX6_bidAnew_86 : decode cX6_bidAnew 86 = .ok (.ireturn, 1) := by decide +kernel
theorem dX6_bidAnew_87 : decode cX6_bidAnew 87 = .ok (.aload_n 0, 1) := by decide +kernel
theorem dX6_bidAnew_88 : decode cX6_bidAnew 88 = .ok (.getfield 19, 3) := by decide +kernel
theorem dX6_bidAnew_91 : decode cX6_bidAnew 91 = .ok (.getfield 29, 3) := by decide +kernel
theorem dX6_bidAnew_94 : decode cX6_bidAnew 94 = .ok (.iload_n 1, 1) := by decide +kernel
theorem dX6_bidAnew_95 : decode cX6_bidAnew 95 = .ok (.iaload, 1) := by decide +kernel
theorem dX6_bidAnew_96 : decode cX6_bidAnew 96 = .ok (.ifCond .ne 7, 3) := by decide +kernel
theorem dX6_bidAnew_99 : decode cX6_bidAnew 99 = .ok (.iload_n 2, 1) := by decide +kernel
theorem dX6_bidAnew_100 : decode cX6_bidAnew 100 = .ok (.goto 14, 3) := by decide +kernel
theorem dX6_bidAnew_103 : decode cX6_bidAnew 103 = .ok (.aload_n 0, 1) := by decide +kernel
theorem dX6_bidAnew_104 : decode cX6_bidAnew 104 = .ok (.getfield 19, 3) := by decide +kernel
theorem dX6_bidAnew_107 : decode cX6_bidAnew 107 = .ok (.getfield 29, 3) := by decide +kernel
theorem dX6_bidAnew_110 : decode cX6_bidAnew 110 = .ok (.iload_n 1, 1) := by decide +kernel
theorem dX6_bidAnew_111 : decode cX6_bidAnew 111 = .ok (.iaload, 1) := by decide +kernel
theorem dX6_bidAnew_112 : decode cX6_bidAnew 112 = .ok (.iconst 1, 1) := by decide +kernel
theorem dX6_bidAnew_113 : decode cX6_bidAnew 113 = .ok (.isub, 1) := by decide +kernel
theorem dX6_bidAnew_114 : decode cX6_bidAnew 114 = .ok (.ireturn, 1) := by decide +kernel
theorem dX6_bidAnew_115 : decode cX6_bidAnew 115 = .ok (.aload_n 0, 1) := by decide +kernel
theorem dX6_bidAnew_116 : decode cX6_bidAnew 116 = .ok (.iload_n 1, 1) := by decide +kernel
theorem dX6_bidAnew_117 : decode cX6_bidAnew 117 = .ok (.invokevirtual 34, 3) := by decide +kernel
theorem dX6_bidAnew_120 : decode cX6_bidAnew 120 = .ok (.ireturn, 1) := by decide +kernel
def x_Rounds_bidAnew_114 (N : Nat) (s0 : Int) (w : aw_W) : Option (Int × aw_W) :=
  some (s0, w)
theorem w_x_Rounds_bidAnew_114 {l : Launch} {K : aw_K} (N d : Nat) (hd : 3 ≤ d) : ∀ (s0 : Int) (w : aw_W) (y : Int) (v : aw_W), x_Rounds_bidAnew_114 N s0 w = some (y, v) → aw_AW l K MX6_bidAnew (d + 1) 114 [] [.inl s0] w (some (.inl y), v) := by
  intro s0 w y v h
  unfold x_Rounds_bidAnew_114 at h
  cases h
  exact aw_iret (pc := 114) rfl dX6_bidAnew_114
def x_Rounds_bidAnew_83 (N : Nat) (s0 : Int) (w : aw_W) : Option (Int × aw_W) :=
  if 0 ≤ s0 ∧ s0 < 6 then
    some (w 21 s0.toNat, w)
  else none
theorem w_x_Rounds_bidAnew_83 {l : Launch} {K : aw_K} (N d : Nat) (hd : 3 ≤ d) : ∀ (s0 : Int) (w : aw_W) (y : Int) (v : aw_W), x_Rounds_bidAnew_83 N s0 w = some (y, v) → aw_AW l K MX6_bidAnew (d + 1) 83 [] [.inl s0, .inr (.inr 21)] w (some (.inl y), v) := by
  intro s0 w y v h
  unfold x_Rounds_bidAnew_83 at h
  obtain ⟨hb, h⟩ := aw_cks h
  refine aw_ialdv (pc := 83) (v := w 21 s0.toNat) dX6_bidAnew_83 rfl hb.1 hb.2 rfl ?_
  cases h
  exact aw_iret (pc := 84) rfl dX6_bidAnew_84
def x_Rounds_bidAnew (N : Nat) (x1 : Int) (w : aw_W) : Option (Int × aw_W) :=
  aw_b2 (x_Land_item N x1 2 w) fun r1 w1 =>
    if r1 = 1 then
      aw_b2 (x_Sale_bestBid N x1 w1) fun r3 w3 =>
        some (r3, w3)
    else
      if r1 = 2 then
        if x1 = 0 then
          x_Rounds_bidAnew_83 N (aw_w ((w1 3 4) - 1)) w1
        else
          x_Rounds_bidAnew_83 N (aw_w (x1 - 1)) w1
      else
        if r1 = 3 then
          some (w 5 4, w1)
        else
          if r1 = 4 then
            if 0 ≤ x1 ∧ x1 < 6 then
              if (w1 21 x1.toNat) = 0 then
                x_Rounds_bidAnew_114 N (w 5 4) w1
              else
                if 0 ≤ x1 ∧ x1 < 6 then
                  x_Rounds_bidAnew_114 N (aw_w ((w1 21 x1.toNat) - 1)) w1
                else none
            else none
          else
            aw_b2 (x_Rounds_told N x1 w1) fun r2 w2 =>
              some (r2, w2)
theorem w_x_Rounds_bidAnew_d {l : Launch} {K : aw_K} (N d : Nat) (hd : 3 ≤ d) : ∀ (x1 : Int) (w : aw_W) (y : Int) (v : aw_W), x_Rounds_bidAnew N x1 w = some (y, v) → aw_Met l K MX6_bidAnew (d + 1) [.inr (.inr 39), .inl x1] w (some (.inl y), v) := by
  intro x1 w y v h
  unfold x_Rounds_bidAnew at h
  refine aw_enter rfl (Nat.le_of_ble_eq_true rfl) ?_
  show aw_AW l K MX6_bidAnew (d + 1) 0 [(0, .inr (.inr 39)), (1, .inl x1)] [] w (some (.inl y), v)
  refine aw_aload_n (pc := 0) (q := 0) dX6_bidAnew_0 rfl ?_
  refine aw_getf (pc := 1) (v := .inr (.inr 3)) dX6_bidAnew_1 fl_RX6_15 (by decide) rfl rfl rfl ?_
  refine aw_getf (pc := 4) (v := .inr (.inr 5)) dX6_bidAnew_4 fl_RX6_54 (by decide) rfl rfl rfl ?_
  refine aw_iconst (pc := 7) dX6_bidAnew_7 ⟨by decide, by decide⟩ ?_
  refine aw_ialdv (pc := 8) (v := w 5 4) dX6_bidAnew_8 rfl (by decide) (by decide) rfl ?_
  refine aw_istore_n (pc := 9) (ls' := [(2, .inl (w 5 4)), (0, .inr (.inr 39)), (1, .inl x1)]) dX6_bidAnew_9 (by decide) rfl ?_
  refine aw_aload_n (pc := 10) (q := 1) dX6_bidAnew_10 rfl ?_
  refine aw_getf (pc := 11) (v := .inr (.inr 3)) dX6_bidAnew_11 fl_RX6_15 (by decide) rfl rfl rfl ?_
  refine aw_iload_n (pc := 14) (q := 2) dX6_bidAnew_14 rfl ?_
  refine aw_iconst (pc := 15) dX6_bidAnew_15 ⟨by decide, by decide⟩ ?_
  obtain ⟨r1, w1, h1, h⟩ := aw_b2s h
  refine aw_callV (pc := 16) (as := [.inl x1, .inl 2]) (st := []) (st' := [.inl r1]) dX6_bidAnew_16 cv_RX6_50 (by decide) rfl rfl rfl rfl (Nat.le_of_ble_eq_true rfl) (w_x_Land_item N d (by omega) _ _ _ _ _ h1) rfl ?_
  by_cases hc0 : r1 = 1
  · rw [if_pos hc0] at h
    refine aw_tabIn (pc := 19) (tgt := 48) (off := 29) dX6_bidAnew_19 (by omega) (by omega) (by rw [hc0]; rfl) (by decide) ?_
    refine aw_aload_n (pc := 48) (q := 1) dX6_bidAnew_48 rfl ?_
    refine aw_getf (pc := 49) (v := .inr (.inr 17)) dX6_bidAnew_49 fl_RX6_19 (by decide) rfl rfl rfl ?_
    refine aw_iload_n (pc := 52) (q := 2) dX6_bidAnew_52 rfl ?_
    obtain ⟨r3, w3, h3, h⟩ := aw_b2s h
    refine aw_callV (pc := 53) (as := [.inl x1]) (st := []) (st' := [.inl r3]) dX6_bidAnew_53 cv_RX6_74 (by decide) rfl rfl rfl rfl (Nat.le_of_ble_eq_true rfl) (w_x_Sale_bestBid N d (by omega) _ _ _ _ h3) rfl ?_
    cases h
    exact aw_iret (pc := 56) rfl dX6_bidAnew_56
  · rw [if_neg hc0] at h
    by_cases hc1 : r1 = 2
    · rw [if_pos hc1] at h
      refine aw_tabIn (pc := 19) (tgt := 57) (off := 38) dX6_bidAnew_19 (by omega) (by omega) (by rw [hc1]; rfl) (by decide) ?_
      refine aw_aload_n (pc := 57) (q := 1) dX6_bidAnew_57 rfl ?_
      refine aw_getf (pc := 58) (v := .inr (.inr 17)) dX6_bidAnew_58 fl_RX6_19 (by decide) rfl rfl rfl ?_
      refine aw_getf (pc := 61) (v := .inr (.inr 21)) dX6_bidAnew_61 fl_RX6_29 (by decide) rfl rfl rfl ?_
      refine aw_iload_n (pc := 64) (q := 2) dX6_bidAnew_64 rfl ?_
      refine aw_if_ne (pc := 65) (tgt := 80) dX6_bidAnew_65 (by decide) (fun hc => ?_) (fun hc => ?_)
      · rw [if_neg hc] at h
        refine aw_iload_n (pc := 80) (q := 2) dX6_bidAnew_80 rfl ?_
        refine aw_iconst (pc := 81) dX6_bidAnew_81 ⟨by decide, by decide⟩ ?_
        refine aw_isub (pc := 82) dX6_bidAnew_82 ?_
        exact aw_sel [] rfl (w_x_Rounds_bidAnew_83 N d hd  _ _ _ _ h)
      · rw [if_pos hc] at h
        refine aw_aload_n (pc := 68) (q := 1) dX6_bidAnew_68 rfl ?_
        refine aw_getf (pc := 69) (v := .inr (.inr 3)) dX6_bidAnew_69 fl_RX6_15 (by decide) rfl rfl rfl ?_
        refine aw_getf (pc := 72) (v := .inl (w1 3 4)) dX6_bidAnew_72 fl_RX6_23 (by decide) rfl rfl rfl ?_
        refine aw_iconst (pc := 75) dX6_bidAnew_75 ⟨by decide, by decide⟩ ?_
        refine aw_isub (pc := 76) dX6_bidAnew_76 ?_
        refine aw_goto (pc := 77) (tgt := 83) dX6_bidAnew_77 (by decide) ?_
        exact aw_sel [] rfl (w_x_Rounds_bidAnew_83 N d hd  _ _ _ _ h)
    · rw [if_neg hc1] at h
      by_cases hc2 : r1 = 3
      · rw [if_pos hc2] at h
        refine aw_tabIn (pc := 19) (tgt := 85) (off := 66) dX6_bidAnew_19 (by omega) (by omega) (by rw [hc2]; rfl) (by decide) ?_
        refine aw_iload_n (pc := 85) (q := 0) dX6_bidAnew_85 rfl ?_
        cases h
        exact aw_iret (pc := 86) rfl dX6_bidAnew_86
      · rw [if_neg hc2] at h
        by_cases hc3 : r1 = 4
        · rw [if_pos hc3] at h
          refine aw_tabIn (pc := 19) (tgt := 87) (off := 68) dX6_bidAnew_19 (by omega) (by omega) (by rw [hc3]; rfl) (by decide) ?_
          refine aw_aload_n (pc := 87) (q := 1) dX6_bidAnew_87 rfl ?_
          refine aw_getf (pc := 88) (v := .inr (.inr 17)) dX6_bidAnew_88 fl_RX6_19 (by decide) rfl rfl rfl ?_
          refine aw_getf (pc := 91) (v := .inr (.inr 21)) dX6_bidAnew_91 fl_RX6_29 (by decide) rfl rfl rfl ?_
          refine aw_iload_n (pc := 94) (q := 2) dX6_bidAnew_94 rfl ?_
          obtain ⟨hb, h⟩ := aw_cks h
          refine aw_ialdv (pc := 95) (v := w1 21 x1.toNat) dX6_bidAnew_95 rfl hb.1 hb.2 rfl ?_
          refine aw_if_ne (pc := 96) (tgt := 103) dX6_bidAnew_96 (by decide) (fun hc => ?_) (fun hc => ?_)
          · rw [if_neg hc] at h
            refine aw_aload_n (pc := 103) (q := 1) dX6_bidAnew_103 rfl ?_
            refine aw_getf (pc := 104) (v := .inr (.inr 17)) dX6_bidAnew_104 fl_RX6_19 (by decide) rfl rfl rfl ?_
            refine aw_getf (pc := 107) (v := .inr (.inr 21)) dX6_bidAnew_107 fl_RX6_29 (by decide) rfl rfl rfl ?_
            refine aw_iload_n (pc := 110) (q := 2) dX6_bidAnew_110 rfl ?_
            obtain ⟨hb, h⟩ := aw_cks h
            refine aw_ialdv (pc := 111) (v := w1 21 x1.toNat) dX6_bidAnew_111 rfl hb.1 hb.2 rfl ?_
            refine aw_iconst (pc := 112) dX6_bidAnew_112 ⟨by decide, by decide⟩ ?_
            refine aw_isub (pc := 113) dX6_bidAnew_113 ?_
            exact aw_sel [] rfl (w_x_Rounds_bidAnew_114 N d hd  _ _ _ _ h)
          · rw [if_pos hc] at h
            refine aw_iload_n (pc := 99) (q := 0) dX6_bidAnew_99 rfl ?_
            refine aw_goto (pc := 100) (tgt := 114) dX6_bidAnew_100 (by decide) ?_
            exact aw_sel [] rfl (w_x_Rounds_bidAnew_114 N d hd  _ _ _ _ h)
        · rw [if_neg hc3] at h
          refine aw_tabOut (pc := 19) (tgt := 115) dX6_bidAnew_19 (by omega) (by decide) ?_
          refine aw_aload_n (pc := 115) (q := 1) dX6_bidAnew_115 rfl ?_
          refine aw_iload_n (pc := 116) (q := 2) dX6_bidAnew_116 rfl ?_
          obtain ⟨r2, w2, h2, h⟩ := aw_b2s h
          refine aw_callV (pc := 117) (as := [.inl x1]) (st := []) (st' := [.inl r2]) dX6_bidAnew_117 cv_RX6_34 (by decide) rfl rfl rfl rfl (Nat.le_of_ble_eq_true rfl) (w_x_Rounds_told N d (by omega) _ _ _ _ h2) rfl ?_
          cases h
          exact aw_iret (pc := 120) rfl dX6_bidAnew_120
theorem w_x_Rounds_bidAnew {l : Launch} {K : aw_K} (N d : Nat) (hd : 4 ≤ d) : ∀ (x1 : Int) (w : aw_W) (y : Int) (v : aw_W), x_Rounds_bidAnew N x1 w = some (y, v) → aw_Met l K MX6_bidAnew (d) [.inr (.inr 39), .inl x1] w (some (.inl y), v) := by
  obtain ⟨e, rfl⟩ : ∃ e, d = e + 1 := ⟨d - 1, by omega⟩
  exact w_x_Rounds_bidAnew_d N e (by omega)
