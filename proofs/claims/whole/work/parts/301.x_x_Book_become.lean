theorem dX0_become_0 : decode cX0_become 0 = .ok (.aload_n 1, 1) := by decide +kernel
theorem dX0_become_1 : decode cX0_become 1 = .ok (.getfield 9, 3) := by decide +kernel
theorem dX0_become_4 : decode cX0_become 4 = .ok (.iconst 0, 1) := by decide +kernel
theorem dX0_become_5 : decode cX0_become 5 = .ok (.aload_n 0, 1) := by decide +kernel
theorem dX0_become_6 : decode cX0_become 6 = .ok (.getfield 9, 3) := by decide +kernel
theorem dX0_become_9 : decode cX0_become 9 = .ok (.iconst 0, 1) := by decide +kernel
theorem dX0_become_10 : decode cX0_become 10 = .ok (.bipush 40, 2) := by decide +kernel
theorem dX0_become_12 : decode cX0_become 12 = .ok (.invokestatic 26, 3) := by decide +kernel
theorem dX0_become_15 : decode cX0_become 15 = .ok (.aload_n 0, 1) := by decide +kernel
theorem dX0_become_16 : decode cX0_become 16 = .ok (.aload_n 1, 1) := by decide +kernel
theorem dX0_become_17 : decode cX0_become 17 = .ok (.getfield 32, 3) := by decide +kernel
theorem dX0_become_20 : decode cX0_become 20 = .ok (.putfield 32, 3) := by decide +kernel
theorem dX0_become_23 : decode cX0_become 23 = .ok (.return_, 1) := by decide +kernel
def x_Book_become (N : Nat) (w : aw_W) : Option (aw_W) :=
  some (aw_up (aw_cpy (w 45) w 42 0 0 40) 41 4 (w 44 4))
theorem w_x_Book_become {l : Launch} {K : aw_K} (N d : Nat) (hd : 0 ≤ d) : ∀ (w v : aw_W), x_Book_become N w = some v → aw_Met l K MX0_become (d) [.inr (.inr 41), .inr (.inr 44)] w (none, v) := by
  intro w v h
  unfold x_Book_become at h
  refine aw_enter rfl (Nat.le_of_ble_eq_true rfl) ?_
  show aw_AW l K MX0_become (d) 0 [(0, .inr (.inr 41)), (1, .inr (.inr 44))] [] w (none, v)
  refine aw_aload_n (pc := 0) (q := 1) dX0_become_0 rfl ?_
  refine aw_getf (pc := 1) (v := .inr (.inr 45)) dX0_become_1 fl_RX0_9 (by decide) rfl rfl rfl ?_
  refine aw_iconst (pc := 4) dX0_become_4 ⟨by decide, by decide⟩ ?_
  refine aw_aload_n (pc := 5) (q := 0) dX0_become_5 rfl ?_
  refine aw_getf (pc := 6) (v := .inr (.inr 42)) dX0_become_6 fl_RX0_9 (by decide) rfl rfl rfl ?_
  refine aw_iconst (pc := 9) dX0_become_9 ⟨by decide, by decide⟩ ?_
  refine aw_bipush (pc := 10) dX0_become_10 (by decide) ⟨by decide, by decide⟩ ?_
  refine aw_copyW (pc := 12) dX0_become_12 cc_RX0_26 rfl rfl (by decide) (by decide) (by decide) (by decide) (by decide) (by decide) (by decide) (Nat.le_of_ble_eq_true rfl) ?_
  refine aw_aload_n (pc := 15) (q := 0) dX0_become_15 rfl ?_
  refine aw_aload_n (pc := 16) (q := 1) dX0_become_16 rfl ?_
  refine aw_getf (pc := 17) (v := .inl (w 44 4)) dX0_become_17 fl_RX0_32 (by decide) rfl rfl rfl ?_
  refine aw_puti (pc := 20) dX0_become_20 fp_RX0_32 (by decide) rfl rfl ?_
  cases h
  exact aw_vret (pc := 23) rfl dX0_become_23
theorem dX11_back_0 : decode cX11_back 0 = .ok (.aload_n 0, 1) := by decide +kernel
theorem dX11_back_1 : decode cX11_back 1 = .ok (.getfield 98, 3) := by decide +kernel
theorem dX11_back_4 : decode cX11_back 4 = .ok (.ifCond .ne 5, 3) := by decide +kernel
theorem dX11_back_7 : decode cX11_back 7 = .ok (.iconst (-1), 1) := by decide +kernel
theorem dX11_back_8 : decode cX11_back 8 = .ok (.ireturn, 1) := by decide +kernel
theorem dX11_back_9 : decode cX11_back 9 = .ok (.aload_n 0, 1) := by decide +kernel
theorem dX11_back_10 : decode cX11_back 10 = .ok (.getfield 84, 3) := by decide +kernel
theorem dX11_back_13 : decode cX11_back 13 = .ok (.aload_n 0, 1) := by decide +kernel
theorem dX11_back_14 : decode cX11_back 14 = .ok (.getfield 88, 3) := by decide +kernel
theorem dX11_back_17 : decode cX11_back 17 = .ok (.invokevirtual 329, 3) := by decide +kernel
theorem dX11_back_20 : decode cX11_back 20 = .ok (.aload_n 0, 1) := by decide +kernel
theorem dX11_back_21 : decode cX11_back 21 = .ok (.getfield 91, 3) := by decide +kernel
theorem dX11_back_24 : decode cX11_back 24 = .ok (.iconst 0, 1) := by decide +kernel
theorem dX11_back_25 : decode cX11_back 25 = .ok (.aload_n 0, 1) := by decide +kernel
theorem dX11_back_26 : decode cX11_back 26 = .ok (.getfield 19, 3) := by decide +kernel
theorem dX11_back_29 : decode cX11_back 29 = .ok (.getfield 151, 3) := by decide +kernel
theorem dX11_back_32 : decode cX11_back 32 = .ok (.iconst 0, 1) := by decide +kernel
theorem dX11_back_33 : decode cX11_back 33 = .ok (.iconst 5, 1) := by decide +kernel
theorem dX11_back_34 : decode cX11_back 34 = .ok (.invokestatic 332, 3) := by decide +kernel
theorem dX11_back_37 : decode cX11_back 37 = .ok (.aload_n 0, 1) := by decide +kernel
theorem dX11_back_38 : decode cX11_back 38 = .ok (.getfield 95, 3) := by decide +kernel
theorem dX11_back_41 : decode cX11_back 41 = .ok (.iconst 0, 1) := by decide +kernel
theorem dX11_back_42 : decode cX11_back 42 = .ok (.aload_n 0, 1) := by decide +kernel
theorem dX11_back_43 : decode cX11_back 43 = .ok (.getfield 19, 3) := by decide +kernel
theorem dX11_back_46 : decode cX11_back 46 = .ok (.getfield 144, 3) := by decide +kernel
theorem dX11_back_49 : decode cX11_back 49 = .ok (.iconst 0, 1) := by decide +kernel
theorem dX11_back_50 : decode cX11_back 50 = .ok (.bipush 6, 2) := by decide +kernel
theorem dX11_back_52 : decode cX11_back 52 = .ok (.invokestatic 332, 3) := by decide +kernel
theorem dX11_back_55 : decode cX11_back 55 = .ok (.aload_n 0, 1) := by decide +kernel
theorem dX11_back_56 : decode cX11_back 56 = .ok (.getfield 54, 3) := by decide +kernel
theorem dX11_back_59 : decode cX11_back 59 = .ok (.iconst 0, 1) := by decide +kernel
theorem dX11_back_60 : decode cX11_back 60 = .ok (.putfield 133, 3) := by decide +kernel
theorem dX11_back_63 : decode cX11_back 63 = .ok (.aload_n 0, 1) := by decide +kernel
theorem dX11_back_64 : decode cX11_back 64 = .ok (.getfield 84, 3) := by decide +kernel
theorem dX11_back_67 : decode cX11_back 67 = .ok (.getfield 132, 3) := by decide +kernel
theorem dX11_back_70 : decode cX11_back 70 = .ok (.ireturn, 1) := by decide +kernel
def x_back (N : Nat) (w : aw_W) : Option (Int × aw_W) :=
  if (w 0 14) = 0 then
    some ((-1), w)
  else
    aw_b1 (x_Book_become N w) fun w1 =>
      some (w1 41 4, (aw_up (aw_cpy ((aw_cpy (w1 47) w1 5 0 0 5) 48) (aw_cpy (w1 47) w1 5 0 0 5) 6 0 0 6) 23 4 0))
theorem w_x_back_d {l : Launch} {K : aw_K} (N d : Nat) (hd : 0 ≤ d) : ∀ (w : aw_W) (y : Int) (v : aw_W), x_back N w = some (y, v) → aw_Met l K MX11_back (d + 1) [.inr (.inr 0)] w (some (.inl y), v) := by
  intro w y v h
  unfold x_back at h
  refine aw_enter rfl (Nat.le_of_ble_eq_true rfl) ?_
  show aw_AW l K MX11_back (d + 1) 0 [(0, .inr (.inr 0))] [] w (some (.inl y), v)
  refine aw_aload_n (pc := 0) (q := 0) dX11_back_0 rfl ?_
  refine aw_getf (pc := 1) (v := .inl (w 0 14)) dX11_back_1 fl_RX11_98 (by decide) rfl rfl rfl ?_
  refine aw_if_ne (pc := 4) (tgt := 9) dX11_back_4 (by decide) (fun hc => ?_) (fun hc => ?_)
  · rw [if_neg hc] at h
    refine aw_aload_n (pc := 9) (q := 0) dX11_back_9 rfl ?_
    refine aw_getf (pc := 10) (v := .inr (.inr 41)) dX11_back_10 fl_RX11_84 (by decide) rfl rfl rfl ?_
    refine aw_aload_n (pc := 13) (q := 0) dX11_back_13 rfl ?_
    refine aw_getf (pc := 14) (v := .inr (.inr 44)) dX11_back_14 fl_RX11_88 (by decide) rfl rfl rfl ?_
    obtain ⟨w1, h1, h⟩ := aw_b1s h
    refine aw_callV (pc := 17) (as := [.inr (.inr 44)]) (st := []) (st' := []) dX11_back_17 cv_RX11_329 (by decide) rfl rfl rfl rfl (Nat.le_of_ble_eq_true rfl) (w_x_Book_become N d (by omega) _ _ h1) rfl ?_
    refine aw_aload_n (pc := 20) (q := 0) dX11_back_20 rfl ?_
    refine aw_getf (pc := 21) (v := .inr (.inr 47)) dX11_back_21 fl_RX11_91 (by decide) rfl rfl rfl ?_
    refine aw_iconst (pc := 24) dX11_back_24 ⟨by decide, by decide⟩ ?_
    refine aw_aload_n (pc := 25) (q := 0) dX11_back_25 rfl ?_
    refine aw_getf (pc := 26) (v := .inr (.inr 3)) dX11_back_26 fl_RX11_19 (by decide) rfl rfl rfl ?_
    refine aw_getf (pc := 29) (v := .inr (.inr 5)) dX11_back_29 fl_RX11_151 (by decide) rfl rfl rfl ?_
    refine aw_iconst (pc := 32) dX11_back_32 ⟨by decide, by decide⟩ ?_
    refine aw_iconst (pc := 33) dX11_back_33 ⟨by decide, by decide⟩ ?_
    refine aw_copyW (pc := 34) dX11_back_34 cc_RX11_332 rfl rfl (by decide) (by decide) (by decide) (by decide) (by decide) (by decide) (by decide) (Nat.le_of_ble_eq_true rfl) ?_
    refine aw_aload_n (pc := 37) (q := 0) dX11_back_37 rfl ?_
    refine aw_getf (pc := 38) (v := .inr (.inr 48)) dX11_back_38 fl_RX11_95 (by decide) rfl rfl rfl ?_
    refine aw_iconst (pc := 41) dX11_back_41 ⟨by decide, by decide⟩ ?_
    refine aw_aload_n (pc := 42) (q := 0) dX11_back_42 rfl ?_
    refine aw_getf (pc := 43) (v := .inr (.inr 3)) dX11_back_43 fl_RX11_19 (by decide) rfl rfl rfl ?_
    refine aw_getf (pc := 46) (v := .inr (.inr 6)) dX11_back_46 fl_RX11_144 (by decide) rfl rfl rfl ?_
    refine aw_iconst (pc := 49) dX11_back_49 ⟨by decide, by decide⟩ ?_
    refine aw_bipush (pc := 50) dX11_back_50 (by decide) ⟨by decide, by decide⟩ ?_
    refine aw_copyW (pc := 52) dX11_back_52 cc_RX11_332 rfl rfl (by decide) (by decide) (by decide) (by decide) (by decide) (by decide) (by decide) (Nat.le_of_ble_eq_true rfl) ?_
    refine aw_aload_n (pc := 55) (q := 0) dX11_back_55 rfl ?_
    refine aw_getf (pc := 56) (v := .inr (.inr 23)) dX11_back_56 fl_RX11_54 (by decide) rfl rfl rfl ?_
    refine aw_iconst (pc := 59) dX11_back_59 ⟨by decide, by decide⟩ ?_
    refine aw_putz (pc := 60) dX11_back_60 fp_RX11_133 (by decide) rfl rfl (by decide) ?_
    refine aw_aload_n (pc := 63) (q := 0) dX11_back_63 rfl ?_
    refine aw_getf (pc := 64) (v := .inr (.inr 41)) dX11_back_64 fl_RX11_84 (by decide) rfl rfl rfl ?_
    refine aw_getf (pc := 67) (v := .inl (w1 41 4)) dX11_back_67 fl_RX11_132 (by decide) rfl rfl rfl ?_
    cases h
    exact aw_iret (pc := 70) rfl dX11_back_70
  · rw [if_pos hc] at h
    refine aw_iconst (pc := 7) dX11_back_7 ⟨by decide, by decide⟩ ?_
    cases h
    exact aw_iret (pc := 8) rfl dX11_back_8
theorem w_x_back {l : Launch} {K : aw_K} (N d : Nat) (hd : 1 ≤ d) : ∀ (w : aw_W) (y : Int) (v : aw_W), x_back N w = some (y, v) → aw_Met l K MX11_back (d) [.inr (.inr 0)] w (some (.inl y), v) := by
  obtain ⟨e, rfl⟩ : ∃ e, d = e + 1 := ⟨d - 1, by omega⟩
  exact w_x_back_d N e (by omega)
theorem dX8_put_0 : decode cX8_put 0 = .ok (.iload_n 1, 1) := by decide +kernel
theorem dX8_put_1 : decode cX8_put 1 = .ok (.istore_n 2, 1) := by decide +kernel
theorem dX8_put_2 : decode cX8_put 2 = .ok (.aload_n 0, 1) := by decide +kernel
theorem dX8_put_3 : decode cX8_put 3 = .ok (.getfield 22, 3) := by decide +kernel
theorem dX8_put_6 : decode cX8_put 6 = .ok (.getfield 26, 3) := by decide +kernel
theorem dX8_put_9 : decode cX8_put 9 = .ok (.iconst 1, 1) := by decide +kernel
theorem dX8_put_10 : decode cX8_put 10 = .ok (.isub, 1) := by decide +kernel
theorem dX8_put_11 : decode cX8_put 11 = .ok (.istore_n 3, 1) := by decide +kernel
theorem dX8_put_12 : decode cX8_put 12 = .ok (.iload_n 3, 1) := by decide +kernel
theorem dX8_put_13 : decode cX8_put 13 = .ok (.ifCond .lt 24, 3) := by decide +kernel
theorem dX8_put_16 : decode cX8_put 16 = .ok (.aload_n 0, 1) := by decide +kernel
theorem dX8_put_17 : decode cX8_put 17 = .ok (.getfield 18, 3) := by decide +kernel
theorem dX8_put_20 : decode cX8_put 20 = .ok (.iload_n 3, 1) := by decide +kernel
theorem dX8_put_21 : decode cX8_put 21 = .ok (.iload_n 2, 1) := by decide +kernel
theorem dX8_put_22 : decode cX8_put 22 = .ok (.bipush 10, 2) := by decide +kernel
theorem dX8_put_24 : decode cX8_put 24 = .ok (.irem, 1) := by decide +kernel
theorem dX8_put_25 : decode cX8_put 25 = .ok (.iastore, 1) := by decide +kernel
theorem dX8_put_26 : decode cX8_put 26 = .ok (.iload_n 2, 1) := by decide +kernel
theorem dX8_put_27 : decode cX8_put 27 = .ok (.bipush 10, 2) := by decide +kernel
theorem dX8_put_29 : decode cX8_put 29 = .ok (.idiv, 1) := by decide +kernel
theorem dX8_put_30 : decode cX8_put 30 = .ok (.istore_n 2, 1) := by decide +kernel
theorem dX8_put_31 : decode cX8_put 31 = .ok (.iinc 3 (-1), 3) := by decide +kernel
theorem dX8_put_34 : decode cX8_put 34 = .ok (.goto (-22), 3) := by decide +kernel
theorem dX8_put_37 : decode cX8_put 37 = .ok (.iload_n 2, 1) := by decide +kernel
theorem dX8_put_38 : decode cX8_put 38 = .ok (.ireturn, 1) := by decide +kernel
def x_Sale_put_37 (N : Nat) (x2 : Int) (w : aw_W) : Option (Int × aw_W) :=
  some (x2, w)
theorem w_x_Sale_put_37 {l : Launch} {K : aw_K} (N d : Nat) : ∀ (x2 : Int) (w : aw_W) (y : Int) (v : aw_W), x_Sale_put_37 N x2 w = some (y, v) → aw_AW l K MX8_put (d) 37 [(2, .inl x2)] [] w (some (.inl y), v) := by
  intro x2 w y v h
  unfold x_Sale_put_37 at h
  refine aw_iload_n (pc := 37) (q := 0) dX8_put_37 rfl ?_
  cases h
  exact aw_iret (pc := 38) rfl dX8_put_38
def x_Sale_put_12 (N : Nat) : Nat → Int → Int → aw_W → Option (Int × aw_W)
  | 0, _, _, _ => none
  | n + 1, x2, x3, w =>
    if x3 < 0 then
      x_Sale_put_37 N x2 w
    else
      if 0 ≤ x3 ∧ x3 < 6 then
        x_Sale_put_12 N n (aw_w (Int.tdiv x2 10)) (aw_w (x3 + (-1))) (aw_up w 21 x3.toNat (aw_w (Int.tmod x2 10)))
      else none
theorem w_x_Sale_put_12 {l : Launch} {K : aw_K} (N d : Nat) : ∀ (n : Nat) (x2 x3 : Int) (w : aw_W) (y : Int) (v : aw_W), x_Sale_put_12 N n x2 x3 w = some (y, v) → aw_AW l K MX8_put (d) 12 [(0, .inr (.inr 17)), (2, .inl x2), (3, .inl x3)] [] w (some (.inl y), v) := by
  intro n
  induction n with
  | zero => intro x2 x3 w y v h; rw [x_Sale_put_12] at h; cases h
  | succ n ih =>
    intro x2 x3 w y v h
    rw [x_Sale_put_12] at h
    refine aw_iload_n (pc := 12) (q := 2) dX8_put_12 rfl ?_
    refine aw_if_lt (pc := 13) (tgt := 37) dX8_put_13 (by decide) (fun hc => ?_) (fun hc => ?_)
    · rw [if_pos hc] at h
      exact aw_sel [1] rfl (w_x_Sale_put_37 N d  _ _ _ _ h)
    · rw [if_neg hc] at h
      refine aw_aload_n (pc := 16) (q := 0) dX8_put_16 rfl ?_
      refine aw_getf (pc := 17) (v := .inr (.inr 21)) dX8_put_17 fl_RX8_18 (by decide) rfl rfl rfl ?_
      refine aw_iload_n (pc := 20) (q := 2) dX8_put_20 rfl ?_
      refine aw_iload_n (pc := 21) (q := 1) dX8_put_21 rfl ?_
      refine aw_bipush (pc := 22) dX8_put_22 (by decide) ⟨by decide, by decide⟩ ?_
      refine aw_irem (pc := 24) dX8_put_24 (by decide) ?_
      obtain ⟨hb, h⟩ := aw_cks h
      refine aw_iast (pc := 25) dX8_put_25 rfl hb.1 hb.2 ?_
      refine aw_iload_n (pc := 26) (q := 1) dX8_put_26 rfl ?_
      refine aw_bipush (pc := 27) dX8_put_27 (by decide) ⟨by decide, by decide⟩ ?_
      refine aw_idiv (pc := 29) dX8_put_29 (by decide) ?_
      refine aw_istore_n (pc := 30) (ls' := [(2, .inl (aw_w (Int.tdiv x2 10))), (0, .inr (.inr 17)), (3, .inl x3)]) dX8_put_30 (by decide) rfl ?_
      refine aw_iinc (pc := 31) (q := 2) (ls' := [(3, .inl (aw_w (x3 + (-1)))), (2, .inl (aw_w (Int.tdiv x2 10))), (0, .inr (.inr 17))]) dX8_put_31 rfl (by decide) rfl ?_
      refine aw_goto (pc := 34) (tgt := 12) dX8_put_34 (by decide) ?_
      exact aw_sel [2, 1, 0] rfl (ih _ _ _ _ _ h)
def x_Sale_put (N : Nat) (x1 : Int) (w : aw_W) : Option (Int × aw_W) :=
  x_Sale_put_12 N N x1 (aw_w ((w 3 4) - 1)) w
theorem w_x_Sale_put {l : Launch} {K : aw_K} (N d : Nat) (hd : 0 ≤ d) : ∀ (x1 : Int) (w : aw_W) (y : Int) (v : aw_W), x_Sale_put N x1 w = some (y, v) → aw_Met l K MX8_put (d) [.inr (.inr 17), .inl x1] w (some (.inl y), v) := by
  intro x1 w y v h
  unfold x_Sale_put at h
  refine aw_enter rfl (Nat.le_of_ble_eq_true rfl) ?_
  show aw_AW l K MX8_put (d) 0 [(0, .inr (.inr 17)), (1, .inl x1)] [] w (some (.inl y), v)
  refine aw_iload_n (pc := 0) (q := 1) dX8_put_0 rfl ?_
  refine aw_istore_n (pc := 1) (ls' := [(2, .inl x1), (0, .inr (.inr 17)), (1, .inl x1)]) dX8_put_1 (by decide) rfl ?_
  refine aw_aload_n (pc := 2) (q := 1) dX8_put_2 rfl ?_
  refine aw_getf (pc := 3) (v := .inr (.inr 3)) dX8_put_3 fl_RX8_22 (by decide) rfl rfl rfl ?_
  refine aw_getf (pc := 6) (v := .inl (w 3 4)) dX8_put_6 fl_RX8_26 (by decide) rfl rfl rfl ?_
  refine aw_iconst (pc := 9) dX8_put_9 ⟨by decide, by decide⟩ ?_
  refine aw_isub (pc := 10) dX8_put_10 ?_
  refine aw_istore_n (pc := 11) (ls' := [(3, .inl (aw_w ((w 3 4) - 1))), (2, .inl x1), (0, .inr (.inr 17)), (1, .inl x1)]) dX8_put_11 (by decide) rfl ?_
  exact aw_sel [2, 1, 0] rfl (w_x_Sale_put_12 N d  N _ _ _ _ _ h)
theorem dX8_take_0 : decode cX8_take 0 = .ok (.aload_n 0, 1) := by decide +kernel
theorem dX8_take_1 : decode cX8_take 1 = .ok (.getfield 22, 3) := by decide +kernel
theorem dX8_take_4 : decode cX8_take 4 = .ok (.getfield 26, 3) := by decide +kernel
theorem dX8_take_7 : decode cX8_take 7 = .ok (.ifCond .eq 15, 3) := by decide +kernel
theorem dX8_take_10 : decode cX8_take 10 = .ok (.iload_n 1, 1) := by decide +kernel
theorem dX8_take_11 : decode cX8_take 11 = .ok (.ifCond .lt 11, 3) := by decide +kernel
theorem dX8_take_14 : decode cX8_take 14 = .ok (.aload_n 0, 1) := by decide +kernel
theorem dX8_take_15 : decode cX8_take 15 = .ok (.iload_n 1, 1) := by decide +kernel
theorem dX8_take_16 : decode cX8_take 16 = .ok (.invokevirtual 32, 3) := by decide +kernel
theorem dX8_take_19 : decode cX8_take 19 = .ok (.ifCond .eq 5, 3) := by decide +kernel
theorem dX8_take_22 : decode cX8_take 22 = .ok (.iconst 0, 1) := by decide +kernel
theorem dX8_take_23 : decode cX8_take 23 = .ok (.ireturn, 1) := by decide +kernel
theorem dX8_take_24 : decode cX8_take 24 = .ok (.iconst 0, 1) := by decide +kernel
theorem dX8_take_25 : decode cX8_take 25 = .ok (.istore_n 2, 1) := by decide +kernel
theorem dX8_take_26 : decode cX8_take 26 = .ok (.iload_n 2, 1) := by decide +kernel
theorem dX8_take_27 : decode cX8_take 27 = .ok (.aload_n 0, 1) := by decide +kernel
theorem dX8_take_28 : decode cX8_take 28 = .ok (.getfield 22, 3) := by decide +kernel
theorem dX8_take_31 : decode cX8_take 31 = .ok (.getfield 26, 3) := by decide +kernel
theorem dX8_take_34 : decode cX8_take 34 = .ok (.if_icmp .ge 29, 3) := by decide +kernel
theorem dX8_take_37 : decode cX8_take 37 = .ok (.aload_n 0, 1) := by decide +kernel
theorem dX8_take_38 : decode cX8_take 38 = .ok (.getfield 18, 3) := by decide +kernel
theorem dX8_take_41 : decode cX8_take 41 = .ok (.iload_n 2, 1) := by decide +kernel
theorem dX8_take_42 : decode cX8_take 42 = .ok (.iaload, 1) := by decide +kernel
theorem dX8_take_43 : decode cX8_take 43 = .ok (.aload_n 0, 1) := by decide +kernel
theorem dX8_take_44 : decode cX8_take 44 = .ok (.getfield 22, 3) := by decide +kernel
theorem dX8_take_47 : decode cX8_take 47 = .ok (.getfield 36, 3) := by decide +kernel
theorem dX8_take_50 : decode cX8_take 50 = .ok (.iconst 4, 1) := by decide +kernel
theorem dX8_take_51 : decode cX8_take 51 = .ok (.iaload, 1) := by decide +kernel
theorem dX8_take_52 : decode cX8_take 52 = .ok (.if_icmp .le 5, 3) := by decide +kernel
theorem dX8_take_55 : decode cX8_take 55 = .ok (.iconst 0, 1) := by decide +kernel
theorem dX8_take_56 : decode cX8_take 56 = .ok (.ireturn, 1) := by decide +kernel
theorem dX8_take_57 : decode cX8_take 57 = .ok (.iinc 2 1, 3) := by decide +kernel
theorem dX8_take_60 : decode cX8_take 60 = .ok (.goto (-34), 3) := by decide +kernel
theorem dX8_take_63 : decode cX8_take 63 = .ok (.iconst 1, 1) := by decide +kernel
theorem dX8_take_64 : decode cX8_take 64 = .ok (.ireturn, 1) := by decide +kernel
def x_Sale_take_22 (N : Nat) (w : aw_W) : Option (Int × aw_W) :=
  some (0, w)
theorem w_x_Sale_take_22 {l : Launch} {K : aw_K} (N d : Nat) (hd : 0 ≤ d) : ∀ (w : aw_W) (y : Int) (v : aw_W), x_Sale_take_22 N w = some (y, v) → aw_AW l K MX8_take (d + 1) 22 [] [] w (some (.inl y), v) := by
  intro w y v h
  unfold x_Sale_take_22 at h
  refine aw_iconst (pc := 22) dX8_take_22 ⟨by decide, by decide⟩ ?_
  cases h
  exact aw_zret (pc := 23) rfl (by decide) dX8_take_23
def x_Sale_take_63 (N : Nat) (w : aw_W) : Option (Int × aw_W) :=
  some (1, w)
theorem w_x_Sale_take_63 {l : Launch} {K : aw_K} (N d : Nat) (hd : 0 ≤ d) : ∀ (w : aw_W) (y : Int) (v : aw_W), x_Sale_take_63 N w = some (y, v) → aw_AW l K MX8_take (d + 1) 63 [] [] w (some (.inl y), v) := by
  intro w y v h
  unfold x_Sale_take_63 at h
  refine aw_iconst (pc := 63) dX8_take_63 ⟨by decide, by decide⟩ ?_
  cases h
  exact aw_zret (pc := 64) rfl (by decide) dX8_take_64
def x_Sale_take_55 (N : Nat) (w : aw_W) : Option (Int × aw_W) :=
  some (0, w)
theorem w_x_Sale_take_55 {l : Launch} {K : aw_K} (N d : Nat) (hd : 0 ≤ d) : ∀ (w : aw_W) (y : Int) (v : aw_W), x_Sale_take_55 N w = some (y, v) → aw_AW l K MX8_take (d + 1) 55 [] [] w (some (.inl y), v) := by
  intro w y v h
  unfold x_Sale_take_55 at h
  refine aw_iconst (pc := 55) dX8_take_55 ⟨by decide, by decide⟩ ?_
  cases h
  exact aw_zret (pc := 56) rfl (by decide) dX8_take_56
def x_Sale_take_26 (N : Nat) : Nat → Int → aw_W → Option (Int × aw_W)
  | 0, _, _ => none
  | n + 1, x2, w =>
    if (w 3 4) ≤ x2 then
      x_Sale_take_63 N w
    else
      if 0 ≤ x2 ∧ x2 < 6 then
        if (w 21 x2.toNat) ≤ (w 5 4) then
          x_Sale_take_26 N n (aw_w (x2 + 1)) w
        else
          x_Sale_take_55 N w
      else none
theorem w_x_Sale_take_26 {l : Launch} {K : aw_K} (N d : Nat) (hd : 0 ≤ d) : ∀ (n : Nat) (x2 : Int) (w : aw_W) (y : Int) (v : aw_W), x_Sale_take_26 N n x2 w = some (y, v) → aw_AW l K MX8_take (d + 1) 26 [(0, .inr (.inr 17)), (2, .inl x2)] [] w (some (.inl y), v) := by
  intro n
  induction n with
  | zero => intro x2 w y v h; rw [x_Sale_take_26] at h; cases h
  | succ n ih =>
    intro x2 w y v h
    rw [x_Sale_take_26] at h
    refine aw_iload_n (pc := 26) (q := 1) dX8_take_26 rfl ?_
    refine aw_aload_n (pc := 27) (q := 0) dX8_take_27 rfl ?_
    refine aw_getf (pc := 28) (v := .inr (.inr 3)) dX8_take_28 fl_RX8_22 (by decide) rfl rfl rfl ?_
    refine aw_getf (pc := 31) (v := .inl (w 3 4)) dX8_take_31 fl_RX8_26 (by decide) rfl rfl rfl ?_
    refine aw_icmp_ge (pc := 34) (tgt := 63) dX8_take_34 (by decide) (fun hc => ?_) (fun hc => ?_)
    · rw [if_pos hc] at h
      exact aw_sel [] rfl (w_x_Sale_take_63 N d hd  _ _ _ h)
    · rw [if_neg hc] at h
      refine aw_aload_n (pc := 37) (q := 0) dX8_take_37 rfl ?_
      refine aw_getf (pc := 38) (v := .inr (.inr 21)) dX8_take_38 fl_RX8_18 (by decide) rfl rfl rfl ?_
      refine aw_iload_n (pc := 41) (q := 1) dX8_take_41 rfl ?_
      obtain ⟨hb, h⟩ := aw_cks h
      refine aw_ialdv (pc := 42) (v := w 21 x2.toNat) dX8_take_42 rfl hb.1 hb.2 rfl ?_
      refine aw_aload_n (pc := 43) (q := 0) dX8_take_43 rfl ?_
      refine aw_getf (pc := 44) (v := .inr (.inr 3)) dX8_take_44 fl_RX8_22 (by decide) rfl rfl rfl ?_
      refine aw_getf (pc := 47) (v := .inr (.inr 5)) dX8_take_47 fl_RX8_36 (by decide) rfl rfl rfl ?_
      refine aw_iconst (pc := 50) dX8_take_50 ⟨by decide, by decide⟩ ?_
      refine aw_ialdv (pc := 51) (v := w 5 4) dX8_take_51 rfl (by decide) (by decide) rfl ?_
      refine aw_icmp_le (pc := 52) (tgt := 57) dX8_take_52 (by decide) (fun hc => ?_) (fun hc => ?_)
      · rw [if_pos hc] at h
        refine aw_iinc (pc := 57) (q := 1) (ls' := [(2, .inl (aw_w (x2 + 1))), (0, .inr (.inr 17))]) dX8_take_57 rfl (by decide) rfl ?_
        refine aw_goto (pc := 60) (tgt := 26) dX8_take_60 (by decide) ?_
        exact aw_sel [1, 0] rfl (ih _ _ _ _ h)
      · rw [if_neg hc] at h
        exact aw_sel [] rfl (w_x_Sale_take_55 N d hd  _ _ _ h)
def x_Sale_take (N : Nat) (x1 : Int) (w : aw_W) : Option (Int × aw_W) :=
  if (w 3 4) = 0 then
    x_Sale_take_22 N w
  else
    if x1 < 0 then
      x_Sale_take_22 N w
    else
      aw_b2 (x_Sale_put N x1 w) fun r1 w1 =>
        if r1 = 0 then
          x_Sale_take_26 N N 0 w1
        else
          x_Sale_take_22 N w1
theorem w_x_Sale_take_d {l : Launch} {K : aw_K} (N d : Nat) (hd : 0 ≤ d) : ∀ (x1 : Int) (w : aw_W) (y : Int) (v : aw_W), x_Sale_take N x1 w = some (y, v) → aw_Met l K MX8_take (d + 1) [.inr (.inr 17), .inl x1] w (some (.inl y), v) := by
  intro x1 w y v h
  unfold x_Sale_take at h
  refine aw_enter rfl (Nat.le_of_ble_eq_true rfl) ?_
  show aw_AW l K MX8_take (d + 1) 0 [(0, .inr (.inr 17)), (1, .inl x1)] [] w (some (.inl y), v)
  refine aw_aload_n (pc := 0) (q := 0) dX8_take_0 rfl ?_
  refine aw_getf (pc := 1) (v := .inr (.inr 3)) dX8_take_1 fl_RX8_22 (by decide) rfl rfl rfl ?_
  refine aw_getf (pc := 4) (v := .inl (w 3 4)) dX8_take_4 fl_RX8_26 (by decide) rfl rfl rfl ?_
  refine aw_if_eq (pc := 7) (tgt := 22) dX8_take_7 (by decide) (fun hc => ?_) (fun hc => ?_)
  · rw [if_pos hc] at h
    exact aw_sel [] rfl (w_x_Sale_take_22 N d hd  _ _ _ h)
  · rw [if_neg hc] at h
    refine aw_iload_n (pc := 10) (q := 1) dX8_take_10 rfl ?_
    refine aw_if_lt (pc := 11) (tgt := 22) dX8_take_11 (by decide) (fun hc => ?_) (fun hc => ?_)
    · rw [if_pos hc] at h
      exact aw_sel [] rfl (w_x_Sale_take_22 N d hd  _ _ _ h)
    · rw [if_neg hc] at h
      refine aw_aload_n (pc := 14) (q := 0) dX8_take_14 rfl ?_
      refine aw_iload_n (pc := 15) (q := 1) dX8_take_15 rfl ?_
      obtain ⟨r1, w1, h1, h⟩ := aw_b2s h
      refine aw_callV (pc := 16) (as := [.inl x1]) (st := []) (st' := [.inl r1]) dX8_take_16 cv_RX8_32 (by decide) rfl rfl rfl rfl (Nat.le_of_ble_eq_true rfl) (w_x_Sale_put N d (by omega) _ _ _ _ h1) rfl ?_
      refine aw_if_eq (pc := 19) (tgt := 24) dX8_take_19 (by decide) (fun hc => ?_) (fun hc => ?_)
      · rw [if_pos hc] at h
        refine aw_iconst (pc := 24) dX8_take_24 ⟨by decide, by decide⟩ ?_
        refine aw_istore_n (pc := 25) (ls' := [(2, .inl 0), (0, .inr (.inr 17)), (1, .inl x1)]) dX8_take_25 (by decide) rfl ?_
        exact aw_sel [1, 0] rfl (w_x_Sale_take_26 N d hd  N _ _ _ _ h)
      · rw [if_neg hc] at h
        exact aw_sel [] rfl (w_x_Sale_take_22 N d hd  _ _ _ h)
theorem w_x_Sale_take {l : Launch} {K : aw_K} (N d : Nat) (hd : 1 ≤ d) : ∀ (x1 : Int) (w : aw_W) (y : Int) (v : aw_W), x_Sale_take N x1 w = some (y, v) → aw_Met l K MX8_take (d) [.inr (.inr 17), .inl x1] w (some (.inl y), v) := by
  obtain ⟨e, rfl⟩ : ∃ e, d = e + 1 := ⟨d - 1, by omega⟩
  exact w_x_Sale_take_d N e (by omega)
theorem dX2_clear_0 : decode cX2_clear 0 = .ok (.aload_n 0, 1) := by decide +kernel
theorem dX2_clear_1 : decode cX2_clear 1 = .ok (.iconst 0, 1) := by decide +kernel
theorem dX2_clear_2 : decode cX2_clear 2 = .ok (.putfield 18, 3) := by decide +kernel
theorem dX2_clear_5 : decode cX2_clear 5 = .ok (.return_, 1) := by decide +kernel
def x_Order_clear (N : Nat) (w : aw_W) : Option (aw_W) :=
  some (aw_up w 18 2 0)
theorem w_x_Order_clear {l : Launch} {K : aw_K} (N d : Nat) (hd : 0 ≤ d) : ∀ (w v : aw_W), x_Order_clear N w = some v → aw_Met l K MX2_clear (d) [.inr (.inr 18)] w (none, v) := by
  intro w v h
  unfold x_Order_clear at h
  refine aw_enter rfl (Nat.le_of_ble_eq_true rfl) ?_
  show aw_AW l K MX2_clear (d) 0 [(0, .inr (.inr 18))] [] w (none, v)
  refine aw_aload_n (pc := 0) (q := 0) dX2_clear_0 rfl ?_
  refine aw_iconst (pc := 1) dX2_clear_1 ⟨by decide, by decide⟩ ?_
  refine aw_puti (pc := 2) dX2_clear_2 fp_RX2_18 (by decide) rfl rfl ?_
  cases h
  exact aw_vret (pc := 5) rfl dX2_clear_5
theorem dX2_alike_0 : decode cX2_alike 0 = .ok (.iload_n 1, 1) := by decide +kernel
theorem dX2_alike_1 : decode cX2_alike 1 = .ok (.ifCond .lt 30, 3) := by decide +kernel
theorem dX2_alike_4 : decode cX2_alike 4 = .ok (.iload_n 2, 1) := by decide +kernel
theorem dX2_alike_5 : decode cX2_alike 5 = .ok (.aload_n 0, 1) := by decide +kernel
theorem dX2_alike_6 : decode cX2_alike 6 = .ok (.getfield 18, 3) := by decide +kernel
theorem dX2_alike_9 : decode cX2_alike 9 = .ok (.if_icmp .ge 22, 3) := by decide +kernel
theorem dX2_alike_12 : decode cX2_alike 12 = .ok (.aload_n 0, 1) := by decide +kernel
theorem dX2_alike_13 : decode cX2_alike 13 = .ok (.getfield 15, 3) := by decide +kernel
theorem dX2_alike_16 : decode cX2_alike 16 = .ok (.iload_n 1, 1) := by decide +kernel
theorem dX2_alike_17 : decode cX2_alike 17 = .ok (.iaload, 1) := by decide +kernel
theorem dX2_alike_18 : decode cX2_alike 18 = .ok (.aload_n 0, 1) := by decide +kernel
theorem dX2_alike_19 : decode cX2_alike 19 = .ok (.getfield 15, 3) := by decide +kernel
theorem dX2_alike_22 : decode cX2_alike 22 = .ok (.iload_n 2, 1) := by decide +kernel
theorem dX2_alike_23 : decode cX2_alike 23 = .ok (.iaload, 1) := by decide +kernel
theorem dX2_alike_24 : decode cX2_alike 24 = .ok (.if_icmp .ne 7, 3) := by decide +kernel
theorem dX2_alike_27 : decode cX2_alike 27 = .ok (.iconst 1, 1) := by decide +kernel
theorem dX2_alike_28 : decode cX2_alike 28 = .ok (.goto 4, 3) := by decide +kernel
theorem dX2_alike_31 : decode cX2_alike 31 = .ok (.iconst 0, 1) := by decide +kernel
theorem dX2_alike_32 : decode cX2_alike 32 = .ok (.ireturn, 1) := by decide +kernel
def x_Order_alike_32 (N : Nat) (s0 : Int) (w : aw_W) : Option (Int × aw_W) :=
  if s0 = 0 ∨ s0 = 1 then
    some (s0, w)
  else none
theorem w_x_Order_alike_32 {l : Launch} {K : aw_K} (N d : Nat) : ∀ (s0 : Int) (w : aw_W) (y : Int) (v : aw_W), x_Order_alike_32 N s0 w = some (y, v) → aw_AW l K MX2_alike (d) 32 [] [.inl s0] w (some (.inl y), v) := by
  intro s0 w y v h
  unfold x_Order_alike_32 at h
  obtain ⟨hz, h⟩ := aw_cks h
  cases h
  exact aw_zret (pc := 32) rfl hz dX2_alike_32
def x_Order_alike_31 (N : Nat) (w : aw_W) : Option (Int × aw_W) :=
  x_Order_alike_32 N 0 w
theorem w_x_Order_alike_31 {l : Launch} {K : aw_K} (N d : Nat) : ∀ (w : aw_W) (y : Int) (v : aw_W), x_Order_alike_31 N w = some (y, v) → aw_AW l K MX2_alike (d) 31 [] [] w (some (.inl y), v) := by
  intro w y v h
  unfold x_Order_alike_31 at h
  refine aw_iconst (pc := 31) dX2_alike_31 ⟨by decide, by decide⟩ ?_
  exact aw_sel [] rfl (w_x_Order_alike_32 N d  _ _ _ _ h)
def x_Order_alike (N : Nat) (x1 x2 : Int) (w : aw_W) : Option (Int × aw_W) :=
  if x1 < 0 then
    x_Order_alike_31 N w
  else
    if (w 18 2) ≤ x2 then
      x_Order_alike_31 N w
    else
      if 0 ≤ x1 ∧ x1 < 6 then
        if 0 ≤ x2 ∧ x2 < 6 then
          if (w 20 x1.toNat) = (w 20 x2.toNat) then
            x_Order_alike_32 N 1 w
          else
            x_Order_alike_31 N w
        else none
      else none
theorem w_x_Order_alike {l : Launch} {K : aw_K} (N d : Nat) (hd : 0 ≤ d) : ∀ (x1 x2 : Int) (w : aw_W) (y : Int) (v : aw_W), x_Order_alike N x1 x2 w = some (y, v) → aw_Met l K MX2_alike (d) [.inr (.inr 18), .inl x1, .inl x2] w (some (.inl y), v) := by
  intro x1 x2 w y v h
  unfold x_Order_alike at h
  refine aw_enter rfl (Nat.le_of_ble_eq_true rfl) ?_
  show aw_AW l K MX2_alike (d) 0 [(0, .inr (.inr 18)), (1, .inl x1), (2, .inl x2)] [] w (some (.inl y), v)
  refine aw_iload_n (pc := 0) (q := 1) dX2_alike_0 rfl ?_
  refine aw_if_lt (pc := 1) (tgt := 31) dX2_alike_1 (by decide) (fun hc => ?_) (fun hc => ?_)
  · rw [if_pos hc] at h
    exact aw_sel [] rfl (w_x_Order_alike_31 N d  _ _ _ h)
  · rw [if_neg hc] at h
    refine aw_iload_n (pc := 4) (q := 2) dX2_alike_4 rfl ?_
    refine aw_aload_n (pc := 5) (q := 0) dX2_alike_5 rfl ?_
    refine aw_getf (pc := 6) (v := .inl (w 18 2)) dX2_alike_6 fl_RX2_18 (by decide) rfl rfl rfl ?_
    refine aw_icmp_ge (pc := 9) (tgt := 31) dX2_alike_9 (by decide) (fun hc => ?_) (fun hc => ?_)
    · rw [if_pos hc] at h
      exact aw_sel [] rfl (w_x_Order_alike_31 N d  _ _ _ h)
    · rw [if_neg hc] at h
      refine aw_aload_n (pc := 12) (q := 0) dX2_alike_12 rfl ?_
      refine aw_getf (pc := 13) (v := .inr (.inr 20)) dX2_alike_13 fl_RX2_15 (by decide) rfl rfl rfl ?_
      refine aw_iload_n (pc := 16) (q := 1) dX2_alike_16 rfl ?_
      obtain ⟨hb, h⟩ := aw_cks h
      refine aw_ialdv (pc := 17) (v := w 20 x1.toNat) dX2_alike_17 rfl hb.1 hb.2 rfl ?_
      refine aw_aload_n (pc := 18) (q := 0) dX2_alike_18 rfl ?_
      refine aw_getf (pc := 19) (v := .inr (.inr 20)) dX2_alike_19 fl_RX2_15 (by decide) rfl rfl rfl ?_
      refine aw_iload_n (pc := 22) (q := 2) dX2_alike_22 rfl ?_
      obtain ⟨hb, h⟩ := aw_cks h
      refine aw_ialdv (pc := 23) (v := w 20 x2.toNat) dX2_alike_23 rfl hb.1 hb.2 rfl ?_
      refine aw_icmp_ne (pc := 24) (tgt := 31) dX2_alike_24 (by decide) (fun hc => ?_) (fun hc => ?_)
      · rw [if_neg hc] at h
        exact aw_sel [] rfl (w_x_Order_alike_31 N d  _ _ _ h)
      · rw [if_pos hc] at h
        refine aw_iconst (pc := 27) dX2_alike_27 ⟨by decide, by decide⟩ ?_
        refine aw_goto (pc := 28) (tgt := 32) dX2_alike_28 (by decide) ?_
        exact aw_sel [] rfl (w_x_Order_alike_32 N d  _ _ _ _ h)
theorem dX2_holder_0 : decode cX2_holder 0 = .ok (.iload_n 1, 1) := by decide +kernel
theorem dX2_holder_1 : decode cX2_holder 1 = .ok (.iconst 1, 1) := by decide +kernel
theorem dX2_holder_2 : decode cX2_holder 2 = .ok (.isub, 1) := by decide +kernel
theorem dX2_holder_3 : decode cX2_holder 3 = .ok (.istore_n 3, 1) := by decide +kernel
theorem dX2_holder_4 : decode cX2_holder 4 = .ok (.iload_n 3, 1) := by decide +kernel
theorem dX2_holder_5 : decode cX2_holder 5 = .ok (.ifCond .lt 11, 3) := by decide +kernel
theorem dX2_holder_8 : decode cX2_holder 8 = .ok (.iload_n 3, 1) := by decide +kernel
theorem dX2_holder_9 : decode cX2_holder 9 = .ok (.aload_n 0, 1) := by decide +kernel
theorem dX2_holder_10 : decode cX2_holder 10 = .ok (.getfield 18, 3) := by decide +kernel
theorem dX2_holder_13 : decode cX2_holder 13 = .ok (.if_icmp .lt 5, 3) := by decide +kernel
theorem dX2_holder_16 : decode cX2_holder 16 = .ok (.iconst (-1), 1) := by decide +kernel
theorem dX2_holder_17 : decode cX2_holder 17 = .ok (.ireturn, 1) := by decide +kernel
theorem dX2_holder_18 : decode cX2_holder 18 = .ok (.iload_n 2, 1) := by decide +kernel
theorem dX2_holder_19 : decode cX2_holder 19 = .ok (.iconst 1, 1) := by decide +kernel
theorem dX2_holder_20 : decode cX2_holder 20 = .ok (.if_icmp .ne 29, 3) := by decide +kernel
theorem dX2_holder_23 : decode cX2_holder 23 = .ok (.aload_n 0, 1) := by decide +kernel
theorem dX2_holder_24 : decode cX2_holder 24 = .ok (.iload_n 3, 1) := by decide +kernel
theorem dX2_holder_25 : decode cX2_holder 25 = .ok (.iconst 1, 1) := by decide +kernel
theorem dX2_holder_26 : decode cX2_holder 26 = .ok (.isub, 1) := by decide +kernel
theorem dX2_holder_27 : decode cX2_holder 27 = .ok (.iload_n 3, 1) := by decide +kernel
theorem dX2_holder_28 : decode cX2_holder 28 = .ok (.invokevirtual 22, 3) := by decide +kernel
theorem dX2_holder_31 : decode cX2_holder 31 = .ok (.ifCond .ne 14, 3) := by decide +kernel
theorem dX2_holder_34 : decode cX2_holder 34 = .ok (.aload_n 0, 1) := by decide +kernel
theorem dX2_holder_35 : decode cX2_holder 35 = .ok (.iload_n 3, 1) := by decide +kernel
theorem dX2_holder_36 : decode cX2_holder 36 = .ok (.iload_n 3, 1) := by decide +kernel
theorem dX2_holder_37 : decode cX2_holder 37 = .ok (.iconst 1, 1) := by decide +kernel
theorem dX2_holder_38 : decode cX2_holder 38 = .ok (.iadd, 1) := by decide +kernel
theorem dX2_holder_39 : decode cX2_holder 39 = .ok (.invokevirtual 22, 3) := by decide +kernel
theorem dX2_holder_42 : decode cX2_holder 42 = .ok (.ifCond .eq 7, 3) := by decide +kernel
theorem dX2_holder_45 : decode cX2_holder 45 = .ok (.iconst (-1), 1) := by decide +kernel
theorem dX2_holder_46 : decode cX2_holder 46 = .ok (.goto 9, 3) := by decide +kernel
theorem dX2_holder_49 : decode cX2_holder 49 = .ok (.aload_n 0, 1) := by decide +kernel
theorem dX2_holder_50 : decode cX2_holder 50 = .ok (.getfield 9, 3) := by decide +kernel
theorem dX2_holder_53 : decode cX2_holder 53 = .ok (.iload_n 3, 1) := by decide +kernel
theorem dX2_holder_54 : decode cX2_holder 54 = .ok (.iaload, 1) := by decide +kernel
theorem dX2_holder_55 : decode cX2_holder 55 = .ok (.ireturn, 1) := by decide +kernel
def x_Order_holder_16 (N : Nat) (w : aw_W) : Option (Int × aw_W) :=
  some ((-1), w)
theorem w_x_Order_holder_16 {l : Launch} {K : aw_K} (N d : Nat) (hd : 0 ≤ d) : ∀ (w : aw_W) (y : Int) (v : aw_W), x_Order_holder_16 N w = some (y, v) → aw_AW l K MX2_holder (d + 1) 16 [] [] w (some (.inl y), v) := by
  intro w y v h
  unfold x_Order_holder_16 at h
  refine aw_iconst (pc := 16) dX2_holder_16 ⟨by decide, by decide⟩ ?_
  cases h
  exact aw_iret (pc := 17) rfl dX2_holder_17
def x_Order_holder_55 (N : Nat) (s0 : Int) (w : aw_W) : Option (Int × aw_W) :=
  some (s0, w)
theorem w_x_Order_holder_55 {l : Launch} {K : aw_K} (N d : Nat) (hd : 0 ≤ d) : ∀ (s0 : Int) (w : aw_W) (y : Int) (v : aw_W), x_Order_holder_55 N s0 w = some (y, v) → aw_AW l K MX2_holder (d + 1) 55 [] [.inl s0] w (some (.inl y), v) := by
  intro s0 w y v h
  unfold x_Order_holder_55 at h
  cases h
  exact aw_iret (pc := 55) rfl dX2_holder_55
def x_Order_holder_49 (N : Nat) (x3 : Int) (w : aw_W) : Option (Int × aw_W) :=
  if 0 ≤ x3 ∧ x3 < 6 then
    x_Order_holder_55 N (w 19 x3.toNat) w
  else none
theorem w_x_Order_holder_49 {l : Launch} {K : aw_K} (N d : Nat) (hd : 0 ≤ d) : ∀ (x3 : Int) (w : aw_W) (y : Int) (v : aw_W), x_Order_holder_49 N x3 w = some (y, v) → aw_AW l K MX2_holder (d + 1) 49 [(0, .inr (.inr 18)), (3, .inl x3)] [] w (some (.inl y), v) := by
  intro x3 w y v h
  unfold x_Order_holder_49 at h
  refine aw_aload_n (pc := 49) (q := 0) dX2_holder_49 rfl ?_
  refine aw_getf (pc := 50) (v := .inr (.inr 19)) dX2_holder_50 fl_RX2_9 (by decide) rfl rfl rfl ?_
  refine aw_iload_n (pc := 53) (q := 1) dX2_holder_53 rfl ?_
  obtain ⟨hb, h⟩ := aw_cks h
  refine aw_ialdv (pc := 54) (v := w 19 x3.toNat) dX2_holder_54 rfl hb.1 hb.2 rfl ?_
  exact aw_sel [] rfl (w_x_Order_holder_55 N d hd  _ _ _ _ h)
def x_Order_holder_45 (N : Nat) (w : aw_W) : Option (Int × aw_W) :=
  x_Order_holder_55 N (-1) w
theorem w_x_Order_holder_45 {l : Launch} {K : aw_K} (N d : Nat) (hd : 0 ≤ d) : ∀ (w : aw_W) (y : Int) (v : aw_W), x_Order_holder_45 N w = some (y, v) → aw_AW l K MX2_holder (d + 1) 45 [] [] w (some (.inl y), v) := by
  intro w y v h
  unfold x_Order_holder_45 at h
  refine aw_iconst (pc := 45) dX2_holder_45 ⟨by decide, by decide⟩ ?_
  refine aw_goto (pc := 46) (tgt := 55) dX2_holder_46 (by decide) ?_
  exact aw_sel [] rfl (w_x_Order_holder_55 N d hd  _ _ _ _ h)
def x_Order_holder (N : Nat) (x1 x2 : Int) (w : aw_W) : Option (Int × aw_W) :=
  if (aw_w (x1 - 1)) < 0 then
    x_Order_holder_16 N w
  else
    if (aw_w (x1 - 1)) < (w 18 2) then
      if x2 = 1 then
        aw_b2 (x_Order_alike N (aw_w ((aw_w (x1 - 1)) - 1)) (aw_w (x1 - 1)) w) fun r1 w1 =>
          if r1 = 0 then
            aw_b2 (x_Order_alike N (aw_w (x1 - 1)) (aw_w ((aw_w (x1 - 1)) + 1)) w1) fun r2 w2 =>
              if r2 = 0 then
                x_Order_holder_49 N (aw_w (x1 - 1)) w2
              else
                x_Order_holder_45 N w2
          else
            x_Order_holder_45 N w1
      else
        x_Order_holder_49 N (aw_w (x1 - 1)) w
    else
      x_Order_holder_16 N w
theorem w_x_Order_holder_d {l : Launch} {K : aw_K} (N d : Nat) (hd : 0 ≤ d) : ∀ (x1 x2 : Int) (w : aw_W) (y : Int) (v : aw_W), x_Order_holder N x1 x2 w = some (y, v) → aw_Met l K MX2_holder (d + 1) [.inr (.inr 18), .inl x1, .inl x2] w (some (.inl y), v) := by
  intro x1 x2 w y v h
  unfold x_Order_holder at h
  refine aw_enter rfl (Nat.le_of_ble_eq_true rfl) ?_
  show aw_AW l K MX2_holder (d + 1) 0 [(0, .inr (.inr 18)), (1, .inl x1), (2, .inl x2)] [] w (some (.inl y), v)
  refine aw_iload_n (pc := 0) (q := 1) dX2_holder_0 rfl ?_
  refine aw_iconst (pc := 1) dX2_holder_1 ⟨by decide, by decide⟩ ?_
  refine aw_isub (pc := 2) dX2_holder_2 ?_
  refine aw_istore_n (pc := 3) (ls' := [(3, .inl (aw_w (x1 - 1))), (0, .inr (.inr 18)), (1, .inl x1), (2, .inl x2)]) dX2_holder_3 (by decide) rfl ?_
  refine aw_iload_n (pc := 4) (q := 0) dX2_holder_4 rfl ?_
  refine aw_if_lt (pc := 5) (tgt := 16) dX2_holder_5 (by decide) (fun hc => ?_) (fun hc => ?_)
  · rw [if_pos hc] at h
    exact aw_sel [] rfl (w_x_Order_holder_16 N d hd  _ _ _ h)
  · rw [if_neg hc] at h
    refine aw_iload_n (pc := 8) (q := 0) dX2_holder_8 rfl ?_
    refine aw_aload_n (pc := 9) (q := 1) dX2_holder_9 rfl ?_
    refine aw_getf (pc := 10) (v := .inl (w 18 2)) dX2_holder_10 fl_RX2_18 (by decide) rfl rfl rfl ?_
    refine aw_icmp_lt (pc := 13) (tgt := 18) dX2_holder_13 (by decide) (fun hc => ?_) (fun hc => ?_)
    · rw [if_pos hc] at h
      refine aw_iload_n (pc := 18) (q := 3) dX2_holder_18 rfl ?_
      refine aw_iconst (pc := 19) dX2_holder_19 ⟨by decide, by decide⟩ ?_
      refine aw_icmp_ne (pc := 20) (tgt := 49) dX2_holder_20 (by decide) (fun hc => ?_) (fun hc => ?_)
      · rw [if_neg hc] at h
        exact aw_sel [1, 0] rfl (w_x_Order_holder_49 N d hd  _ _ _ _ h)
      · rw [if_pos hc] at h
        refine aw_aload_n (pc := 23) (q := 1) dX2_holder_23 rfl ?_
        refine aw_iload_n (pc := 24) (q := 0) dX2_holder_24 rfl ?_
        refine aw_iconst (pc := 25) dX2_holder_25 ⟨by decide, by decide⟩ ?_
        refine aw_isub (pc := 26) dX2_holder_26 ?_
        refine aw_iload_n (pc := 27) (q := 0) dX2_holder_27 rfl ?_
        obtain ⟨r1, w1, h1, h⟩ := aw_b2s h
        refine aw_callV (pc := 28) (as := [.inl (aw_w ((aw_w (x1 - 1)) - 1)), .inl (aw_w (x1 - 1))]) (st := []) (st' := [.inl r1]) dX2_holder_28 cv_RX2_22 (by decide) rfl rfl rfl rfl (Nat.le_of_ble_eq_true rfl) (w_x_Order_alike N d (by omega) _ _ _ _ _ h1) rfl ?_
        refine aw_if_ne (pc := 31) (tgt := 45) dX2_holder_31 (by decide) (fun hc => ?_) (fun hc => ?_)
        · rw [if_neg hc] at h
          exact aw_sel [] rfl (w_x_Order_holder_45 N d hd  _ _ _ h)
        · rw [if_pos hc] at h
          refine aw_aload_n (pc := 34) (q := 1) dX2_holder_34 rfl ?_
          refine aw_iload_n (pc := 35) (q := 0) dX2_holder_35 rfl ?_
          refine aw_iload_n (pc := 36) (q := 0) dX2_holder_36 rfl ?_
          refine aw_iconst (pc := 37) dX2_holder_37 ⟨by decide, by decide⟩ ?_
          refine aw_iadd (pc := 38) dX2_holder_38 ?_
          obtain ⟨r2, w2, h2, h⟩ := aw_b2s h
          refine aw_callV (pc := 39) (as := [.inl (aw_w (x1 - 1)), .inl (aw_w ((aw_w (x1 - 1)) + 1))]) (st := []) (st' := [.inl r2]) dX2_holder_39 cv_RX2_22 (by decide) rfl rfl rfl rfl (Nat.le_of_ble_eq_true rfl) (w_x_Order_alike N d (by omega) _ _ _ _ _ h2) rfl ?_
          refine aw_if_eq (pc := 42) (tgt := 49) dX2_holder_42 (by decide) (fun hc => ?_) (fun hc => ?_)
          · rw [if_pos hc] at h
            exact aw_sel [1, 0] rfl (w_x_Order_holder_49 N d hd  _ _ _ _ h)
          · rw [if_neg hc] at h
            exact aw_sel [] rfl (w_x_Order_holder_45 N d hd  _ _ _ h)
    · rw [if_neg hc] at h
      exact aw_sel [] rfl (w_x_Order_holder_16 N d hd  _ _ _ h)
theorem w_x_Order_holder {l : Launch} {K : aw_K} (N d : Nat) (hd : 1 ≤ d) : ∀ (x1 x2 : Int) (w : aw_W) (y : Int) (v : aw_W), x_Order_holder N x1 x2 w = some (y, v) → aw_Met l K MX2_holder (d) [.inr (.inr 18), .inl x1, .inl x2] w (some (.inl y), v) := by
  obtain ⟨e, rfl⟩ : ∃ e, d = e + 1 := ⟨d - 1, by omega⟩
  exact w_x_Order_holder_d N e (by omega)
theorem dX2_firsts_0 : decode cX2_firsts 0 = .ok (.iconst 0, 1) := by decide +kernel
theorem dX2_firsts_1 : decode cX2_firsts 1 = .ok (.istore_n 2, 1) := by decide +kernel
theorem dX2_firsts_2 : decode cX2_firsts 2 = .ok (.iconst 0, 1) := by decide +kernel
theorem dX2_firsts_3 : decode cX2_firsts 3 = .ok (.istore_n 3, 1) := by decide +kernel
theorem dX2_firsts_4 : decode cX2_firsts 4 = .ok (.iload_n 3, 1) := by decide +kernel
theorem dX2_firsts_5 : decode cX2_firsts 5 = .ok (.aload_n 0, 1) := by decide +kernel
theorem dX2_firsts_6 : decode cX2_firsts 6 = .ok (.getfield 18, 3) := by decide +kernel
theorem dX2_firsts_9 : decode cX2_firsts 9 = .ok (.if_icmp .ge 44, 3) := by decide +kernel
theorem dX2_firsts_12 : decode cX2_firsts 12 = .ok (.iload_n 3, 1) := by decide +kernel
theorem dX2_firsts_13 : decode cX2_firsts 13 = .ok (.ifCond .eq 23, 3) := by decide +kernel
theorem dX2_firsts_16 : decode cX2_firsts 16 = .ok (.iload_n 1, 1) := by decide +kernel
theorem dX2_firsts_17 : decode cX2_firsts 17 = .ok (.iconst 1, 1) := by decide +kernel
theorem dX2_firsts_18 : decode cX2_firsts 18 = .ok (.if_icmp .ne 29, 3) := by decide +kernel
theorem dX2_firsts_21 : decode cX2_firsts 21 = .ok (.aload_n 0, 1) := by decide +kernel
theorem dX2_firsts_22 : decode cX2_firsts 22 = .ok (.getfield 15, 3) := by decide +kernel
theorem dX2_firsts_25 : decode cX2_firsts 25 = .ok (.iload_n 3, 1) := by decide +kernel
theorem dX2_firsts_26 : decode cX2_firsts 26 = .ok (.iaload, 1) := by decide +kernel
theorem dX2_firsts_27 : decode cX2_firsts 27 = .ok (.aload_n 0, 1) := by decide +kernel
theorem dX2_firsts_28 : decode cX2_firsts 28 = .ok (.getfield 15, 3) := by decide +kernel
theorem dX2_firsts_31 : decode cX2_firsts 31 = .ok (.iconst 0, 1) := by decide +kernel
theorem dX2_firsts_32 : decode cX2_firsts 32 = .ok (.iaload, 1) := by decide +kernel
theorem dX2_firsts_33 : decode cX2_firsts 33 = .ok (.if_icmp .ne 14, 3) := by decide +kernel
theorem dX2_firsts_36 : decode cX2_firsts 36 = .ok (.iload_n 2, 1) := by decide +kernel
theorem dX2_firsts_37 : decode cX2_firsts 37 = .ok (.iconst 1, 1) := by decide +kernel
theorem dX2_firsts_38 : decode cX2_firsts 38 = .ok (.aload_n 0, 1) := by decide +kernel
theorem dX2_firsts_39 : decode cX2_firsts 39 = .ok (.getfield 9, 3) := by decide +kernel
theorem dX2_firsts_42 : decode cX2_firsts 42 = .ok (.iload_n 3, 1) := by decide +kernel
theorem dX2_firsts_43 : decode cX2_firsts 43 = .ok (.iaload, 1) := by decide +kernel
theorem dX2_firsts_44 : decode cX2_firsts 44 = .ok (.ishl, 1) := by decide +kernel
theorem dX2_firsts_45 : decode cX2_firsts 45 = .ok (.ior, 1) := by decide +kernel
theorem dX2_firsts_46 : decode cX2_firsts 46 = .ok (.istore_n 2, 1) := by decide +kernel
theorem dX2_firsts_47 : decode cX2_firsts 47 = .ok (.iinc 3 1, 3) := by decide +kernel
theorem dX2_firsts_50 : decode cX2_firsts 50 = .ok (.goto (-46), 3) := by decide +kernel
theorem dX2_firsts_53 : decode cX2_firsts 53 = .ok (.iload_n 2, 1) := by decide +kernel
theorem dX2_firsts_54 : decode cX2_firsts 54 = .ok (.ireturn, 1) := by decide +kernel
def x_Order_firsts_53 (N : Nat) (x2 : Int) (w : aw_W) : Option (Int × aw_W) :=
  some (x2, w)
theorem w_x_Order_firsts_53 {l : Launch} {K : aw_K} (N d : Nat) : ∀ (x2 : Int) (w : aw_W) (y : Int) (v : aw_W), x_Order_firsts_53 N x2 w = some (y, v) → aw_AW l K MX2_firsts (d) 53 [(2, .inl x2)] [] w (some (.inl y), v) := by
  intro x2 w y v h
  unfold x_Order_firsts_53 at h
  refine aw_iload_n (pc := 53) (q := 0) dX2_firsts_53 rfl ?_
  cases h
  exact aw_iret (pc := 54) rfl dX2_firsts_54
def x_Order_firsts_47 (N : Nat) (k4 : Int → Int → Int → aw_W → Option (Int × aw_W)) (x1 x2 x3 : Int) (w : aw_W) : Option (Int × aw_W) :=
  k4 x1 x2 (aw_w (x3 + 1)) w
theorem w_x_Order_firsts_47 {l : Launch} {K : aw_K} (N d : Nat) (k4 : Int → Int → Int → aw_W → Option (Int × aw_W)) (hk4 : ∀ (x1 x2 x3 : Int) (w : aw_W) (y : Int) (v : aw_W), k4 x1 x2 x3 w = some (y, v) → aw_AW l K MX2_firsts (d) 4 [(0, .inr (.inr 18)), (1, .inl x1), (2, .inl x2), (3, .inl x3)] [] w (some (.inl y), v)) : ∀ (x1 x2 x3 : Int) (w : aw_W) (y : Int) (v : aw_W), x_Order_firsts_47 N k4 x1 x2 x3 w = some (y, v) → aw_AW l K MX2_firsts (d) 47 [(0, .inr (.inr 18)), (1, .inl x1), (2, .inl x2), (3, .inl x3)] [] w (some (.inl y), v) := by
  intro x1 x2 x3 w y v h
  unfold x_Order_firsts_47 at h
  refine aw_iinc (pc := 47) (q := 3) (ls' := [(3, .inl (aw_w (x3 + 1))), (0, .inr (.inr 18)), (1, .inl x1), (2, .inl x2)]) dX2_firsts_47 rfl (by decide) rfl ?_
  refine aw_goto (pc := 50) (tgt := 4) dX2_firsts_50 (by decide) ?_
  exact aw_sel [1, 2, 3, 0] rfl (hk4 _ _ _ _ _ _ h)
def x_Order_firsts_36 (N : Nat) (k4 : Int → Int → Int → aw_W → Option (Int × aw_W)) (x1 x2 x3 : Int) (w : aw_W) : Option (Int × aw_W) :=
  if 0 ≤ x3 ∧ x3 < 6 then
    x_Order_firsts_47 N k4 x1 (aw_or x2 (aw_shl 1 (w 19 x3.toNat))) x3 w
  else none
theorem w_x_Order_firsts_36 {l : Launch} {K : aw_K} (N d : Nat) (k4 : Int → Int → Int → aw_W → Option (Int × aw_W)) (hk4 : ∀ (x1 x2 x3 : Int) (w : aw_W) (y : Int) (v : aw_W), k4 x1 x2 x3 w = some (y, v) → aw_AW l K MX2_firsts (d) 4 [(0, .inr (.inr 18)), (1, .inl x1), (2, .inl x2), (3, .inl x3)] [] w (some (.inl y), v)) : ∀ (x1 x2 x3 : Int) (w : aw_W) (y : Int) (v : aw_W), x_Order_firsts_36 N k4 x1 x2 x3 w = some (y, v) → aw_AW l K MX2_firsts (d) 36 [(0, .inr (.inr 18)), (1, .inl x1), (2, .inl x2), (3, .inl x3)] [] w (some (.inl y), v) := by
  intro x1 x2 x3 w y v h
  unfold x_Order_firsts_36 at h
  refine aw_iload_n (pc := 36) (q := 2) dX2_firsts_36 rfl ?_
  refine aw_iconst (pc := 37) dX2_firsts_37 ⟨by decide, by decide⟩ ?_
  refine aw_aload_n (pc := 38) (q := 0) dX2_firsts_38 rfl ?_
  refine aw_getf (pc := 39) (v := .inr (.inr 19)) dX2_firsts_39 fl_RX2_9 (by decide) rfl rfl rfl ?_
  refine aw_iload_n (pc := 42) (q := 3) dX2_firsts_42 rfl ?_
  obtain ⟨hb, h⟩ := aw_cks h
  refine aw_ialdv (pc := 43) (v := w 19 x3.toNat) dX2_firsts_43 rfl hb.1 hb.2 rfl ?_
  refine aw_ishl (pc := 44) dX2_firsts_44 ?_
  refine aw_ior (pc := 45) dX2_firsts_45 ?_
  refine aw_istore_n (pc := 46) (ls' := [(2, .inl (aw_or x2 (aw_shl 1 (w 19 x3.toNat)))), (0, .inr (.inr 18)), (1, .inl x1), (3, .inl x3)]) dX2_firsts_46 (by decide) rfl ?_
  exact aw_sel [1, 2, 0, 3] rfl (w_x_Order_firsts_47 N d  _ hk4 _ _ _ _ _ _ h)
def x_Order_firsts_4 (N : Nat) : Nat → Int → Int → Int → aw_W → Option (Int × aw_W)
  | 0, _, _, _, _ => none
  | n + 1, x1, x2, x3, w =>
    if (w 18 2) ≤ x3 then
      x_Order_firsts_53 N x2 w
    else
      if x3 = 0 then
        x_Order_firsts_36 N (x_Order_firsts_4 N n) x1 x2 x3 w
      else
        if x1 = 1 then
          if 0 ≤ x3 ∧ x3 < 6 then
            if (w 20 x3.toNat) = (w 20 0) then
              x_Order_firsts_36 N (x_Order_firsts_4 N n) x1 x2 x3 w
            else
              x_Order_firsts_47 N (x_Order_firsts_4 N n) x1 x2 x3 w
          else none
        else
          x_Order_firsts_47 N (x_Order_firsts_4 N n) x1 x2 x3 w
theorem w_x_Order_firsts_4 {l : Launch} {K : aw_K} (N d : Nat) : ∀ (n : Nat) (x1 x2 x3 : Int) (w : aw_W) (y : Int) (v : aw_W), x_Order_firsts_4 N n x1 x2 x3 w = some (y, v) → aw_AW l K MX2_firsts (d) 4 [(0, .inr (.inr 18)), (1, .inl x1), (2, .inl x2), (3, .inl x3)] [] w (some (.inl y), v) := by
  intro n
  induction n with
  | zero => intro x1 x2 x3 w y v h; rw [x_Order_firsts_4] at h; cases h
  | succ n ih =>
    intro x1 x2 x3 w y v h
    rw [x_Order_firsts_4] at h
    refine aw_iload_n (pc := 4) (q := 3) dX2_firsts_4 rfl ?_
    refine aw_aload_n (pc := 5) (q := 0) dX2_firsts_5 rfl ?_
    refine aw_getf (pc := 6) (v := .inl (w 18 2)) dX2_firsts_6 fl_RX2_18 (by decide) rfl rfl rfl ?_
    refine aw_icmp_ge (pc := 9) (tgt := 53) dX2_firsts_9 (by decide) (fun hc => ?_) (fun hc => ?_)
    · rw [if_pos hc] at h
      exact aw_sel [2] rfl (w_x_Order_firsts_53 N d  _ _ _ _ h)
    · rw [if_neg hc] at h
      refine aw_iload_n (pc := 12) (q := 3) dX2_firsts_12 rfl ?_
      refine aw_if_eq (pc := 13) (tgt := 36) dX2_firsts_13 (by decide) (fun hc => ?_) (fun hc => ?_)
      · rw [if_pos hc] at h
        exact aw_sel [0, 1, 2, 3] rfl (w_x_Order_firsts_36 N d  _ ih _ _ _ _ _ _ h)
      · rw [if_neg hc] at h
        refine aw_iload_n (pc := 16) (q := 1) dX2_firsts_16 rfl ?_
        refine aw_iconst (pc := 17) dX2_firsts_17 ⟨by decide, by decide⟩ ?_
        refine aw_icmp_ne (pc := 18) (tgt := 47) dX2_firsts_18 (by decide) (fun hc => ?_) (fun hc => ?_)
        · rw [if_neg hc] at h
          exact aw_sel [0, 1, 2, 3] rfl (w_x_Order_firsts_47 N d  _ ih _ _ _ _ _ _ h)
        · rw [if_pos hc] at h
          refine aw_aload_n (pc := 21) (q := 0) dX2_firsts_21 rfl ?_
          refine aw_getf (pc := 22) (v := .inr (.inr 20)) dX2_firsts_22 fl_RX2_15 (by decide) rfl rfl rfl ?_
          refine aw_iload_n (pc := 25) (q := 3) dX2_firsts_25 rfl ?_
          obtain ⟨hb, h⟩ := aw_cks h
          refine aw_ialdv (pc := 26) (v := w 20 x3.toNat) dX2_firsts_26 rfl hb.1 hb.2 rfl ?_
          refine aw_aload_n (pc := 27) (q := 0) dX2_firsts_27 rfl ?_
          refine aw_getf (pc := 28) (v := .inr (.inr 20)) dX2_firsts_28 fl_RX2_15 (by decide) rfl rfl rfl ?_
          refine aw_iconst (pc := 31) dX2_firsts_31 ⟨by decide, by decide⟩ ?_
          refine aw_ialdv (pc := 32) (v := w 20 0) dX2_firsts_32 rfl (by decide) (by decide) rfl ?_
          refine aw_icmp_ne (pc := 33) (tgt := 47) dX2_firsts_33 (by decide) (fun hc => ?_) (fun hc => ?_)
          · rw [if_neg hc] at h
            exact aw_sel [0, 1, 2, 3] rfl (w_x_Order_firsts_47 N d  _ ih _ _ _ _ _ _ h)
          · rw [if_pos hc] at h
            exact aw_sel [0, 1, 2, 3] rfl (w_x_Order_firsts_36 N d  _ ih _ _ _ _ _ _ h)
def x_Order_firsts (N : Nat) (x1 : Int) (w : aw_W) : Option (Int × aw_W) :=
  x_Order_firsts_4 N N x1 0 0 w
theorem w_x_Order_firsts {l : Launch} {K : aw_K} (N d : Nat) (hd : 0 ≤ d) : ∀ (x1 : Int) (w : aw_W) (y : Int) (v : aw_W), x_Order_firsts N x1 w = some (y, v) → aw_Met l K MX2_firsts (d) [.inr (.inr 18), .inl x1] w (some (.inl y), v) := by
  intro x1 w y v h
  unfold x_Order_firsts at h
  refine aw_enter rfl (Nat.le_of_ble_eq_true rfl) ?_
  show aw_AW l K MX2_firsts (d) 0 [(0, .inr (.inr 18)), (1, .inl x1)] [] w (some (.inl y), v)
  refine aw_iconst (pc := 0) dX2_firsts_0 ⟨by decide, by decide⟩ ?_
  refine aw_istore_n (pc := 1) (ls' := [(2, .inl 0), (0, .inr (.inr 18)), (1, .inl x1)]) dX2_firsts_1 (by decide) rfl ?_
  refine aw_iconst (pc := 2) dX2_firsts_2 ⟨by decide, by decide⟩ ?_
  refine aw_istore_n (pc := 3) (ls' := [(3, .inl 0), (2, .inl 0), (0, .inr (.inr 18)), (1, .inl x1)]) dX2_firsts_3 (by decide) rfl ?_
  exact aw_sel [2, 3, 1, 0] rfl (w_x_Order_firsts_4 N d  N _ _ _ _ _ _ h)
theorem dX2_scoreAt_0 : decode cX2_scoreAt 0 = .ok (.iload_n 1, 1) := by decide +kernel
theorem dX2_scoreAt_1 : decode cX2_scoreAt 1 = .ok (.ifCond .lt 20, 3) := by decide +kernel
theorem dX2_scoreAt_4 : decode cX2_scoreAt 4 = .ok (.iload_n 1, 1) := by decide +kernel
theorem dX2_scoreAt_5 : decode cX2_scoreAt 5 = .ok (.aload_n 0, 1) := by decide +kernel
theorem dX2_scoreAt_6 : decode cX2_scoreAt 6 = .ok (.getfield 18, 3) := by decide +kernel
theorem dX2_scoreAt_9 : decode cX2_scoreAt 9 = .ok (.if_icmp .ge 12, 3) := by decide +kernel
theorem dX2_scoreAt_12 : decode cX2_scoreAt 12 = .ok (.aload_n 0, 1) := by decide +kernel
theorem dX2_scoreAt_13 : decode cX2_scoreAt 13 = .ok (.getfield 15, 3) := by decide +kernel
theorem dX2_scoreAt_16 : decode cX2_scoreAt 16 = .ok (.iload_n 1, 1) := by decide +kernel
theorem dX2_scoreAt_17 : decode cX2_scoreAt 17 = .ok (.iaload, 1) := by decide +kernel
theorem dX2_scoreAt_18 : decode cX2_scoreAt 18 = .ok (.goto 4, 3) := by decide +kernel
theorem dX2_scoreAt_21 : decode cX2_scoreAt 21 = .ok (.iload_n 2, 1) := by decide +kernel
theorem dX2_scoreAt_22 : decode cX2_scoreAt 22 = .ok (.ireturn, 1) := by decide +kernel
def x_Order_scoreAt_22 (N : Nat) (s0 : Int) (w : aw_W) : Option (Int × aw_W) :=
  some (s0, w)
theorem w_x_Order_scoreAt_22 {l : Launch} {K : aw_K} (N d : Nat) : ∀ (s0 : Int) (w : aw_W) (y : Int) (v : aw_W), x_Order_scoreAt_22 N s0 w = some (y, v) → aw_AW l K MX2_scoreAt (d) 22 [] [.inl s0] w (some (.inl y), v) := by
  intro s0 w y v h
  unfold x_Order_scoreAt_22 at h
  cases h
  exact aw_iret (pc := 22) rfl dX2_scoreAt_22
def x_Order_scoreAt_21 (N : Nat) (x2 : Int) (w : aw_W) : Option (Int × aw_W) :=
  x_Order_scoreAt_22 N x2 w
theorem w_x_Order_scoreAt_21 {l : Launch} {K : aw_K} (N d : Nat) : ∀ (x2 : Int) (w : aw_W) (y : Int) (v : aw_W), x_Order_scoreAt_21 N x2 w = some (y, v) → aw_AW l K MX2_scoreAt (d) 21 [(2, .inl x2)] [] w (some (.inl y), v) := by
  intro x2 w y v h
  unfold x_Order_scoreAt_21 at h
  refine aw_iload_n (pc := 21) (q := 0) dX2_scoreAt_21 rfl ?_
  exact aw_sel [] rfl (w_x_Order_scoreAt_22 N d  _ _ _ _ h)
def x_Order_scoreAt (N : Nat) (x1 x2 : Int) (w : aw_W) : Option (Int × aw_W) :=
  if x1 < 0 then
    x_Order_scoreAt_21 N x2 w
  else
    if (w 18 2) ≤ x1 then
      x_Order_scoreAt_21 N x2 w
    else
      if 0 ≤ x1 ∧ x1 < 6 then
        x_Order_scoreAt_22 N (w 20 x1.toNat) w
      else none
theorem w_x_Order_scoreAt {l : Launch} {K : aw_K} (N d : Nat) (hd : 0 ≤ d) : ∀ (x1 x2 : Int) (w : aw_W) (y : Int) (v : aw_W), x_Order_scoreAt N x1 x2 w = some (y, v) → aw_Met l K MX2_scoreAt (d) [.inr (.inr 18), .inl x1, .inl x2] w (some (.inl y), v) := by
  intro x1 x2 w y v h
  unfold x_Order_scoreAt at h
  refine aw_enter rfl (Nat.le_of_ble_eq_true rfl) ?_
  show aw_AW l K MX2_scoreAt (d) 0 [(0, .inr (.inr 18)), (1, .inl x1), (2, .inl x2)] [] w (some (.inl y), v)
  refine aw_iload_n (pc := 0) (q := 1) dX2_scoreAt_0 rfl ?_
  refine aw_if_lt (pc := 1) (tgt := 21) dX2_scoreAt_1 (by decide) (fun hc => ?_) (fun hc => ?_)
  · rw [if_pos hc] at h
    exact aw_sel [2] rfl (w_x_Order_scoreAt_21 N d  _ _ _ _ h)
  · rw [if_neg hc] at h
    refine aw_iload_n (pc := 4) (q := 1) dX2_scoreAt_4 rfl ?_
    refine aw_aload_n (pc := 5) (q := 0) dX2_scoreAt_5 rfl ?_
    refine aw_getf (pc := 6) (v := .inl (w 18 2)) dX2_scoreAt_6 fl_RX2_18 (by decide) rfl rfl rfl ?_
    refine aw_icmp_ge (pc := 9) (tgt := 21) dX2_scoreAt_9 (by decide) (fun hc => ?_) (fun hc => ?_)
    · rw [if_pos hc] at h
      exact aw_sel [2] rfl (w_x_Order_scoreAt_21 N d  _ _ _ _ h)
    · rw [if_neg hc] at h
      refine aw_aload_n (pc := 12) (q := 0) dX2_scoreAt_12 rfl ?_
      refine aw_getf (pc := 13) (v := .inr (.inr 20)) dX2_scoreAt_13 fl_RX2_15 (by decide) rfl rfl rfl ?_
      refine aw_iload_n (pc := 16) (q := 1) dX2_scoreAt_16 rfl ?_
      obtain ⟨hb, h⟩ := aw_cks h
      refine aw_ialdv (pc := 17) (v := w 20 x1.toNat) dX2_scoreAt_17 rfl hb.1 hb.2 rfl ?_
      refine aw_goto (pc := 18) (tgt := 22) dX2_scoreAt_18 (by decide) ?_
      exact aw_sel [] rfl (w_x_Order_scoreAt_22 N d  _ _ _ _ h)
theorem dX8_price_0 : decode cX8_price 0 = .ok (.aload_n 0, 1) := by decide +kernel
theorem dX8_price_1 : decode cX8_price 1 = .ok (.getfield 12, 3) := by decide +kernel
theorem dX8_price_4 : decode cX8_price 4 = .ok (.iload_n 1, 1) := by decide +kernel
theorem dX8_price_5 : decode cX8_price 5 = .ok (.iconst 0, 1) := by decide +kernel
theorem dX8_price_6 : decode cX8_price 6 = .ok (.invokevirtual 74, 3) := by decide +kernel
theorem dX8_price_9 : decode cX8_price 9 = .ok (.istore_n 2, 1) := by decide +kernel
theorem dX8_price_10 : decode cX8_price 10 = .ok (.aload_n 0, 1) := by decide +kernel
theorem dX8_price_11 : decode cX8_price 11 = .ok (.getfield 22, 3) := by decide +kernel
theorem dX8_price_14 : decode cX8_price 14 = .ok (.getfield 36, 3) := by decide +kernel
theorem dX8_price_17 : decode cX8_price 17 = .ok (.iconst 2, 1) := by decide +kernel
theorem dX8_price_18 : decode cX8_price 18 = .ok (.iaload, 1) := by decide +kernel
theorem dX8_price_19 : decode cX8_price 19 = .ok (.ifCond .ne 5, 3) := by decide +kernel
theorem dX8_price_22 : decode cX8_price 22 = .ok (.iload_n 2, 1) := by decide +kernel
theorem dX8_price_23 : decode cX8_price 23 = .ok (.ireturn, 1) := by decide +kernel
theorem dX8_price_24 : decode cX8_price 24 = .ok (.aload_n 0, 1) := by decide +kernel
theorem dX8_price_25 : decode cX8_price 25 = .ok (.getfield 22, 3) := by decide +kernel
theorem dX8_price_28 : decode cX8_price 28 = .ok (.getfield 36, 3) := by decide +kernel
theorem dX8_price_31 : decode cX8_price 31 = .ok (.iconst 2, 1) := by decide +kernel
theorem dX8_price_32 : decode cX8_price 32 = .ok (.iaload, 1) := by decide +kernel
theorem dX8_price_33 : decode cX8_price 33 = .ok (.iconst 1, 1) := by decide +kernel
theorem dX8_price_34 : decode cX8_price 34 = .ok (.if_icmp .ne 17, 3) := by decide +kernel
theorem dX8_price_37 : decode cX8_price 37 = .ok (.aload_n 0, 1) := by decide +kernel
theorem dX8_price_38 : decode cX8_price 38 = .ok (.getfield 12, 3) := by decide +kernel
theorem dX8_price_41 : decode cX8_price 41 = .ok (.iload_n 1, 1) := by decide +kernel
theorem dX8_price_42 : decode cX8_price 42 = .ok (.iconst 1, 1) := by decide +kernel
theorem dX8_price_43 : decode cX8_price 43 = .ok (.isub, 1) := by decide +kernel
theorem dX8_price_44 : decode cX8_price 44 = .ok (.iload_n 2, 1) := by decide +kernel
theorem dX8_price_45 : decode cX8_price 45 = .ok (.invokevirtual 74, 3) := by decide +kernel
theorem dX8_price_48 : decode cX8_price 48 = .ok (.goto 14, 3) := by decide +kernel
theorem dX8_price_51 : decode cX8_price 51 = .ok (.aload_n 0, 1) := by decide +kernel
theorem dX8_price_52 : decode cX8_price 52 = .ok (.getfield 12, 3) := by decide +kernel
theorem dX8_price_55 : decode cX8_price 55 = .ok (.iload_n 1, 1) := by decide +kernel
theorem dX8_price_56 : decode cX8_price 56 = .ok (.iconst 1, 1) := by decide +kernel
theorem dX8_price_57 : decode cX8_price 57 = .ok (.iadd, 1) := by decide +kernel
theorem dX8_price_58 : decode cX8_price 58 = .ok (.iconst 0, 1) := by decide +kernel
theorem dX8_price_59 : decode cX8_price 59 = .ok (.invokevirtual 74, 3) := by decide +kernel
theorem dX8_price_62 : decode cX8_price 62 = .ok (.ireturn, 1) := by decide +kernel
def x_Sale_price_62 (N : Nat) (s0 : Int) (w : aw_W) : Option (Int × aw_W) :=
  some (s0, w)
theorem w_x_Sale_price_62 {l : Launch} {K : aw_K} (N d : Nat) (hd : 0 ≤ d) : ∀ (s0 : Int) (w : aw_W) (y : Int) (v : aw_W), x_Sale_price_62 N s0 w = some (y, v) → aw_AW l K MX8_price (d + 1) 62 [] [.inl s0] w (some (.inl y), v) := by
  intro s0 w y v h
  unfold x_Sale_price_62 at h
  cases h
  exact aw_iret (pc := 62) rfl dX8_price_62
def x_Sale_price (N : Nat) (x1 : Int) (w : aw_W) : Option (Int × aw_W) :=
  aw_b2 (x_Order_scoreAt N x1 0 w) fun r1 w1 =>
    if (w1 5 2) = 0 then
      some (r1, w1)
    else
      if (w1 5 2) = 1 then
        aw_b2 (x_Order_scoreAt N (aw_w (x1 - 1)) r1 w1) fun r3 w3 =>
          x_Sale_price_62 N r3 w3
      else
        aw_b2 (x_Order_scoreAt N (aw_w (x1 + 1)) 0 w1) fun r2 w2 =>
          x_Sale_price_62 N r2 w2
theorem w_x_Sale_price_d {l : Launch} {K : aw_K} (N d : Nat) (hd : 0 ≤ d) : ∀ (x1 : Int) (w : aw_W) (y : Int) (v : aw_W), x_Sale_price N x1 w = some (y, v) → aw_Met l K MX8_price (d + 1) [.inr (.inr 17), .inl x1] w (some (.inl y), v) := by
  intro x1 w y v h
  unfold x_Sale_price at h
  refine aw_enter rfl (Nat.le_of_ble_eq_true rfl) ?_
  show aw_AW l K MX8_price (d + 1) 0 [(0, .inr (.inr 17)), (1, .inl x1)] [] w (some (.inl y), v)
  refine aw_aload_n (pc := 0) (q := 0) dX8_price_0 rfl ?_
  refine aw_getf (pc := 1) (v := .inr (.inr 18)) dX8_price_1 fl_RX8_12 (by decide) rfl rfl rfl ?_
  refine aw_iload_n (pc := 4) (q := 1) dX8_price_4 rfl ?_
  refine aw_iconst (pc := 5) dX8_price_5 ⟨by decide, by decide⟩ ?_
  obtain ⟨r1, w1, h1, h⟩ := aw_b2s h
  refine aw_callV (pc := 6) (as := [.inl x1, .inl 0]) (st := []) (st' := [.inl r1]) dX8_price_6 cv_RX8_74 (by decide) rfl rfl rfl rfl (Nat.le_of_ble_eq_true rfl) (w_x_Order_scoreAt N d (by omega) _ _ _ _ _ h1) rfl ?_
  refine aw_istore_n (pc := 9) (ls' := [(2, .inl r1), (0, .inr (.inr 17)), (1, .inl x1)]) dX8_price_9 (by decide) rfl ?_
  refine aw_aload_n (pc := 10) (q := 1) dX8_price_10 rfl ?_
  refine aw_getf (pc := 11) (v := .inr (.inr 3)) dX8_price_11 fl_RX8_22 (by decide) rfl rfl rfl ?_
  refine aw_getf (pc := 14) (v := .inr (.inr 5)) dX8_price_14 fl_RX8_36 (by decide) rfl rfl rfl ?_
  refine aw_iconst (pc := 17) dX8_price_17 ⟨by decide, by decide⟩ ?_
  refine aw_ialdv (pc := 18) (v := w1 5 2) dX8_price_18 rfl (by decide) (by decide) rfl ?_
  refine aw_if_ne (pc := 19) (tgt := 24) dX8_price_19 (by decide) (fun hc => ?_) (fun hc => ?_)
  · rw [if_neg hc] at h
    refine aw_aload_n (pc := 24) (q := 1) dX8_price_24 rfl ?_
    refine aw_getf (pc := 25) (v := .inr (.inr 3)) dX8_price_25 fl_RX8_22 (by decide) rfl rfl rfl ?_
    refine aw_getf (pc := 28) (v := .inr (.inr 5)) dX8_price_28 fl_RX8_36 (by decide) rfl rfl rfl ?_
    refine aw_iconst (pc := 31) dX8_price_31 ⟨by decide, by decide⟩ ?_
    refine aw_ialdv (pc := 32) (v := w1 5 2) dX8_price_32 rfl (by decide) (by decide) rfl ?_
    refine aw_iconst (pc := 33) dX8_price_33 ⟨by decide, by decide⟩ ?_
    refine aw_icmp_ne (pc := 34) (tgt := 51) dX8_price_34 (by decide) (fun hc => ?_) (fun hc => ?_)
    · rw [if_neg hc] at h
      refine aw_aload_n (pc := 51) (q := 1) dX8_price_51 rfl ?_
      refine aw_getf (pc := 52) (v := .inr (.inr 18)) dX8_price_52 fl_RX8_12 (by decide) rfl rfl rfl ?_
      refine aw_iload_n (pc := 55) (q := 2) dX8_price_55 rfl ?_
      refine aw_iconst (pc := 56) dX8_price_56 ⟨by decide, by decide⟩ ?_
      refine aw_iadd (pc := 57) dX8_price_57 ?_
      refine aw_iconst (pc := 58) dX8_price_58 ⟨by decide, by decide⟩ ?_
      obtain ⟨r2, w2, h2, h⟩ := aw_b2s h
      refine aw_callV (pc := 59) (as := [.inl (aw_w (x1 + 1)), .inl 0]) (st := []) (st' := [.inl r2]) dX8_price_59 cv_RX8_74 (by decide) rfl rfl rfl rfl (Nat.le_of_ble_eq_true rfl) (w_x_Order_scoreAt N d (by omega) _ _ _ _ _ h2) rfl ?_
      exact aw_sel [] rfl (w_x_Sale_price_62 N d hd  _ _ _ _ h)
    · rw [if_pos hc] at h
      refine aw_aload_n (pc := 37) (q := 1) dX8_price_37 rfl ?_
      refine aw_getf (pc := 38) (v := .inr (.inr 18)) dX8_price_38 fl_RX8_12 (by decide) rfl rfl rfl ?_
      refine aw_iload_n (pc := 41) (q := 2) dX8_price_41 rfl ?_
      refine aw_iconst (pc := 42) dX8_price_42 ⟨by decide, by decide⟩ ?_
      refine aw_isub (pc := 43) dX8_price_43 ?_
      refine aw_iload_n (pc := 44) (q := 0) dX8_price_44 rfl ?_
      obtain ⟨r3, w3, h3, h⟩ := aw_b2s h
      refine aw_callV (pc := 45) (as := [.inl (aw_w (x1 - 1)), .inl r1]) (st := []) (st' := [.inl r3]) dX8_price_45 cv_RX8_74 (by decide) rfl rfl rfl rfl (Nat.le_of_ble_eq_true rfl) (w_x_Order_scoreAt N d (by omega) _ _ _ _ _ h3) rfl ?_
      refine aw_goto (pc := 48) (tgt := 62) dX8_price_48 (by decide) ?_
      exact aw_sel [] rfl (w_x_Sale_price_62 N d hd  _ _ _ _ h)
  · rw [if_pos hc] at h
    refine aw_iload_n (pc := 22) (q := 0) dX8_price_22 rfl ?_
    cases h
    exact aw_iret (pc := 23) rfl dX8_price_23
theorem w_x_Sale_price {l : Launch} {K : aw_K} (N d : Nat) (hd : 1 ≤ d) : ∀ (x1 : Int) (w : aw_W) (y : Int) (v : aw_W), x_Sale_price N x1 w = some (y, v) → aw_Met l K MX8_price (d) [.inr (.inr 17), .inl x1] w (some (.inl y), v) := by
  obtain ⟨e, rfl⟩ : ∃ e, d = e + 1 := ⟨d - 1, by omega⟩
  exact w_x_Sale_price_d N e (by omega)
theorem dX2_whoAt_0 : decode cX2_whoAt 0 = .ok (.iload_n 1, 1) := by decide +kernel
theorem dX2_whoAt_1 : decode cX2_whoAt 1 = .ok (.ifCond .lt 20, 3) := by decide +kernel
theorem dX2_whoAt_4 : decode cX2_whoAt 4 = .ok (.iload_n 1, 1) := by decide +kernel
theorem dX2_whoAt_5 : decode cX2_whoAt 5 = .ok (.aload_n 0, 1) := by decide +kernel
theorem dX2_whoAt_6 : decode cX2_whoAt 6 = .ok (.getfield 18, 3) := by decide +kernel
theorem dX2_whoAt_9 : decode cX2_whoAt 9 = .ok (.if_icmp .ge 12, 3) := by decide +kernel
theorem dX2_whoAt_12 : decode cX2_whoAt 12 = .ok (.aload_n 0, 1) := by decide +kernel
theorem dX2_whoAt_13 : decode cX2_whoAt 13 = .ok (.getfield 9, 3) := by decide +kernel
theorem dX2_whoAt_16 : decode cX2_whoAt 16 = .ok (.iload_n 1, 1) := by decide +kernel
theorem dX2_whoAt_17 : decode cX2_whoAt 17 = .ok (.iaload, 1) := by decide +kernel
theorem dX2_whoAt_18 : decode cX2_whoAt 18 = .ok (.goto 4, 3) := by decide +kernel
theorem dX2_whoAt_21 : decode cX2_whoAt 21 = .ok (.iconst (-1), 1) := by decide +kernel
theorem dX2_whoAt_22 : decode cX2_whoAt 22 = .ok (.ireturn, 1) := by decide +kernel
def x_Order_whoAt_22 (N : Nat) (s0 : Int) (w : aw_W) : Option (Int × aw_W) :=
  some (s0, w)
theorem w_x_Order_whoAt_22 {l : Launch} {K : aw_K} (N d : Nat) : ∀ (s0 : Int) (w : aw_W) (y : Int) (v : aw_W), x_Order_whoAt_22 N s0 w = some (y, v) → aw_AW l K MX2_whoAt (d) 22 [] [.inl s0] w (some (.inl y), v) := by
  intro s0 w y v h
  unfold x_Order_whoAt_22 at h
  cases h
  exact aw_iret (pc := 22) rfl dX2_whoAt_22
def x_Order_whoAt_21 (N : Nat) (w : aw_W) : Option (Int × aw_W) :=
  x_Order_whoAt_22 N (-1) w
theorem w_x_Order_whoAt_21 {l : Launch} {K : aw_K} (N d : Nat) : ∀ (w : aw_W) (y : Int) (v : aw_W), x_Order_whoAt_21 N w = some (y, v) → aw_AW l K MX2_whoAt (d) 21 [] [] w (some (.inl y), v) := by
  intro w y v h
  unfold x_Order_whoAt_21 at h
  refine aw_iconst (pc := 21) dX2_whoAt_21 ⟨by decide, by decide⟩ ?_
  exact aw_sel [] rfl (w_x_Order_whoAt_22 N d  _ _ _ _ h)
def x_Order_whoAt (N : Nat) (x1 : Int) (w : aw_W) : Option (Int × aw_W) :=
  if x1 < 0 then
    x_Order_whoAt_21 N w
  else
    if (w 18 2) ≤ x1 then
      x_Order_whoAt_21 N w
    else
      if 0 ≤ x1 ∧ x1 < 6 then
        x_Order_whoAt_22 N (w 19 x1.toNat) w
      else none
theorem w_x_Order_whoAt {l : Launch} {K : aw_K} (N d : Nat) (hd : 0 ≤ d) : ∀ (x1 : Int) (w : aw_W) (y : Int) (v : aw_W), x_Order_whoAt N x1 w = some (y, v) → aw_Met l K MX2_whoAt (d) [.inr (.inr 18), .inl x1] w (some (.inl y), v) := by
  intro x1 w y v h
  unfold x_Order_whoAt at h
  refine aw_enter rfl (Nat.le_of_ble_eq_true rfl) ?_
  show aw_AW l K MX2_whoAt (d) 0 [(0, .inr (.inr 18)), (1, .inl x1)] [] w (some (.inl y), v)
  refine aw_iload_n (pc := 0) (q := 1) dX2_whoAt_0 rfl ?_
  refine aw_if_lt (pc := 1) (tgt := 21) dX2_whoAt_1 (by decide) (fun hc => ?_) (fun hc => ?_)
  · rw [if_pos hc] at h
    exact aw_sel [] rfl (w_x_Order_whoAt_21 N d  _ _ _ h)
  · rw [if_neg hc] at h
    refine aw_iload_n (pc := 4) (q := 1) dX2_whoAt_4 rfl ?_
    refine aw_aload_n (pc := 5) (q := 0) dX2_whoAt_5 rfl ?_
    refine aw_getf (pc := 6) (v := .inl (w 18 2)) dX2_whoAt_6 fl_RX2_18 (by decide) rfl rfl rfl ?_
    refine aw_icmp_ge (pc := 9) (tgt := 21) dX2_whoAt_9 (by decide) (fun hc => ?_) (fun hc => ?_)
    · rw [if_pos hc] at h
      exact aw_sel [] rfl (w_x_Order_whoAt_21 N d  _ _ _ h)
    · rw [if_neg hc] at h
      refine aw_aload_n (pc := 12) (q := 0) dX2_whoAt_12 rfl ?_
      refine aw_getf (pc := 13) (v := .inr (.inr 19)) dX2_whoAt_13 fl_RX2_9 (by decide) rfl rfl rfl ?_
      refine aw_iload_n (pc := 16) (q := 1) dX2_whoAt_16 rfl ?_
      obtain ⟨hb, h⟩ := aw_cks h
      refine aw_ialdv (pc := 17) (v := w 19 x1.toNat) dX2_whoAt_17 rfl hb.1 hb.2 rfl ?_
      refine aw_goto (pc := 18) (tgt := 22) dX2_whoAt_18 (by decide) ?_
      exact aw_sel [] rfl (w_x_Order_whoAt_22 N d  _ _ _ _ h)
theorem dX2_enter_0 : decode cX2_enter 0 = .ok (.aload_n 0, 1) := by decide +kernel
theorem dX2_enter_1 : decode cX2_enter 1 = .ok (.getfield 18, 3) := by decide +kernel
theorem dX2_enter_4 : decode cX2_enter 4 = .ok (.aload_n 0, 1) := by decide +kernel
theorem dX2_enter_5 : decode cX2_enter 5 = .ok (.getfield 9, 3) := by decide +kernel
theorem dX2_enter_8 : decode cX2_enter 8 = .ok (.arraylength, 1) := by decide +kernel
theorem dX2_enter_9 : decode cX2_enter 9 = .ok (.if_icmp .lt 4, 3) := by decide +kernel
theorem dX2_enter_12 : decode cX2_enter 12 = .ok (.return_, 1) := by decide +kernel
theorem dX2_enter_13 : decode cX2_enter 13 = .ok (.aload_n 0, 1) := by decide +kernel
theorem dX2_enter_14 : decode cX2_enter 14 = .ok (.getfield 18, 3) := by decide +kernel
theorem dX2_enter_17 : decode cX2_enter 17 = .ok (.istore_n 3, 1) := by decide +kernel
theorem dX2_enter_18 : decode cX2_enter 18 = .ok (.iload_n 3, 1) := by decide +kernel
theorem dX2_enter_19 : decode cX2_enter 19 = .ok (.ifCond .le 49, 3) := by decide +kernel
theorem dX2_enter_22 : decode cX2_enter 22 = .ok (.aload_n 0, 1) := by decide +kernel
theorem dX2_enter_23 : decode cX2_enter 23 = .ok (.getfield 15, 3) := by decide +kernel
theorem dX2_enter_26 : decode cX2_enter 26 = .ok (.iload_n 3, 1) := by decide +kernel
theorem dX2_enter_27 : decode cX2_enter 27 = .ok (.iconst 1, 1) := by decide +kernel
theorem dX2_enter_28 : decode cX2_enter 28 = .ok (.isub, 1) := by decide +kernel
theorem dX2_enter_29 : decode cX2_enter 29 = .ok (.iaload, 1) := by decide +kernel
theorem dX2_enter_30 : decode cX2_enter 30 = .ok (.iload_n 2, 1) := by decide +kernel
theorem dX2_enter_31 : decode cX2_enter 31 = .ok (.if_icmp .ge 37, 3) := by decide +kernel
theorem dX2_enter_34 : decode cX2_enter 34 = .ok (.aload_n 0, 1) := by decide +kernel
theorem dX2_enter_35 : decode cX2_enter 35 = .ok (.getfield 15, 3) := by decide +kernel
theorem dX2_enter_38 : decode cX2_enter 38 = .ok (.iload_n 3, 1) := by decide +kernel
theorem dX2_enter_39 : decode cX2_enter 39 = .ok (.aload_n 0, 1) := by decide +kernel
theorem dX2_enter_40 : decode cX2_enter 40 = .ok (.getfield 15, 3) := by decide +kernel
theorem dX2_enter_43 : decode cX2_enter 43 = .ok (.iload_n 3, 1) := by decide +kernel
theorem dX2_enter_44 : decode cX2_enter 44 = .ok (.iconst 1, 1) := by decide +kernel
theorem dX2_enter_45 : decode cX2_enter 45 = .ok (.isub, 1) := by decide +kernel
theorem dX2_enter_46 : decode cX2_enter 46 = .ok (.iaload, 1) := by decide +kernel
theorem dX2_enter_47 : decode cX2_enter 47 = .ok (.iastore, 1) := by decide +kernel
theorem dX2_enter_48 : decode cX2_enter 48 = .ok (.aload_n 0, 1) := by decide +kernel
theorem dX2_enter_49 : decode cX2_enter 49 = .ok (.getfield 9, 3) := by decide +kernel
theorem dX2_enter_52 : decode cX2_enter 52 = .ok (.iload_n 3, 1) := by decide +kernel
theorem dX2_enter_53 : decode cX2_enter 53 = .ok (.aload_n 0, 1) := by decide +kernel
theorem dX2_enter_54 : decode cX2_enter 54 = .ok (.getfield 9, 3) := by decide +kernel
theorem dX2_enter_57 : decode cX2_enter 57 = .ok (.iload_n 3, 1) := by decide +kernel
theorem dX2_enter_58 : decode cX2_enter 58 = .ok (.iconst 1, 1) := by decide +kernel
theorem dX2_enter_59 : decode cX2_enter 59 = .ok (.isub, 1) := by decide +kernel
theorem dX2_enter_60 : decode cX2_enter 60 = .ok (.iaload, 1) := by decide +kernel
theorem dX2_enter_61 : decode cX2_enter 61 = .ok (.iastore, 1) := by decide +kernel
theorem dX2_enter_62 : decode cX2_enter 62 = .ok (.iinc 3 (-1), 3) := by decide +kernel
theorem dX2_enter_65 : decode cX2_enter 65 = .ok (.goto (-47), 3) := by decide +kernel
theorem dX2_enter_68 : decode cX2_enter 68 = .ok (.aload_n 0, 1) := by decide +kernel
theorem dX2_enter_69 : decode cX2_enter 69 = .ok (.getfield 15, 3) := by decide +kernel
theorem dX2_enter_72 : decode cX2_enter 72 = .ok (.iload_n 3, 1) := by decide +kernel
theorem dX2_enter_73 : decode cX2_enter 73 = .ok (.iload_n 2, 1) := by decide +kernel
theorem dX2_enter_74 : decode cX2_enter 74 = .ok (.iastore, 1) := by decide +kernel
theorem dX2_enter_75 : decode cX2_enter 75 = .ok (.aload_n 0, 1) := by decide +kernel
theorem dX2_enter_76 : decode cX2_enter 76 = .ok (.getfield 9, 3) := by decide +kernel
theorem dX2_enter_79 : decode cX2_enter 79 = .ok (.iload_n 3, 1) := by decide +kernel
theorem dX2_enter_80 : decode cX2_enter 80 = .ok (.iload_n 1, 1) := by decide +kernel
theorem dX2_enter_81 : decode cX2_enter 81 = .ok (.iastore, 1) := by decide +kernel
theorem dX2_enter_82 : decode cX2_enter 82 = .ok (.aload_n 0, 1) := by decide +kernel
theorem dX2_enter_83 : decode cX2_enter 83 = .ok (.dup, 1) := by decide +kernel
theorem dX2_enter_84 : decode cX2_enter 84 = .ok (.getfield 18, 3) := by decide +kernel
theorem dX2_enter_87 : decode cX2_enter 87 = .ok (.iconst 1, 1) := by decide +kernel
theorem dX2_enter_88 : decode cX2_enter 88 = .ok (.iadd, 1) := by decide +kernel
theorem dX2_enter_89 : decode cX2_enter 89 = .ok (.putfield 18, 3) := by decide +kernel
theorem dX2_enter_92 : decode cX2_enter 92 = .ok (.return_, 1) := by decide +kernel
def x_Order_enter_68 (N : Nat) (x1 x2 x3 : Int) (w : aw_W) : Option (aw_W) :=
  if 0 ≤ x3 ∧ x3 < 6 then
    if 0 ≤ x3 ∧ x3 < 6 then
      some (aw_up (aw_up (aw_up w 20 x3.toNat x2) 19 x3.toNat x1) 18 2 (aw_w ((w 18 2) + 1)))
    else none
  else none
theorem w_x_Order_enter_68 {l : Launch} {K : aw_K} (N d : Nat) : ∀ (x1 x2 x3 : Int) (w v : aw_W), x_Order_enter_68 N x1 x2 x3 w = some v → aw_AW l K MX2_enter (d) 68 [(0, .inr (.inr 18)), (1, .inl x1), (2, .inl x2), (3, .inl x3)] [] w (none, v) := by
  intro x1 x2 x3 w v h
  unfold x_Order_enter_68 at h
  refine aw_aload_n (pc := 68) (q := 0) dX2_enter_68 rfl ?_
  refine aw_getf (pc := 69) (v := .inr (.inr 20)) dX2_enter_69 fl_RX2_15 (by decide) rfl rfl rfl ?_
  refine aw_iload_n (pc := 72) (q := 3) dX2_enter_72 rfl ?_
  refine aw_iload_n (pc := 73) (q := 2) dX2_enter_73 rfl ?_
  obtain ⟨hb, h⟩ := aw_cks h
  refine aw_iast (pc := 74) dX2_enter_74 rfl hb.1 hb.2 ?_
  refine aw_aload_n (pc := 75) (q := 0) dX2_enter_75 rfl ?_
  refine aw_getf (pc := 76) (v := .inr (.inr 19)) dX2_enter_76 fl_RX2_9 (by decide) rfl rfl rfl ?_
  refine aw_iload_n (pc := 79) (q := 3) dX2_enter_79 rfl ?_
  refine aw_iload_n (pc := 80) (q := 1) dX2_enter_80 rfl ?_
  obtain ⟨hb, h⟩ := aw_cks h
  refine aw_iast (pc := 81) dX2_enter_81 rfl hb.1 hb.2 ?_
  refine aw_aload_n (pc := 82) (q := 0) dX2_enter_82 rfl ?_
  refine aw_dup (pc := 83) dX2_enter_83 rfl ?_
  refine aw_getf (pc := 84) (v := .inl (w 18 2)) dX2_enter_84 fl_RX2_18 (by decide) rfl rfl rfl ?_
  refine aw_iconst (pc := 87) dX2_enter_87 ⟨by decide, by decide⟩ ?_
  refine aw_iadd (pc := 88) dX2_enter_88 ?_
  refine aw_puti (pc := 89) dX2_enter_89 fp_RX2_18 (by decide) rfl rfl ?_
  cases h
  exact aw_vret (pc := 92) rfl dX2_enter_92
def x_Order_enter_18 (N : Nat) : Nat → Int → Int → Int → aw_W → Option (aw_W)
  | 0, _, _, _, _ => none
  | n + 1, x1, x2, x3, w =>
    if x3 ≤ 0 then
      x_Order_enter_68 N x1 x2 x3 w
    else
      if 0 ≤ (aw_w (x3 - 1)) ∧ (aw_w (x3 - 1)) < 6 then
        if x2 ≤ (w 20 ((aw_w (x3 - 1)).toNat)) then
          x_Order_enter_68 N x1 x2 x3 w
        else
          if 0 ≤ (aw_w (x3 - 1)) ∧ (aw_w (x3 - 1)) < 6 then
            if 0 ≤ x3 ∧ x3 < 6 then
              if 0 ≤ (aw_w (x3 - 1)) ∧ (aw_w (x3 - 1)) < 6 then
                if 0 ≤ x3 ∧ x3 < 6 then
                  x_Order_enter_18 N n x1 x2 (aw_w (x3 + (-1))) (aw_up (aw_up w 20 x3.toNat (w 20 ((aw_w (x3 - 1)).toNat))) 19 x3.toNat (w 19 ((aw_w (x3 - 1)).toNat)))
                else none
              else none
            else none
          else none
      else none
theorem w_x_Order_enter_18 {l : Launch} {K : aw_K} (N d : Nat) : ∀ (n : Nat) (x1 x2 x3 : Int) (w v : aw_W), x_Order_enter_18 N n x1 x2 x3 w = some v → aw_AW l K MX2_enter (d) 18 [(0, .inr (.inr 18)), (1, .inl x1), (2, .inl x2), (3, .inl x3)] [] w (none, v) := by
  intro n
  induction n with
  | zero => intro x1 x2 x3 w v h; rw [x_Order_enter_18] at h; cases h
  | succ n ih =>
    intro x1 x2 x3 w v h
    rw [x_Order_enter_18] at h
    refine aw_iload_n (pc := 18) (q := 3) dX2_enter_18 rfl ?_
    refine aw_if_le (pc := 19) (tgt := 68) dX2_enter_19 (by decide) (fun hc => ?_) (fun hc => ?_)
    · rw [if_pos hc] at h
      exact aw_sel [0, 1, 2, 3] rfl (w_x_Order_enter_68 N d  _ _ _ _ _ h)
    · rw [if_neg hc] at h
      refine aw_aload_n (pc := 22) (q := 0) dX2_enter_22 rfl ?_
      refine aw_getf (pc := 23) (v := .inr (.inr 20)) dX2_enter_23 fl_RX2_15 (by decide) rfl rfl rfl ?_
      refine aw_iload_n (pc := 26) (q := 3) dX2_enter_26 rfl ?_
      refine aw_iconst (pc := 27) dX2_enter_27 ⟨by decide, by decide⟩ ?_
      refine aw_isub (pc := 28) dX2_enter_28 ?_
      obtain ⟨hb, h⟩ := aw_cks h
      refine aw_ialdv (pc := 29) (v := w 20 ((aw_w (x3 - 1)).toNat)) dX2_enter_29 rfl hb.1 hb.2 rfl ?_
      refine aw_iload_n (pc := 30) (q := 2) dX2_enter_30 rfl ?_
      refine aw_icmp_ge (pc := 31) (tgt := 68) dX2_enter_31 (by decide) (fun hc => ?_) (fun hc => ?_)
      · rw [if_pos hc] at h
        exact aw_sel [0, 1, 2, 3] rfl (w_x_Order_enter_68 N d  _ _ _ _ _ h)
      · rw [if_neg hc] at h
        refine aw_aload_n (pc := 34) (q := 0) dX2_enter_34 rfl ?_
        refine aw_getf (pc := 35) (v := .inr (.inr 20)) dX2_enter_35 fl_RX2_15 (by decide) rfl rfl rfl ?_
        refine aw_iload_n (pc := 38) (q := 3) dX2_enter_38 rfl ?_
        refine aw_aload_n (pc := 39) (q := 0) dX2_enter_39 rfl ?_
        refine aw_getf (pc := 40) (v := .inr (.inr 20)) dX2_enter_40 fl_RX2_15 (by decide) rfl rfl rfl ?_
        refine aw_iload_n (pc := 43) (q := 3) dX2_enter_43 rfl ?_
        refine aw_iconst (pc := 44) dX2_enter_44 ⟨by decide, by decide⟩ ?_
        refine aw_isub (pc := 45) dX2_enter_45 ?_
        obtain ⟨hb, h⟩ := aw_cks h
        refine aw_ialdv (pc := 46) (v := w 20 ((aw_w (x3 - 1)).toNat)) dX2_enter_46 rfl hb.1 hb.2 rfl ?_
        obtain ⟨hb, h⟩ := aw_cks h
        refine aw_iast (pc := 47) dX2_enter_47 rfl hb.1 hb.2 ?_
        refine aw_aload_n (pc := 48) (q := 0) dX2_enter_48 rfl ?_
        refine aw_getf (pc := 49) (v := .inr (.inr 19)) dX2_enter_49 fl_RX2_9 (by decide) rfl rfl rfl ?_
        refine aw_iload_n (pc := 52) (q := 3) dX2_enter_52 rfl ?_
        refine aw_aload_n (pc := 53) (q := 0) dX2_enter_53 rfl ?_
        refine aw_getf (pc := 54) (v := .inr (.inr 19)) dX2_enter_54 fl_RX2_9 (by decide) rfl rfl rfl ?_
        refine aw_iload_n (pc := 57) (q := 3) dX2_enter_57 rfl ?_
        refine aw_iconst (pc := 58) dX2_enter_58 ⟨by decide, by decide⟩ ?_
        refine aw_isub (pc := 59) dX2_enter_59 ?_
        obtain ⟨hb, h⟩ := aw_cks h
        refine aw_ialdv (pc := 60) (v := w 19 ((aw_w (x3 - 1)).toNat)) dX2_enter_60 rfl hb.1 hb.2 rfl ?_
        obtain ⟨hb, h⟩ := aw_cks h
        refine aw_iast (pc := 61) dX2_enter_61 rfl hb.1 hb.2 ?_
        refine aw_iinc (pc := 62) (q := 3) (ls' := [(3, .inl (aw_w (x3 + (-1)))), (0, .inr (.inr 18)), (1, .inl x1), (2, .inl x2)]) dX2_enter_62 rfl (by decide) rfl ?_
        refine aw_goto (pc := 65) (tgt := 18) dX2_enter_65 (by decide) ?_
        exact aw_sel [1, 2, 3, 0] rfl (ih _ _ _ _ _ h)
def x_Order_enter (N : Nat) (x1 x2 : Int) (w : aw_W) : Option (aw_W) :=
  if (w 18 2) < 6 then
    x_Order_enter_18 N N x1 x2 (w 18 2) w
  else
    some w
theorem w_x_Order_enter {l : Launch} {K : aw_K} (N d : Nat) (hd : 0 ≤ d) : ∀ (x1 x2 : Int) (w v : aw_W), x_Order_enter N x1 x2 w = some v → aw_Met l K MX2_enter (d) [.inr (.inr 18), .inl x1, .inl x2] w (none, v) := by
  intro x1 x2 w v h
  unfold x_Order_enter at h
  refine aw_enter rfl (Nat.le_of_ble_eq_true rfl) ?_
  show aw_AW l K MX2_enter (d) 0 [(0, .inr (.inr 18)), (1, .inl x1), (2, .inl x2)] [] w (none, v)
  refine aw_aload_n (pc := 0) (q := 0) dX2_enter_0 rfl ?_
  refine aw_getf (pc := 1) (v := .inl (w 18 2)) dX2_enter_1 fl_RX2_18 (by decide) rfl rfl rfl ?_
  refine aw_aload_n (pc := 4) (q := 0) dX2_enter_4 rfl ?_
  refine aw_getf (pc := 5) (v := .inr (.inr 19)) dX2_enter_5 fl_RX2_9 (by decide) rfl rfl rfl ?_
  refine aw_alenv (pc := 8) (x := 6) dX2_enter_8 (by decide) rfl (by decide) rfl ⟨by decide, by decide⟩ ?_
  refine aw_icmp_lt (pc := 9) (tgt := 13) dX2_enter_9 (by decide) (fun hc => ?_) (fun hc => ?_)
  · rw [if_pos hc] at h
    refine aw_aload_n (pc := 13) (q := 0) dX2_enter_13 rfl ?_
    refine aw_getf (pc := 14) (v := .inl (w 18 2)) dX2_enter_14 fl_RX2_18 (by decide) rfl rfl rfl ?_
    refine aw_istore_n (pc := 17) (ls' := [(3, .inl (w 18 2)), (0, .inr (.inr 18)), (1, .inl x1), (2, .inl x2)]) dX2_enter_17 (by decide) rfl ?_
    exact aw_sel [1, 2, 3, 0] rfl (w_x_Order_enter_18 N d  N _ _ _ _ _ h)
  · rw [if_neg hc] at h
    cases h
    exact aw_vret (pc := 12) rfl dX2_enter_12
theorem dX8_settle_0 : decode cX8_settle 0 = .ok (.aload_n 0, 1) := by decide +kernel
theorem dX8_settle_1 : decode cX8_settle 1 = .ok (.getfield 12, 3) := by decide +kernel
theorem dX8_settle_4 : decode cX8_settle 4 = .ok (.invokevirtual 39, 3) := by decide +kernel
theorem dX8_settle_7 : decode cX8_settle 7 = .ok (.iconst 0, 1) := by decide +kernel
theorem dX8_settle_8 : decode cX8_settle 8 = .ok (.istore_n 1, 1) := by decide +kernel
theorem dX8_settle_9 : decode cX8_settle 9 = .ok (.iload_n 1, 1) := by decide +kernel
theorem dX8_settle_10 : decode cX8_settle 10 = .ok (.aload_n 0, 1) := by decide +kernel
theorem dX8_settle_11 : decode cX8_settle 11 = .ok (.getfield 22, 3) := by decide +kernel
theorem dX8_settle_14 : decode cX8_settle 14 = .ok (.getfield 26, 3) := by decide +kernel
theorem dX8_settle_17 : decode cX8_settle 17 = .ok (.if_icmp .ge 23, 3) := by decide +kernel
theorem dX8_settle_20 : decode cX8_settle 20 = .ok (.aload_n 0, 1) := by decide +kernel
theorem dX8_settle_21 : decode cX8_settle 21 = .ok (.getfield 12, 3) := by decide +kernel
theorem dX8_settle_24 : decode cX8_settle 24 = .ok (.iload_n 1, 1) := by decide +kernel
theorem dX8_settle_25 : decode cX8_settle 25 = .ok (.aload_n 0, 1) := by decide +kernel
theorem dX8_settle_26 : decode cX8_settle 26 = .ok (.getfield 18, 3) := by decide +kernel
theorem dX8_settle_29 : decode cX8_settle 29 = .ok (.iload_n 1, 1) := by decide +kernel
theorem dX8_settle_30 : decode cX8_settle 30 = .ok (.iaload, 1) := by decide +kernel
theorem dX8_settle_31 : decode cX8_settle 31 = .ok (.invokevirtual 42, 3) := by decide +kernel
theorem dX8_settle_34 : decode cX8_settle 34 = .ok (.iinc 1 1, 3) := by decide +kernel
theorem dX8_settle_37 : decode cX8_settle 37 = .ok (.goto (-28), 3) := by decide +kernel
theorem dX8_settle_40 : decode cX8_settle 40 = .ok (.aload_n 0, 1) := by decide +kernel
theorem dX8_settle_41 : decode cX8_settle 41 = .ok (.getfield 22, 3) := by decide +kernel
theorem dX8_settle_44 : decode cX8_settle 44 = .ok (.getfield 36, 3) := by decide +kernel
theorem dX8_settle_47 : decode cX8_settle 47 = .ok (.iconst 0, 1) := by decide +kernel
theorem dX8_settle_48 : decode cX8_settle 48 = .ok (.iaload, 1) := by decide +kernel
theorem dX8_settle_49 : decode cX8_settle 49 = .ok (.istore_n 1, 1) := by decide +kernel
theorem dX8_settle_50 : decode cX8_settle 50 = .ok (.aload_n 0, 1) := by decide +kernel
theorem dX8_settle_51 : decode cX8_settle 51 = .ok (.aload_n 0, 1) := by decide +kernel
theorem dX8_settle_52 : decode cX8_settle 52 = .ok (.getfield 12, 3) := by decide +kernel
theorem dX8_settle_55 : decode cX8_settle 55 = .ok (.iload_n 1, 1) := by decide +kernel
theorem dX8_settle_56 : decode cX8_settle 56 = .ok (.aload_n 0, 1) := by decide +kernel
theorem dX8_settle_57 : decode cX8_settle 57 = .ok (.getfield 22, 3) := by decide +kernel
theorem dX8_settle_60 : decode cX8_settle 60 = .ok (.getfield 36, 3) := by decide +kernel
theorem dX8_settle_63 : decode cX8_settle 63 = .ok (.iconst 1, 1) := by decide +kernel
theorem dX8_settle_64 : decode cX8_settle 64 = .ok (.iaload, 1) := by decide +kernel
theorem dX8_settle_65 : decode cX8_settle 65 = .ok (.invokevirtual 46, 3) := by decide +kernel
theorem dX8_settle_68 : decode cX8_settle 68 = .ok (.putfield 50, 3) := by decide +kernel
theorem dX8_settle_71 : decode cX8_settle 71 = .ok (.aload_n 0, 1) := by decide +kernel
theorem dX8_settle_72 : decode cX8_settle 72 = .ok (.aload_n 0, 1) := by decide +kernel
theorem dX8_settle_73 : decode cX8_settle 73 = .ok (.getfield 12, 3) := by decide +kernel
theorem dX8_settle_76 : decode cX8_settle 76 = .ok (.aload_n 0, 1) := by decide +kernel
theorem dX8_settle_77 : decode cX8_settle 77 = .ok (.getfield 22, 3) := by decide +kernel
theorem dX8_settle_80 : decode cX8_settle 80 = .ok (.getfield 36, 3) := by decide +kernel
theorem dX8_settle_83 : decode cX8_settle 83 = .ok (.iconst 1, 1) := by decide +kernel
theorem dX8_settle_84 : decode cX8_settle 84 = .ok (.iaload, 1) := by decide +kernel
theorem dX8_settle_85 : decode cX8_settle 85 = .ok (.invokevirtual 52, 3) := by decide +kernel
theorem dX8_settle_88 : decode cX8_settle 88 = .ok (.putfield 55, 3) := by decide +kernel
theorem dX8_settle_91 : decode cX8_settle 91 = .ok (.aload_n 0, 1) := by decide +kernel
theorem dX8_settle_92 : decode cX8_settle 92 = .ok (.aload_n 0, 1) := by decide +kernel
theorem dX8_settle_93 : decode cX8_settle 93 = .ok (.getfield 55, 3) := by decide +kernel
theorem dX8_settle_96 : decode cX8_settle 96 = .ok (.invokestatic 57, 3) := by decide +kernel
theorem dX8_settle_99 : decode cX8_settle 99 = .ok (.iconst 1, 1) := by decide +kernel
theorem dX8_settle_100 : decode cX8_settle 100 = .ok (.if_icmp .ne 14, 3) := by decide +kernel
theorem dX8_settle_103 : decode cX8_settle 103 = .ok (.aload_n 0, 1) := by decide +kernel
theorem dX8_settle_104 : decode cX8_settle 104 = .ok (.getfield 12, 3) := by decide +kernel
theorem dX8_settle_107 : decode cX8_settle 107 = .ok (.iconst 0, 1) := by decide +kernel
theorem dX8_settle_108 : decode cX8_settle 108 = .ok (.invokevirtual 62, 3) := by decide +kernel
theorem dX8_settle_111 : decode cX8_settle 111 = .ok (.goto 4, 3) := by decide +kernel
theorem dX8_settle_114 : decode cX8_settle 114 = .ok (.iconst (-1), 1) := by decide +kernel
theorem dX8_settle_115 : decode cX8_settle 115 = .ok (.putfield 65, 3) := by decide +kernel
theorem dX8_settle_118 : decode cX8_settle 118 = .ok (.aload_n 0, 1) := by decide +kernel
theorem dX8_settle_119 : decode cX8_settle 119 = .ok (.aload_n 0, 1) := by decide +kernel
theorem dX8_settle_120 : decode cX8_settle 120 = .ok (.getfield 50, 3) := by decide +kernel
theorem dX8_settle_123 : decode cX8_settle 123 = .ok (.iconst (-1), 1) := by decide +kernel
theorem dX8_settle_124 : decode cX8_settle 124 = .ok (.if_icmp .ne 7, 3) := by decide +kernel
theorem dX8_settle_127 : decode cX8_settle 127 = .ok (.iconst 0, 1) := by decide +kernel
theorem dX8_settle_128 : decode cX8_settle 128 = .ok (.goto 10, 3) := by decide +kernel
theorem dX8_settle_131 : decode cX8_settle 131 = .ok (.aload_n 0, 1) := by decide +kernel
theorem dX8_settle_132 : decode cX8_settle 132 = .ok (.iload_n 1, 1) := by decide +kernel
theorem dX8_settle_133 : decode cX8_settle 133 = .ok (.iconst 1, 1) := by decide +kernel
theorem dX8_settle_134 : decode cX8_settle 134 = .ok (.isub, 1) := by decide +kernel
theorem dX8_settle_135 : decode cX8_settle 135 = .ok (.invokevirtual 68, 3) := by decide +kernel
theorem dX8_settle_138 : decode cX8_settle 138 = .ok (.putfield 71, 3) := by decide +kernel
theorem dX8_settle_141 : decode cX8_settle 141 = .ok (.return_, 1) := by decide +kernel
def x_Sale_settle_138 (N : Nat) (s0 : Int) (w : aw_W) : Option (aw_W) :=
  some (aw_up w 17 4 s0)
theorem w_x_Sale_settle_138 {l : Launch} {K : aw_K} (N d : Nat) (hd : 1 ≤ d) : ∀ (s0 : Int) (w v : aw_W), x_Sale_settle_138 N s0 w = some v → aw_AW l K MX8_settle (d + 1) 138 [] [.inl s0, .inr (.inr 17)] w (none, v) := by
  intro s0 w v h
  unfold x_Sale_settle_138 at h
  refine aw_puti (pc := 138) dX8_settle_138 fp_RX8_71 (by decide) rfl rfl ?_
  cases h
  exact aw_vret (pc := 141) rfl dX8_settle_141
def x_Sale_settle_115 (N : Nat) (x1 s0 : Int) (w : aw_W) : Option (aw_W) :=
  if (w 17 3) = (-1) then
    x_Sale_settle_138 N 0 (aw_up w 17 6 s0)
  else
    aw_b2 (x_Sale_price N (aw_w (x1 - 1)) (aw_up w 17 6 s0)) fun r1 w1 =>
      x_Sale_settle_138 N r1 w1
theorem w_x_Sale_settle_115 {l : Launch} {K : aw_K} (N d : Nat) (hd : 1 ≤ d) : ∀ (x1 s0 : Int) (w v : aw_W), x_Sale_settle_115 N x1 s0 w = some v → aw_AW l K MX8_settle (d + 1) 115 [(0, .inr (.inr 17)), (1, .inl x1)] [.inl s0, .inr (.inr 17)] w (none, v) := by
  intro x1 s0 w v h
  unfold x_Sale_settle_115 at h
  refine aw_puti (pc := 115) dX8_settle_115 fp_RX8_65 (by decide) rfl rfl ?_
  refine aw_aload_n (pc := 118) (q := 0) dX8_settle_118 rfl ?_
  refine aw_aload_n (pc := 119) (q := 0) dX8_settle_119 rfl ?_
  refine aw_getf (pc := 120) (v := .inl (w 17 3)) dX8_settle_120 fl_RX8_50 (by decide) rfl rfl rfl ?_
  refine aw_iconst (pc := 123) dX8_settle_123 ⟨by decide, by decide⟩ ?_
  refine aw_icmp_ne (pc := 124) (tgt := 131) dX8_settle_124 (by decide) (fun hc => ?_) (fun hc => ?_)
  · rw [if_neg hc] at h
    refine aw_aload_n (pc := 131) (q := 0) dX8_settle_131 rfl ?_
    refine aw_iload_n (pc := 132) (q := 1) dX8_settle_132 rfl ?_
    refine aw_iconst (pc := 133) dX8_settle_133 ⟨by decide, by decide⟩ ?_
    refine aw_isub (pc := 134) dX8_settle_134 ?_
    obtain ⟨r1, w1, h1, h⟩ := aw_b2s h
    refine aw_callV (pc := 135) (as := [.inl (aw_w (x1 - 1))]) (st := [.inr (.inr 17)]) (st' := [.inl r1, .inr (.inr 17)]) dX8_settle_135 cv_RX8_68 (by decide) rfl rfl rfl rfl (Nat.le_of_ble_eq_true rfl) (w_x_Sale_price N d (by omega) _ _ _ _ h1) rfl ?_
    exact aw_sel [] rfl (w_x_Sale_settle_138 N d hd  _ _ _ h)
  · rw [if_pos hc] at h
    refine aw_iconst (pc := 127) dX8_settle_127 ⟨by decide, by decide⟩ ?_
    refine aw_goto (pc := 128) (tgt := 138) dX8_settle_128 (by decide) ?_
    exact aw_sel [] rfl (w_x_Sale_settle_138 N d hd  _ _ _ h)
def x_Sale_settle_40 (N : Nat) (w : aw_W) : Option (aw_W) :=
  aw_b2 (x_Order_holder N (w 5 0) (w 5 1) w) fun r1 w1 =>
    aw_b2 (x_Order_firsts N (w1 5 1) (aw_up w1 17 3 r1)) fun r2 w2 =>
      aw_b2 (j_Int_bitCount N r2 (aw_up w2 17 5 r2)) fun r3 w3 =>
        if r3 = 1 then
          aw_b2 (x_Order_whoAt N 0 w3) fun r4 w4 =>
            x_Sale_settle_115 N (w 5 0) r4 w4
        else
          x_Sale_settle_115 N (w 5 0) (-1) w3
theorem w_x_Sale_settle_40 {l : Launch} {K : aw_K} (N d : Nat) (hd : 1 ≤ d) : ∀ (w v : aw_W), x_Sale_settle_40 N w = some v → aw_AW l K MX8_settle (d + 1) 40 [(0, .inr (.inr 17))] [] w (none, v) := by
  intro w v h
  unfold x_Sale_settle_40 at h
  refine aw_aload_n (pc := 40) (q := 0) dX8_settle_40 rfl ?_
  refine aw_getf (pc := 41) (v := .inr (.inr 3)) dX8_settle_41 fl_RX8_22 (by decide) rfl rfl rfl ?_
  refine aw_getf (pc := 44) (v := .inr (.inr 5)) dX8_settle_44 fl_RX8_36 (by decide) rfl rfl rfl ?_
  refine aw_iconst (pc := 47) dX8_settle_47 ⟨by decide, by decide⟩ ?_
  refine aw_ialdv (pc := 48) (v := w 5 0) dX8_settle_48 rfl (by decide) (by decide) rfl ?_
  refine aw_istore_n (pc := 49) (ls' := [(1, .inl (w 5 0)), (0, .inr (.inr 17))]) dX8_settle_49 (by decide) rfl ?_
  refine aw_aload_n (pc := 50) (q := 1) dX8_settle_50 rfl ?_
  refine aw_aload_n (pc := 51) (q := 1) dX8_settle_51 rfl ?_
  refine aw_getf (pc := 52) (v := .inr (.inr 18)) dX8_settle_52 fl_RX8_12 (by decide) rfl rfl rfl ?_
  refine aw_iload_n (pc := 55) (q := 0) dX8_settle_55 rfl ?_
  refine aw_aload_n (pc := 56) (q := 1) dX8_settle_56 rfl ?_
  refine aw_getf (pc := 57) (v := .inr (.inr 3)) dX8_settle_57 fl_RX8_22 (by decide) rfl rfl rfl ?_
  refine aw_getf (pc := 60) (v := .inr (.inr 5)) dX8_settle_60 fl_RX8_36 (by decide) rfl rfl rfl ?_
  refine aw_iconst (pc := 63) dX8_settle_63 ⟨by decide, by decide⟩ ?_
  refine aw_ialdv (pc := 64) (v := w 5 1) dX8_settle_64 rfl (by decide) (by decide) rfl ?_
  obtain ⟨r1, w1, h1, h⟩ := aw_b2s h
  refine aw_callV (pc := 65) (as := [.inl (w 5 0), .inl (w 5 1)]) (st := [.inr (.inr 17)]) (st' := [.inl r1, .inr (.inr 17)]) dX8_settle_65 cv_RX8_46 (by decide) rfl rfl rfl rfl (Nat.le_of_ble_eq_true rfl) (w_x_Order_holder N d (by omega) _ _ _ _ _ h1) rfl ?_
  refine aw_puti (pc := 68) dX8_settle_68 fp_RX8_50 (by decide) rfl rfl ?_
  refine aw_aload_n (pc := 71) (q := 1) dX8_settle_71 rfl ?_
  refine aw_aload_n (pc := 72) (q := 1) dX8_settle_72 rfl ?_
  refine aw_getf (pc := 73) (v := .inr (.inr 18)) dX8_settle_73 fl_RX8_12 (by decide) rfl rfl rfl ?_
  refine aw_aload_n (pc := 76) (q := 1) dX8_settle_76 rfl ?_
  refine aw_getf (pc := 77) (v := .inr (.inr 3)) dX8_settle_77 fl_RX8_22 (by decide) rfl rfl rfl ?_
  refine aw_getf (pc := 80) (v := .inr (.inr 5)) dX8_settle_80 fl_RX8_36 (by decide) rfl rfl rfl ?_
  refine aw_iconst (pc := 83) dX8_settle_83 ⟨by decide, by decide⟩ ?_
  refine aw_ialdv (pc := 84) (v := w1 5 1) dX8_settle_84 rfl (by decide) (by decide) rfl ?_
  obtain ⟨r2, w2, h2, h⟩ := aw_b2s h
  refine aw_callV (pc := 85) (as := [.inl (w1 5 1)]) (st := [.inr (.inr 17)]) (st' := [.inl r2, .inr (.inr 17)]) dX8_settle_85 cv_RX8_52 (by decide) rfl rfl rfl rfl (Nat.le_of_ble_eq_true rfl) (w_x_Order_firsts N d (by omega) _ _ _ _ h2) rfl ?_
  refine aw_puti (pc := 88) dX8_settle_88 fp_RX8_55 (by decide) rfl rfl ?_
  refine aw_aload_n (pc := 91) (q := 1) dX8_settle_91 rfl ?_
  refine aw_aload_n (pc := 92) (q := 1) dX8_settle_92 rfl ?_
  refine aw_getf (pc := 93) (v := .inl r2) dX8_settle_93 fl_RX8_55 (by decide) rfl rfl rfl ?_
  obtain ⟨r3, w3, h3, h⟩ := aw_b2s h
  refine aw_callS (pc := 96) (as := [.inl r2]) (st := [.inr (.inr 17)]) (st' := [.inl r3, .inr (.inr 17)]) dX8_settle_96 cs_RX8_57 rfl rfl (Nat.le_of_ble_eq_true rfl) (w_j_Int_bitCount N d (by omega) _ _ _ _ h3) rfl ?_
  refine aw_iconst (pc := 99) dX8_settle_99 ⟨by decide, by decide⟩ ?_
  refine aw_icmp_ne (pc := 100) (tgt := 114) dX8_settle_100 (by decide) (fun hc => ?_) (fun hc => ?_)
  · rw [if_neg hc] at h
    refine aw_iconst (pc := 114) dX8_settle_114 ⟨by decide, by decide⟩ ?_
    exact aw_sel [1, 0] rfl (w_x_Sale_settle_115 N d hd  _ _ _ _ h)
  · rw [if_pos hc] at h
    refine aw_aload_n (pc := 103) (q := 1) dX8_settle_103 rfl ?_
    refine aw_getf (pc := 104) (v := .inr (.inr 18)) dX8_settle_104 fl_RX8_12 (by decide) rfl rfl rfl ?_
    refine aw_iconst (pc := 107) dX8_settle_107 ⟨by decide, by decide⟩ ?_
    obtain ⟨r4, w4, h4, h⟩ := aw_b2s h
    refine aw_callV (pc := 108) (as := [.inl 0]) (st := [.inr (.inr 17)]) (st' := [.inl r4, .inr (.inr 17)]) dX8_settle_108 cv_RX8_62 (by decide) rfl rfl rfl rfl (Nat.le_of_ble_eq_true rfl) (w_x_Order_whoAt N d (by omega) _ _ _ _ h4) rfl ?_
    refine aw_goto (pc := 111) (tgt := 115) dX8_settle_111 (by decide) ?_
    exact aw_sel [1, 0] rfl (w_x_Sale_settle_115 N d hd  _ _ _ _ h)
def x_Sale_settle_9 (N : Nat) : Nat → Int → aw_W → Option (aw_W)
  | 0, _, _ => none
  | n + 1, x1, w =>
    if (w 3 4) ≤ x1 then
      x_Sale_settle_40 N w
    else
      if 0 ≤ x1 ∧ x1 < 6 then
        aw_b1 (x_Order_enter N x1 (w 21 x1.toNat) w) fun w1 =>
          x_Sale_settle_9 N n (aw_w (x1 + 1)) w1
      else none
theorem w_x_Sale_settle_9 {l : Launch} {K : aw_K} (N d : Nat) (hd : 1 ≤ d) : ∀ (n : Nat) (x1 : Int) (w v : aw_W), x_Sale_settle_9 N n x1 w = some v → aw_AW l K MX8_settle (d + 1) 9 [(0, .inr (.inr 17)), (1, .inl x1)] [] w (none, v) := by
  intro n
  induction n with
  | zero => intro x1 w v h; rw [x_Sale_settle_9] at h; cases h
  | succ n ih =>
    intro x1 w v h
    rw [x_Sale_settle_9] at h
    refine aw_iload_n (pc := 9) (q := 1) dX8_settle_9 rfl ?_
    refine aw_aload_n (pc := 10) (q := 0) dX8_settle_10 rfl ?_
    refine aw_getf (pc := 11) (v := .inr (.inr 3)) dX8_settle_11 fl_RX8_22 (by decide) rfl rfl rfl ?_
    refine aw_getf (pc := 14) (v := .inl (w 3 4)) dX8_settle_14 fl_RX8_26 (by decide) rfl rfl rfl ?_
    refine aw_icmp_ge (pc := 17) (tgt := 40) dX8_settle_17 (by decide) (fun hc => ?_) (fun hc => ?_)
    · rw [if_pos hc] at h
      exact aw_sel [0] rfl (w_x_Sale_settle_40 N d hd  _ _ h)
    · rw [if_neg hc] at h
      refine aw_aload_n (pc := 20) (q := 0) dX8_settle_20 rfl ?_
      refine aw_getf (pc := 21) (v := .inr (.inr 18)) dX8_settle_21 fl_RX8_12 (by decide) rfl rfl rfl ?_
      refine aw_iload_n (pc := 24) (q := 1) dX8_settle_24 rfl ?_
      refine aw_aload_n (pc := 25) (q := 0) dX8_settle_25 rfl ?_
      refine aw_getf (pc := 26) (v := .inr (.inr 21)) dX8_settle_26 fl_RX8_18 (by decide) rfl rfl rfl ?_
      refine aw_iload_n (pc := 29) (q := 1) dX8_settle_29 rfl ?_
      obtain ⟨hb, h⟩ := aw_cks h
      refine aw_ialdv (pc := 30) (v := w 21 x1.toNat) dX8_settle_30 rfl hb.1 hb.2 rfl ?_
      obtain ⟨w1, h1, h⟩ := aw_b1s h
      refine aw_callV (pc := 31) (as := [.inl x1, .inl (w 21 x1.toNat)]) (st := []) (st' := []) dX8_settle_31 cv_RX8_42 (by decide) rfl rfl rfl rfl (Nat.le_of_ble_eq_true rfl) (w_x_Order_enter N d (by omega) _ _ _ _ h1) rfl ?_
      refine aw_iinc (pc := 34) (q := 1) (ls' := [(1, .inl (aw_w (x1 + 1))), (0, .inr (.inr 17))]) dX8_settle_34 rfl (by decide) rfl ?_
      refine aw_goto (pc := 37) (tgt := 9) dX8_settle_37 (by decide) ?_
      exact aw_sel [1, 0] rfl (ih _ _ _ h)
def x_Sale_settle (N : Nat) (w : aw_W) : Option (aw_W) :=
  aw_b1 (x_Order_clear N w) fun w1 =>
    x_Sale_settle_9 N N 0 w1
theorem w_x_Sale_settle_d {l : Launch} {K : aw_K} (N d : Nat) (hd : 1 ≤ d) : ∀ (w v : aw_W), x_Sale_settle N w = some v → aw_Met l K MX8_settle (d + 1) [.inr (.inr 17)] w (none, v) := by
  intro w v h
  unfold x_Sale_settle at h
  refine aw_enter rfl (Nat.le_of_ble_eq_true rfl) ?_
  show aw_AW l K MX8_settle (d + 1) 0 [(0, .inr (.inr 17))] [] w (none, v)
  refine aw_aload_n (pc := 0) (q := 0) dX8_settle_0 rfl ?_
  refine aw_getf (pc := 1) (v := .inr (.inr 18)) dX8_settle_1 fl_RX8_12 (by decide) rfl rfl rfl ?_
  obtain ⟨w1, h1, h⟩ := aw_b1s h
  refine aw_callV (pc := 4) (as := []) (st := []) (st' := []) dX8_settle_4 cv_RX8_39 (by decide) rfl rfl rfl rfl (Nat.le_of_ble_eq_true rfl) (w_x_Order_clear N d (by omega) _ _ h1) rfl ?_
  refine aw_iconst (pc := 7) dX8_settle_7 ⟨by decide, by decide⟩ ?_
  refine aw_istore_n (pc := 8) (ls' := [(1, .inl 0), (0, .inr (.inr 17))]) dX8_settle_8 (by decide) rfl ?_
  exact aw_sel [1, 0] rfl (w_x_Sale_settle_9 N d hd  N _ _ _ h)
theorem w_x_Sale_settle {l : Launch} {K : aw_K} (N d : Nat) (hd : 2 ≤ d) : ∀ (w v : aw_W), x_Sale_settle N w = some v → aw_Met l K MX8_settle (d) [.inr (.inr 17)] w (none, v) := by
  obtain ⟨e, rfl⟩ : ∃ e, d = e + 1 := ⟨d - 1, by omega⟩
  exact w_x_Sale_settle_d N e (by omega)
theorem dX8_takings_0 : decode cX8_takings 0 = .ok (.aload_n 0, 1) := by decide +kernel
theorem dX8_takings_1 : decode cX8_takings 1 = .ok (.getfield 71, 3) := by decide +kernel
theorem dX8_takings_4 : decode cX8_takings 4 = .ok (.aload_n 0, 1) := by decide +kernel
theorem dX8_takings_5 : decode cX8_takings 5 = .ok (.getfield 22, 3) := by decide +kernel
theorem dX8_takings_8 : decode cX8_takings 8 = .ok (.getfield 36, 3) := by decide +kernel
theorem dX8_takings_11 : decode cX8_takings 11 = .ok (.iconst 3, 1) := by decide +kernel
theorem dX8_takings_12 : decode cX8_takings 12 = .ok (.iaload, 1) := by decide +kernel
theorem dX8_takings_13 : decode cX8_takings 13 = .ok (.aload_n 0, 1) := by decide +kernel
theorem dX8_takings_14 : decode cX8_takings 14 = .ok (.getfield 55, 3) := by decide +kernel
theorem dX8_takings_17 : decode cX8_takings 17 = .ok (.invokestatic 57, 3) := by decide +kernel
theorem dX8_takings_20 : decode cX8_takings 20 = .ok (.imul, 1) := by decide +kernel
theorem dX8_takings_21 : decode cX8_takings 21 = .ok (.iadd, 1) := by decide +kernel
theorem dX8_takings_22 : decode cX8_takings 22 = .ok (.ireturn, 1) := by decide +kernel
def x_Sale_takings (N : Nat) (w : aw_W) : Option (Int × aw_W) :=
  aw_b2 (j_Int_bitCount N (w 17 5) w) fun r1 w1 =>
    some (aw_w ((w 17 4) + (aw_w ((w 5 3) * r1))), w1)
theorem w_x_Sale_takings_d {l : Launch} {K : aw_K} (N d : Nat) (hd : 0 ≤ d) : ∀ (w : aw_W) (y : Int) (v : aw_W), x_Sale_takings N w = some (y, v) → aw_Met l K MX8_takings (d + 1) [.inr (.inr 17)] w (some (.inl y), v) := by
  intro w y v h
  unfold x_Sale_takings at h
  refine aw_enter rfl (Nat.le_of_ble_eq_true rfl) ?_
  show aw_AW l K MX8_takings (d + 1) 0 [(0, .inr (.inr 17))] [] w (some (.inl y), v)
  refine aw_aload_n (pc := 0) (q := 0) dX8_takings_0 rfl ?_
  refine aw_getf (pc := 1) (v := .inl (w 17 4)) dX8_takings_1 fl_RX8_71 (by decide) rfl rfl rfl ?_
  refine aw_aload_n (pc := 4) (q := 0) dX8_takings_4 rfl ?_
  refine aw_getf (pc := 5) (v := .inr (.inr 3)) dX8_takings_5 fl_RX8_22 (by decide) rfl rfl rfl ?_
  refine aw_getf (pc := 8) (v := .inr (.inr 5)) dX8_takings_8 fl_RX8_36 (by decide) rfl rfl rfl ?_
  refine aw_iconst (pc := 11) dX8_takings_11 ⟨by decide, by decide⟩ ?_
  refine aw_ialdv (pc := 12) (v := w 5 3) dX8_takings_12 rfl (by decide) (by decide) rfl ?_
  refine aw_aload_n (pc := 13) (q := 0) dX8_takings_13 rfl ?_
  refine aw_getf (pc := 14) (v := .inl (w 17 5)) dX8_takings_14 fl_RX8_55 (by decide) rfl rfl rfl ?_
  obtain ⟨r1, w1, h1, h⟩ := aw_b2s h
  refine aw_callS (pc := 17) (as := [.inl (w 17 5)]) (st := [.inl (w 5 3), .inl (w 17 4)]) (st' := [.inl r1, .inl (w 5 3), .inl (w 17 4)]) dX8_takings_17 cs_RX8_57 rfl rfl (Nat.le_of_ble_eq_true rfl) (w_j_Int_bitCount N d (by omega) _ _ _ _ h1) rfl ?_
  refine aw_imul (pc := 20) dX8_takings_20 ?_
  refine aw_iadd (pc := 21) dX8_takings_21 ?_
  cases h
  exact aw_iret (pc := 22) rfl dX8_takings_22
theorem w_x_Sale_takings {l : Launch} {K : aw_K} (N d : Nat) (hd : 1 ≤ d) : ∀ (w : aw_W) (y : Int) (v : aw_W), x_Sale_takings N w = some (y, v) → aw_Met l K MX8_takings (d) [.inr (.inr 17)] w (some (.inl y), v) := by
  obtain ⟨e, rfl⟩ : ∃ e, d = e + 1 := ⟨d - 1, by omega⟩
  exact w_x_Sale_takings_d N e (by omega)
