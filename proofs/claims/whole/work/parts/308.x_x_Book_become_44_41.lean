def x_Book_become_44_41 (N : Nat) (w : aw_W) : Option (aw_W) :=
  some (aw_up (aw_cpy (w 42) w 45 0 0 40) 44 4 (w 41 4))
theorem w_x_Book_become_44_41 {l : Launch} {K : aw_K} (N d : Nat) (hd : 0 ≤ d) : ∀ (w v : aw_W), x_Book_become_44_41 N w = some v → aw_Met l K MX0_become (d) [.inr (.inr 44), .inr (.inr 41)] w (none, v) := by
  intro w v h
  unfold x_Book_become_44_41 at h
  refine aw_enter rfl (Nat.le_of_ble_eq_true rfl) ?_
  show aw_AW l K MX0_become (d) 0 [(0, .inr (.inr 44)), (1, .inr (.inr 41))] [] w (none, v)
  refine aw_aload_n (pc := 0) (q := 1) dX0_become_0 rfl ?_
  refine aw_getf (pc := 1) (v := .inr (.inr 42)) dX0_become_1 fl_RX0_9 (by decide) rfl rfl rfl ?_
  refine aw_iconst (pc := 4) dX0_become_4 ⟨by decide, by decide⟩ ?_
  refine aw_aload_n (pc := 5) (q := 0) dX0_become_5 rfl ?_
  refine aw_getf (pc := 6) (v := .inr (.inr 45)) dX0_become_6 fl_RX0_9 (by decide) rfl rfl rfl ?_
  refine aw_iconst (pc := 9) dX0_become_9 ⟨by decide, by decide⟩ ?_
  refine aw_bipush (pc := 10) dX0_become_10 (by decide) ⟨by decide, by decide⟩ ?_
  refine aw_copyW (pc := 12) dX0_become_12 cc_RX0_26 rfl rfl (by decide) (by decide) (by decide) (by decide) (by decide) (by decide) (by decide) (Nat.le_of_ble_eq_true rfl) ?_
  refine aw_aload_n (pc := 15) (q := 0) dX0_become_15 rfl ?_
  refine aw_aload_n (pc := 16) (q := 1) dX0_become_16 rfl ?_
  refine aw_getf (pc := 17) (v := .inl (w 41 4)) dX0_become_17 fl_RX0_32 (by decide) rfl rfl rfl ?_
  refine aw_puti (pc := 20) dX0_become_20 fp_RX0_32 (by decide) rfl rfl ?_
  cases h
  exact aw_vret (pc := 23) rfl dX0_become_23
theorem dX11_image_0 : decode cX11_image 0 = .ok (.aload_n 0, 1) := by decide +kernel
theorem dX11_image_1 : decode cX11_image 1 = .ok (.getfield 19, 3) := by decide +kernel
theorem dX11_image_4 : decode cX11_image 4 = .ok (.getfield 136, 3) := by decide +kernel
theorem dX11_image_7 : decode cX11_image 7 = .ok (.ifCond .ne 5, 3) := by decide +kernel
theorem dX11_image_10 : decode cX11_image 10 = .ok (.iconst (-1), 1) := by decide +kernel
theorem dX11_image_11 : decode cX11_image 11 = .ok (.ireturn, 1) := by decide +kernel
theorem dX11_image_12 : decode cX11_image 12 = .ok (.aload_n 0, 1) := by decide +kernel
theorem dX11_image_13 : decode cX11_image 13 = .ok (.getfield 88, 3) := by decide +kernel
theorem dX11_image_16 : decode cX11_image 16 = .ok (.aload_n 0, 1) := by decide +kernel
theorem dX11_image_17 : decode cX11_image 17 = .ok (.getfield 84, 3) := by decide +kernel
theorem dX11_image_20 : decode cX11_image 20 = .ok (.invokevirtual 329, 3) := by decide +kernel
theorem dX11_image_23 : decode cX11_image 23 = .ok (.aload_n 0, 1) := by decide +kernel
theorem dX11_image_24 : decode cX11_image 24 = .ok (.getfield 19, 3) := by decide +kernel
theorem dX11_image_27 : decode cX11_image 27 = .ok (.getfield 151, 3) := by decide +kernel
theorem dX11_image_30 : decode cX11_image 30 = .ok (.iconst 0, 1) := by decide +kernel
theorem dX11_image_31 : decode cX11_image 31 = .ok (.aload_n 0, 1) := by decide +kernel
theorem dX11_image_32 : decode cX11_image 32 = .ok (.getfield 91, 3) := by decide +kernel
theorem dX11_image_35 : decode cX11_image 35 = .ok (.iconst 0, 1) := by decide +kernel
theorem dX11_image_36 : decode cX11_image 36 = .ok (.iconst 5, 1) := by decide +kernel
theorem dX11_image_37 : decode cX11_image 37 = .ok (.invokestatic 332, 3) := by decide +kernel
theorem dX11_image_40 : decode cX11_image 40 = .ok (.aload_n 0, 1) := by decide +kernel
theorem dX11_image_41 : decode cX11_image 41 = .ok (.getfield 19, 3) := by decide +kernel
theorem dX11_image_44 : decode cX11_image 44 = .ok (.getfield 144, 3) := by decide +kernel
theorem dX11_image_47 : decode cX11_image 47 = .ok (.iconst 0, 1) := by decide +kernel
theorem dX11_image_48 : decode cX11_image 48 = .ok (.aload_n 0, 1) := by decide +kernel
theorem dX11_image_49 : decode cX11_image 49 = .ok (.getfield 95, 3) := by decide +kernel
theorem dX11_image_52 : decode cX11_image 52 = .ok (.iconst 0, 1) := by decide +kernel
theorem dX11_image_53 : decode cX11_image 53 = .ok (.bipush 6, 2) := by decide +kernel
theorem dX11_image_55 : decode cX11_image 55 = .ok (.invokestatic 332, 3) := by decide +kernel
theorem dX11_image_58 : decode cX11_image 58 = .ok (.aload_n 0, 1) := by decide +kernel
theorem dX11_image_59 : decode cX11_image 59 = .ok (.iconst 1, 1) := by decide +kernel
theorem dX11_image_60 : decode cX11_image 60 = .ok (.putfield 98, 3) := by decide +kernel
theorem dX11_image_63 : decode cX11_image 63 = .ok (.aload_n 0, 1) := by decide +kernel
theorem dX11_image_64 : decode cX11_image 64 = .ok (.getfield 84, 3) := by decide +kernel
theorem dX11_image_67 : decode cX11_image 67 = .ok (.getfield 132, 3) := by decide +kernel
theorem dX11_image_70 : decode cX11_image 70 = .ok (.ireturn, 1) := by decide +kernel
def x_image (N : Nat) (w : aw_W) : Option (Int × aw_W) :=
  if (w 3 4) = 0 then
    some ((-1), w)
  else
    aw_b1 (x_Book_become_44_41 N w) fun w1 =>
      some (w1 41 4, (aw_up (aw_cpy ((aw_cpy (w1 5) w1 47 0 0 5) 6) (aw_cpy (w1 5) w1 47 0 0 5) 48 0 0 6) 0 14 1))
theorem w_x_image_d {l : Launch} {K : aw_K} (N d : Nat) (hd : 0 ≤ d) : ∀ (w : aw_W) (y : Int) (v : aw_W), x_image N w = some (y, v) → aw_Met l K MX11_image (d + 1) [.inr (.inr 0)] w (some (.inl y), v) := by
  intro w y v h
  unfold x_image at h
  refine aw_enter rfl (Nat.le_of_ble_eq_true rfl) ?_
  show aw_AW l K MX11_image (d + 1) 0 [(0, .inr (.inr 0))] [] w (some (.inl y), v)
  refine aw_aload_n (pc := 0) (q := 0) dX11_image_0 rfl ?_
  refine aw_getf (pc := 1) (v := .inr (.inr 3)) dX11_image_1 fl_RX11_19 (by decide) rfl rfl rfl ?_
  refine aw_getf (pc := 4) (v := .inl (w 3 4)) dX11_image_4 fl_RX11_136 (by decide) rfl rfl rfl ?_
  refine aw_if_ne (pc := 7) (tgt := 12) dX11_image_7 (by decide) (fun hc => ?_) (fun hc => ?_)
  · rw [if_neg hc] at h
    refine aw_aload_n (pc := 12) (q := 0) dX11_image_12 rfl ?_
    refine aw_getf (pc := 13) (v := .inr (.inr 44)) dX11_image_13 fl_RX11_88 (by decide) rfl rfl rfl ?_
    refine aw_aload_n (pc := 16) (q := 0) dX11_image_16 rfl ?_
    refine aw_getf (pc := 17) (v := .inr (.inr 41)) dX11_image_17 fl_RX11_84 (by decide) rfl rfl rfl ?_
    obtain ⟨w1, h1, h⟩ := aw_b1s h
    refine aw_callV (pc := 20) (as := [.inr (.inr 41)]) (st := []) (st' := []) dX11_image_20 cv_RX11_329 (by decide) rfl rfl rfl rfl (Nat.le_of_ble_eq_true rfl) (w_x_Book_become_44_41 N d (by omega) _ _ h1) rfl ?_
    refine aw_aload_n (pc := 23) (q := 0) dX11_image_23 rfl ?_
    refine aw_getf (pc := 24) (v := .inr (.inr 3)) dX11_image_24 fl_RX11_19 (by decide) rfl rfl rfl ?_
    refine aw_getf (pc := 27) (v := .inr (.inr 5)) dX11_image_27 fl_RX11_151 (by decide) rfl rfl rfl ?_
    refine aw_iconst (pc := 30) dX11_image_30 ⟨by decide, by decide⟩ ?_
    refine aw_aload_n (pc := 31) (q := 0) dX11_image_31 rfl ?_
    refine aw_getf (pc := 32) (v := .inr (.inr 47)) dX11_image_32 fl_RX11_91 (by decide) rfl rfl rfl ?_
    refine aw_iconst (pc := 35) dX11_image_35 ⟨by decide, by decide⟩ ?_
    refine aw_iconst (pc := 36) dX11_image_36 ⟨by decide, by decide⟩ ?_
    refine aw_copyW (pc := 37) dX11_image_37 cc_RX11_332 rfl rfl (by decide) (by decide) (by decide) (by decide) (by decide) (by decide) (by decide) (Nat.le_of_ble_eq_true rfl) ?_
    refine aw_aload_n (pc := 40) (q := 0) dX11_image_40 rfl ?_
    refine aw_getf (pc := 41) (v := .inr (.inr 3)) dX11_image_41 fl_RX11_19 (by decide) rfl rfl rfl ?_
    refine aw_getf (pc := 44) (v := .inr (.inr 6)) dX11_image_44 fl_RX11_144 (by decide) rfl rfl rfl ?_
    refine aw_iconst (pc := 47) dX11_image_47 ⟨by decide, by decide⟩ ?_
    refine aw_aload_n (pc := 48) (q := 0) dX11_image_48 rfl ?_
    refine aw_getf (pc := 49) (v := .inr (.inr 48)) dX11_image_49 fl_RX11_95 (by decide) rfl rfl rfl ?_
    refine aw_iconst (pc := 52) dX11_image_52 ⟨by decide, by decide⟩ ?_
    refine aw_bipush (pc := 53) dX11_image_53 (by decide) ⟨by decide, by decide⟩ ?_
    refine aw_copyW (pc := 55) dX11_image_55 cc_RX11_332 rfl rfl (by decide) (by decide) (by decide) (by decide) (by decide) (by decide) (by decide) (Nat.le_of_ble_eq_true rfl) ?_
    refine aw_aload_n (pc := 58) (q := 0) dX11_image_58 rfl ?_
    refine aw_iconst (pc := 59) dX11_image_59 ⟨by decide, by decide⟩ ?_
    refine aw_putz (pc := 60) dX11_image_60 fp_RX11_98 (by decide) rfl rfl (by decide) ?_
    refine aw_aload_n (pc := 63) (q := 0) dX11_image_63 rfl ?_
    refine aw_getf (pc := 64) (v := .inr (.inr 41)) dX11_image_64 fl_RX11_84 (by decide) rfl rfl rfl ?_
    refine aw_getf (pc := 67) (v := .inl (w1 41 4)) dX11_image_67 fl_RX11_132 (by decide) rfl rfl rfl ?_
    cases h
    exact aw_iret (pc := 70) rfl dX11_image_70
  · rw [if_pos hc] at h
    refine aw_iconst (pc := 10) dX11_image_10 ⟨by decide, by decide⟩ ?_
    cases h
    exact aw_iret (pc := 11) rfl dX11_image_11
theorem w_x_image {l : Launch} {K : aw_K} (N d : Nat) (hd : 1 ≤ d) : ∀ (w : aw_W) (y : Int) (v : aw_W), x_image N w = some (y, v) → aw_Met l K MX11_image (d) [.inr (.inr 0)] w (some (.inl y), v) := by
  obtain ⟨e, rfl⟩ : ∃ e, d = e + 1 := ⟨d - 1, by omega⟩
  exact w_x_image_d N e (by omega)
theorem dX11_latest_0 : decode cX11_latest 0 = .ok (.aload_n 0, 1) := by decide +kernel
theorem dX11_latest_1 : decode cX11_latest 1 = .ok (.getfield 19, 3) := by decide +kernel
theorem dX11_latest_4 : decode cX11_latest 4 = .ok (.getfield 136, 3) := by decide +kernel
theorem dX11_latest_7 : decode cX11_latest 7 = .ok (.ifCond .eq 11, 3) := by decide +kernel
theorem dX11_latest_10 : decode cX11_latest 10 = .ok (.iload_n 1, 1) := by decide +kernel
theorem dX11_latest_11 : decode cX11_latest 11 = .ok (.iconst 1, 1) := by decide +kernel
theorem dX11_latest_12 : decode cX11_latest 12 = .ok (.invokestatic 161, 3) := by decide +kernel
theorem dX11_latest_15 : decode cX11_latest 15 = .ok (.ifCond .ne 6, 3) := by decide +kernel
theorem dX11_latest_18 : decode cX11_latest 18 = .ok (.ldc 165, 2) := by decide +kernel
theorem dX11_latest_20 : decode cX11_latest 20 = .ok (.ireturn, 1) := by decide +kernel
theorem dX11_latest_21 : decode cX11_latest 21 = .ok (.aload_n 0, 1) := by decide +kernel
theorem dX11_latest_22 : decode cX11_latest 22 = .ok (.getfield 63, 3) := by decide +kernel
theorem dX11_latest_25 : decode cX11_latest 25 = .ok (.invokevirtual 166, 3) := by decide +kernel
theorem dX11_latest_28 : decode cX11_latest 28 = .ok (.iconst 1, 1) := by decide +kernel
theorem dX11_latest_29 : decode cX11_latest 29 = .ok (.istore_n 2, 1) := by decide +kernel
theorem dX11_latest_30 : decode cX11_latest 30 = .ok (.iload_n 2, 1) := by decide +kernel
theorem dX11_latest_31 : decode cX11_latest 31 = .ok (.bipush 99, 2) := by decide +kernel
theorem dX11_latest_33 : decode cX11_latest 33 = .ok (.if_icmp .gt 32, 3) := by decide +kernel
theorem dX11_latest_36 : decode cX11_latest 36 = .ok (.aload_n 0, 1) := by decide +kernel
theorem dX11_latest_37 : decode cX11_latest 37 = .ok (.getfield 63, 3) := by decide +kernel
theorem dX11_latest_40 : decode cX11_latest 40 = .ok (.iload_n 1, 1) := by decide +kernel
theorem dX11_latest_41 : decode cX11_latest 41 = .ok (.iload_n 2, 1) := by decide +kernel
theorem dX11_latest_42 : decode cX11_latest 42 = .ok (.iload_n 2, 1) := by decide +kernel
theorem dX11_latest_43 : decode cX11_latest 43 = .ok (.invokevirtual 169, 3) := by decide +kernel
theorem dX11_latest_46 : decode cX11_latest 46 = .ok (.aload_n 0, 1) := by decide +kernel
theorem dX11_latest_47 : decode cX11_latest 47 = .ok (.getfield 63, 3) := by decide +kernel
theorem dX11_latest_50 : decode cX11_latest 50 = .ok (.invokevirtual 173, 3) := by decide +kernel
theorem dX11_latest_53 : decode cX11_latest 53 = .ok (.iconst (-1), 1) := by decide +kernel
theorem dX11_latest_54 : decode cX11_latest 54 = .ok (.if_icmp .eq 5, 3) := by decide +kernel
theorem dX11_latest_57 : decode cX11_latest 57 = .ok (.iload_n 2, 1) := by decide +kernel
theorem dX11_latest_58 : decode cX11_latest 58 = .ok (.ireturn, 1) := by decide +kernel
theorem dX11_latest_59 : decode cX11_latest 59 = .ok (.iinc 2 1, 3) := by decide +kernel
theorem dX11_latest_62 : decode cX11_latest 62 = .ok (.goto (-32), 3) := by decide +kernel
theorem dX11_latest_65 : decode cX11_latest 65 = .ok (.iconst (-1), 1) := by decide +kernel
theorem dX11_latest_66 : decode cX11_latest 66 = .ok (.ireturn, 1) := by decide +kernel
def x_latest_18 (N : Nat) (w : aw_W) : Option (Int × aw_W) :=
  some ((-1000000), w)
theorem w_x_latest_18 {l : Launch} {K : aw_K} (N d : Nat) (hd : 4 ≤ d) : ∀ (w : aw_W) (y : Int) (v : aw_W), x_latest_18 N w = some (y, v) → aw_AW l K MX11_latest (d + 1) 18 [] [] w (some (.inl y), v) := by
  intro w y v h
  unfold x_latest_18 at h
  refine aw_ldc (pc := 18) (x := (-1000000)) dX11_latest_18 cn_RX11_165 ⟨by decide, by decide⟩ ?_
  cases h
  exact aw_iret (pc := 20) rfl dX11_latest_20
def x_latest_65 (N : Nat) (w : aw_W) : Option (Int × aw_W) :=
  some ((-1), w)
theorem w_x_latest_65 {l : Launch} {K : aw_K} (N d : Nat) (hd : 4 ≤ d) : ∀ (w : aw_W) (y : Int) (v : aw_W), x_latest_65 N w = some (y, v) → aw_AW l K MX11_latest (d + 1) 65 [] [] w (some (.inl y), v) := by
  intro w y v h
  unfold x_latest_65 at h
  refine aw_iconst (pc := 65) dX11_latest_65 ⟨by decide, by decide⟩ ?_
  cases h
  exact aw_iret (pc := 66) rfl dX11_latest_66
def x_latest_57 (N : Nat) (x2 : Int) (w : aw_W) : Option (Int × aw_W) :=
  some (x2, w)
theorem w_x_latest_57 {l : Launch} {K : aw_K} (N d : Nat) (hd : 4 ≤ d) : ∀ (x2 : Int) (w : aw_W) (y : Int) (v : aw_W), x_latest_57 N x2 w = some (y, v) → aw_AW l K MX11_latest (d + 1) 57 [(2, .inl x2)] [] w (some (.inl y), v) := by
  intro x2 w y v h
  unfold x_latest_57 at h
  refine aw_iload_n (pc := 57) (q := 0) dX11_latest_57 rfl ?_
  cases h
  exact aw_iret (pc := 58) rfl dX11_latest_58
def x_latest_30 (N : Nat) : Nat → Int → Int → aw_W → Option (Int × aw_W)
  | 0, _, _, _ => none
  | n + 1, x1, x2, w =>
    if 99 < x2 then
      x_latest_65 N w
    else
      aw_b1 (x_Race_go N x1 x2 x2 w) fun w1 =>
        aw_b2 (x_Race_holder N w1) fun r2 w2 =>
          if r2 = (-1) then
            x_latest_30 N n x1 (aw_w (x2 + 1)) w2
          else
            x_latest_57 N x2 w2
theorem w_x_latest_30 {l : Launch} {K : aw_K} (N d : Nat) (hd : 4 ≤ d) : ∀ (n : Nat) (x1 x2 : Int) (w : aw_W) (y : Int) (v : aw_W), x_latest_30 N n x1 x2 w = some (y, v) → aw_AW l K MX11_latest (d + 1) 30 [(0, .inr (.inr 0)), (1, .inl x1), (2, .inl x2)] [] w (some (.inl y), v) := by
  intro n
  induction n with
  | zero => intro x1 x2 w y v h; rw [x_latest_30] at h; cases h
  | succ n ih =>
    intro x1 x2 w y v h
    rw [x_latest_30] at h
    refine aw_iload_n (pc := 30) (q := 2) dX11_latest_30 rfl ?_
    refine aw_bipush (pc := 31) dX11_latest_31 (by decide) ⟨by decide, by decide⟩ ?_
    refine aw_icmp_gt (pc := 33) (tgt := 65) dX11_latest_33 (by decide) (fun hc => ?_) (fun hc => ?_)
    · rw [if_pos hc] at h
      exact aw_sel [] rfl (w_x_latest_65 N d hd  _ _ _ h)
    · rw [if_neg hc] at h
      refine aw_aload_n (pc := 36) (q := 0) dX11_latest_36 rfl ?_
      refine aw_getf (pc := 37) (v := .inr (.inr 26)) dX11_latest_37 fl_RX11_63 (by decide) rfl rfl rfl ?_
      refine aw_iload_n (pc := 40) (q := 1) dX11_latest_40 rfl ?_
      refine aw_iload_n (pc := 41) (q := 2) dX11_latest_41 rfl ?_
      refine aw_iload_n (pc := 42) (q := 2) dX11_latest_42 rfl ?_
      obtain ⟨w1, h1, h⟩ := aw_b1s h
      refine aw_callV (pc := 43) (as := [.inl x1, .inl x2, .inl x2]) (st := []) (st' := []) dX11_latest_43 cv_RX11_169 (by decide) rfl rfl rfl rfl (Nat.le_of_ble_eq_true rfl) (w_x_Race_go N d (by omega) _ _ _ _ _ h1) rfl ?_
      refine aw_aload_n (pc := 46) (q := 0) dX11_latest_46 rfl ?_
      refine aw_getf (pc := 47) (v := .inr (.inr 26)) dX11_latest_47 fl_RX11_63 (by decide) rfl rfl rfl ?_
      obtain ⟨r2, w2, h2, h⟩ := aw_b2s h
      refine aw_callV (pc := 50) (as := []) (st := []) (st' := [.inl r2]) dX11_latest_50 cv_RX11_173 (by decide) rfl rfl rfl rfl (Nat.le_of_ble_eq_true rfl) (w_x_Race_holder N d (by omega) _ _ _ h2) rfl ?_
      refine aw_iconst (pc := 53) dX11_latest_53 ⟨by decide, by decide⟩ ?_
      refine aw_icmp_eq (pc := 54) (tgt := 59) dX11_latest_54 (by decide) (fun hc => ?_) (fun hc => ?_)
      · rw [if_pos hc] at h
        refine aw_iinc (pc := 59) (q := 2) (ls' := [(2, .inl (aw_w (x2 + 1))), (0, .inr (.inr 0)), (1, .inl x1)]) dX11_latest_59 rfl (by decide) rfl ?_
        refine aw_goto (pc := 62) (tgt := 30) dX11_latest_62 (by decide) ?_
        exact aw_sel [1, 2, 0] rfl (ih _ _ _ _ _ h)
      · rw [if_neg hc] at h
        exact aw_sel [2] rfl (w_x_latest_57 N d hd  _ _ _ _ h)
def x_latest (N : Nat) (x1 : Int) (w : aw_W) : Option (Int × aw_W) :=
  if (w 3 4) = 0 then
    x_latest_18 N w
  else
    aw_b2 (x_mayRun N x1 1 w) fun r1 w1 =>
      if r1 = 0 then
        x_latest_18 N w1
      else
        aw_b1 (x_Race_rulesAsTold N w1) fun w2 =>
          x_latest_30 N N x1 1 w2
theorem w_x_latest_d {l : Launch} {K : aw_K} (N d : Nat) (hd : 4 ≤ d) : ∀ (x1 : Int) (w : aw_W) (y : Int) (v : aw_W), x_latest N x1 w = some (y, v) → aw_Met l K MX11_latest (d + 1) [.inr (.inr 0), .inl x1] w (some (.inl y), v) := by
  intro x1 w y v h
  unfold x_latest at h
  refine aw_enter rfl (Nat.le_of_ble_eq_true rfl) ?_
  show aw_AW l K MX11_latest (d + 1) 0 [(0, .inr (.inr 0)), (1, .inl x1)] [] w (some (.inl y), v)
  refine aw_aload_n (pc := 0) (q := 0) dX11_latest_0 rfl ?_
  refine aw_getf (pc := 1) (v := .inr (.inr 3)) dX11_latest_1 fl_RX11_19 (by decide) rfl rfl rfl ?_
  refine aw_getf (pc := 4) (v := .inl (w 3 4)) dX11_latest_4 fl_RX11_136 (by decide) rfl rfl rfl ?_
  refine aw_if_eq (pc := 7) (tgt := 18) dX11_latest_7 (by decide) (fun hc => ?_) (fun hc => ?_)
  · rw [if_pos hc] at h
    exact aw_sel [] rfl (w_x_latest_18 N d hd  _ _ _ h)
  · rw [if_neg hc] at h
    refine aw_iload_n (pc := 10) (q := 1) dX11_latest_10 rfl ?_
    refine aw_iconst (pc := 11) dX11_latest_11 ⟨by decide, by decide⟩ ?_
    obtain ⟨r1, w1, h1, h⟩ := aw_b2s h
    refine aw_callS (pc := 12) (as := [.inl x1, .inl 1]) (st := []) (st' := [.inl r1]) dX11_latest_12 cs_RX11_161 rfl rfl (Nat.le_of_ble_eq_true rfl) (w_x_mayRun N d (by omega) _ _ _ _ _ h1) rfl ?_
    refine aw_if_ne (pc := 15) (tgt := 21) dX11_latest_15 (by decide) (fun hc => ?_) (fun hc => ?_)
    · rw [if_neg hc] at h
      refine aw_aload_n (pc := 21) (q := 0) dX11_latest_21 rfl ?_
      refine aw_getf (pc := 22) (v := .inr (.inr 26)) dX11_latest_22 fl_RX11_63 (by decide) rfl rfl rfl ?_
      obtain ⟨w2, h2, h⟩ := aw_b1s h
      refine aw_callV (pc := 25) (as := []) (st := []) (st' := []) dX11_latest_25 cv_RX11_166 (by decide) rfl rfl rfl rfl (Nat.le_of_ble_eq_true rfl) (w_x_Race_rulesAsTold N d (by omega) _ _ h2) rfl ?_
      refine aw_iconst (pc := 28) dX11_latest_28 ⟨by decide, by decide⟩ ?_
      refine aw_istore_n (pc := 29) (ls' := [(2, .inl 1), (0, .inr (.inr 0)), (1, .inl x1)]) dX11_latest_29 (by decide) rfl ?_
      exact aw_sel [1, 2, 0] rfl (w_x_latest_30 N d hd  N _ _ _ _ _ h)
    · rw [if_pos hc] at h
      exact aw_sel [] rfl (w_x_latest_18 N d hd  _ _ _ h)
theorem w_x_latest {l : Launch} {K : aw_K} (N d : Nat) (hd : 5 ≤ d) : ∀ (x1 : Int) (w : aw_W) (y : Int) (v : aw_W), x_latest N x1 w = some (y, v) → aw_Met l K MX11_latest (d) [.inr (.inr 0), .inl x1] w (some (.inl y), v) := by
  obtain ⟨e, rfl⟩ : ∃ e, d = e + 1 := ⟨d - 1, by omega⟩
  exact w_x_latest_d N e (by omega)
theorem dX11_law_0 : decode cX11_law 0 = .ok (.aload_n 0, 1) := by decide +kernel
theorem dX11_law_1 : decode cX11_law 1 = .ok (.getfield 19, 3) := by decide +kernel
theorem dX11_law_4 : decode cX11_law 4 = .ok (.getfield 136, 3) := by decide +kernel
theorem dX11_law_7 : decode cX11_law 7 = .ok (.ifCond .eq 12, 3) := by decide +kernel
theorem dX11_law_10 : decode cX11_law 10 = .ok (.iload_n 1, 1) := by decide +kernel
theorem dX11_law_11 : decode cX11_law 11 = .ok (.ifCond .lt 8, 3) := by decide +kernel
theorem dX11_law_14 : decode cX11_law 14 = .ok (.iload_n 1, 1) := by decide +kernel
theorem dX11_law_15 : decode cX11_law 15 = .ok (.iconst 5, 1) := by decide +kernel
theorem dX11_law_16 : decode cX11_law 16 = .ok (.if_icmp .lt 7, 3) := by decide +kernel
theorem dX11_law_19 : decode cX11_law 19 = .ok (.iconst (-1), 1) := by decide +kernel
theorem dX11_law_20 : decode cX11_law 20 = .ok (.goto 12, 3) := by decide +kernel
theorem dX11_law_23 : decode cX11_law 23 = .ok (.aload_n 0, 1) := by decide +kernel
theorem dX11_law_24 : decode cX11_law 24 = .ok (.getfield 19, 3) := by decide +kernel
theorem dX11_law_27 : decode cX11_law 27 = .ok (.getfield 151, 3) := by decide +kernel
theorem dX11_law_30 : decode cX11_law 30 = .ok (.iload_n 1, 1) := by decide +kernel
theorem dX11_law_31 : decode cX11_law 31 = .ok (.iaload, 1) := by decide +kernel
theorem dX11_law_32 : decode cX11_law 32 = .ok (.ireturn, 1) := by decide +kernel
def x_law_32 (N : Nat) (s0 : Int) (w : aw_W) : Option (Int × aw_W) :=
  some (s0, w)
theorem w_x_law_32 {l : Launch} {K : aw_K} (N d : Nat) : ∀ (s0 : Int) (w : aw_W) (y : Int) (v : aw_W), x_law_32 N s0 w = some (y, v) → aw_AW l K MX11_law (d) 32 [] [.inl s0] w (some (.inl y), v) := by
  intro s0 w y v h
  unfold x_law_32 at h
  cases h
  exact aw_iret (pc := 32) rfl dX11_law_32
def x_law_19 (N : Nat) (w : aw_W) : Option (Int × aw_W) :=
  x_law_32 N (-1) w
theorem w_x_law_19 {l : Launch} {K : aw_K} (N d : Nat) : ∀ (w : aw_W) (y : Int) (v : aw_W), x_law_19 N w = some (y, v) → aw_AW l K MX11_law (d) 19 [] [] w (some (.inl y), v) := by
  intro w y v h
  unfold x_law_19 at h
  refine aw_iconst (pc := 19) dX11_law_19 ⟨by decide, by decide⟩ ?_
  refine aw_goto (pc := 20) (tgt := 32) dX11_law_20 (by decide) ?_
  exact aw_sel [] rfl (w_x_law_32 N d  _ _ _ _ h)
def x_law (N : Nat) (x1 : Int) (w : aw_W) : Option (Int × aw_W) :=
  if (w 3 4) = 0 then
    x_law_19 N w
  else
    if x1 < 0 then
      x_law_19 N w
    else
      if x1 < 5 then
        if 0 ≤ x1 ∧ x1 < 5 then
          x_law_32 N (w 5 x1.toNat) w
        else none
      else
        x_law_19 N w
theorem w_x_law {l : Launch} {K : aw_K} (N d : Nat) (hd : 0 ≤ d) : ∀ (x1 : Int) (w : aw_W) (y : Int) (v : aw_W), x_law N x1 w = some (y, v) → aw_Met l K MX11_law (d) [.inr (.inr 0), .inl x1] w (some (.inl y), v) := by
  intro x1 w y v h
  unfold x_law at h
  refine aw_enter rfl (Nat.le_of_ble_eq_true rfl) ?_
  show aw_AW l K MX11_law (d) 0 [(0, .inr (.inr 0)), (1, .inl x1)] [] w (some (.inl y), v)
  refine aw_aload_n (pc := 0) (q := 0) dX11_law_0 rfl ?_
  refine aw_getf (pc := 1) (v := .inr (.inr 3)) dX11_law_1 fl_RX11_19 (by decide) rfl rfl rfl ?_
  refine aw_getf (pc := 4) (v := .inl (w 3 4)) dX11_law_4 fl_RX11_136 (by decide) rfl rfl rfl ?_
  refine aw_if_eq (pc := 7) (tgt := 19) dX11_law_7 (by decide) (fun hc => ?_) (fun hc => ?_)
  · rw [if_pos hc] at h
    exact aw_sel [] rfl (w_x_law_19 N d  _ _ _ h)
  · rw [if_neg hc] at h
    refine aw_iload_n (pc := 10) (q := 1) dX11_law_10 rfl ?_
    refine aw_if_lt (pc := 11) (tgt := 19) dX11_law_11 (by decide) (fun hc => ?_) (fun hc => ?_)
    · rw [if_pos hc] at h
      exact aw_sel [] rfl (w_x_law_19 N d  _ _ _ h)
    · rw [if_neg hc] at h
      refine aw_iload_n (pc := 14) (q := 1) dX11_law_14 rfl ?_
      refine aw_iconst (pc := 15) dX11_law_15 ⟨by decide, by decide⟩ ?_
      refine aw_icmp_lt (pc := 16) (tgt := 23) dX11_law_16 (by decide) (fun hc => ?_) (fun hc => ?_)
      · rw [if_pos hc] at h
        refine aw_aload_n (pc := 23) (q := 0) dX11_law_23 rfl ?_
        refine aw_getf (pc := 24) (v := .inr (.inr 3)) dX11_law_24 fl_RX11_19 (by decide) rfl rfl rfl ?_
        refine aw_getf (pc := 27) (v := .inr (.inr 5)) dX11_law_27 fl_RX11_151 (by decide) rfl rfl rfl ?_
        refine aw_iload_n (pc := 30) (q := 1) dX11_law_30 rfl ?_
        obtain ⟨hb, h⟩ := aw_cks h
        refine aw_ialdv (pc := 31) (v := w 5 x1.toNat) dX11_law_31 rfl hb.1 hb.2 rfl ?_
        exact aw_sel [] rfl (w_x_law_32 N d  _ _ _ _ h)
      · rw [if_neg hc] at h
        exact aw_sel [] rfl (w_x_law_19 N d  _ _ _ h)
theorem dX0_countPairs_0 : decode cX0_countPairs 0 = .ok (.aload_n 0, 1) := by decide +kernel
theorem dX0_countPairs_1 : decode cX0_countPairs 1 = .ok (.getfield 15, 3) := by decide +kernel
theorem dX0_countPairs_4 : decode cX0_countPairs 4 = .ok (.iconst 0, 1) := by decide +kernel
theorem dX0_countPairs_5 : decode cX0_countPairs 5 = .ok (.invokestatic 76, 3) := by decide +kernel
theorem dX0_countPairs_8 : decode cX0_countPairs 8 = .ok (.iconst 0, 1) := by decide +kernel
theorem dX0_countPairs_9 : decode cX0_countPairs 9 = .ok (.istore_n 1, 1) := by decide +kernel
theorem dX0_countPairs_10 : decode cX0_countPairs 10 = .ok (.iload_n 1, 1) := by decide +kernel
theorem dX0_countPairs_11 : decode cX0_countPairs 11 = .ok (.aload_n 0, 1) := by decide +kernel
theorem dX0_countPairs_12 : decode cX0_countPairs 12 = .ok (.getfield 32, 3) := by decide +kernel
theorem dX0_countPairs_15 : decode cX0_countPairs 15 = .ok (.if_icmp .ge 96, 3) := by decide +kernel
theorem dX0_countPairs_18 : decode cX0_countPairs 18 = .ok (.aload_n 0, 1) := by decide +kernel
theorem dX0_countPairs_19 : decode cX0_countPairs 19 = .ok (.getfield 22, 3) := by decide +kernel
theorem dX0_countPairs_22 : decode cX0_countPairs 22 = .ok (.aload_n 0, 1) := by decide +kernel
theorem dX0_countPairs_23 : decode cX0_countPairs 23 = .ok (.getfield 9, 3) := by decide +kernel
theorem dX0_countPairs_26 : decode cX0_countPairs 26 = .ok (.iload_n 1, 1) := by decide +kernel
theorem dX0_countPairs_27 : decode cX0_countPairs 27 = .ok (.iaload, 1) := by decide +kernel
theorem dX0_countPairs_28 : decode cX0_countPairs 28 = .ok (.invokevirtual 63, 3) := by decide +kernel
theorem dX0_countPairs_31 : decode cX0_countPairs 31 = .ok (.pop, 1) := by decide +kernel
theorem dX0_countPairs_32 : decode cX0_countPairs 32 = .ok (.aload_n 0, 1) := by decide +kernel
theorem dX0_countPairs_33 : decode cX0_countPairs 33 = .ok (.getfield 22, 3) := by decide +kernel
theorem dX0_countPairs_36 : decode cX0_countPairs 36 = .ok (.invokevirtual 67, 3) := by decide +kernel
theorem dX0_countPairs_39 : decode cX0_countPairs 39 = .ok (.aload_n 0, 1) := by decide +kernel
theorem dX0_countPairs_40 : decode cX0_countPairs 40 = .ok (.getfield 22, 3) := by decide +kernel
theorem dX0_countPairs_43 : decode cX0_countPairs 43 = .ok (.getfield 82, 3) := by decide +kernel
theorem dX0_countPairs_46 : decode cX0_countPairs 46 = .ok (.iconst (-1), 1) := by decide +kernel
theorem dX0_countPairs_47 : decode cX0_countPairs 47 = .ok (.if_icmp .eq 58, 3) := by decide +kernel
theorem dX0_countPairs_50 : decode cX0_countPairs 50 = .ok (.aload_n 0, 1) := by decide +kernel
theorem dX0_countPairs_51 : decode cX0_countPairs 51 = .ok (.getfield 22, 3) := by decide +kernel
theorem dX0_countPairs_54 : decode cX0_countPairs 54 = .ok (.getfield 70, 3) := by decide +kernel
theorem dX0_countPairs_57 : decode cX0_countPairs 57 = .ok (.iconst (-1), 1) := by decide +kernel
theorem dX0_countPairs_58 : decode cX0_countPairs 58 = .ok (.if_icmp .eq 47, 3) := by decide +kernel
theorem dX0_countPairs_61 : decode cX0_countPairs 61 = .ok (.aload_n 0, 1) := by decide +kernel
theorem dX0_countPairs_62 : decode cX0_countPairs 62 = .ok (.getfield 22, 3) := by decide +kernel
theorem dX0_countPairs_65 : decode cX0_countPairs 65 = .ok (.getfield 70, 3) := by decide +kernel
theorem dX0_countPairs_68 : decode cX0_countPairs 68 = .ok (.aload_n 0, 1) := by decide +kernel
theorem dX0_countPairs_69 : decode cX0_countPairs 69 = .ok (.getfield 22, 3) := by decide +kernel
theorem dX0_countPairs_72 : decode cX0_countPairs 72 = .ok (.getfield 82, 3) := by decide +kernel
theorem dX0_countPairs_75 : decode cX0_countPairs 75 = .ok (.if_icmp .eq 30, 3) := by decide +kernel
theorem dX0_countPairs_78 : decode cX0_countPairs 78 = .ok (.aload_n 0, 1) := by decide +kernel
theorem dX0_countPairs_79 : decode cX0_countPairs 79 = .ok (.getfield 15, 3) := by decide +kernel
theorem dX0_countPairs_82 : decode cX0_countPairs 82 = .ok (.aload_n 0, 1) := by decide +kernel
theorem dX0_countPairs_83 : decode cX0_countPairs 83 = .ok (.getfield 22, 3) := by decide +kernel
theorem dX0_countPairs_86 : decode cX0_countPairs 86 = .ok (.getfield 82, 3) := by decide +kernel
theorem dX0_countPairs_89 : decode cX0_countPairs 89 = .ok (.bipush 10, 2) := by decide +kernel
theorem dX0_countPairs_91 : decode cX0_countPairs 91 = .ok (.imul, 1) := by decide +kernel
theorem dX0_countPairs_92 : decode cX0_countPairs 92 = .ok (.aload_n 0, 1) := by decide +kernel
theorem dX0_countPairs_93 : decode cX0_countPairs 93 = .ok (.getfield 22, 3) := by decide +kernel
theorem dX0_countPairs_96 : decode cX0_countPairs 96 = .ok (.getfield 70, 3) := by decide +kernel
theorem dX0_countPairs_99 : decode cX0_countPairs 99 = .ok (.iadd, 1) := by decide +kernel
theorem dX0_countPairs_100 : decode cX0_countPairs 100 = .ok (.dup2, 1) := by decide +kernel
theorem dX0_countPairs_101 : decode cX0_countPairs 101 = .ok (.iaload, 1) := by decide +kernel
theorem dX0_countPairs_102 : decode cX0_countPairs 102 = .ok (.iconst 1, 1) := by decide +kernel
theorem dX0_countPairs_103 : decode cX0_countPairs 103 = .ok (.iadd, 1) := by decide +kernel
theorem dX0_countPairs_104 : decode cX0_countPairs 104 = .ok (.iastore, 1) := by decide +kernel
theorem dX0_countPairs_105 : decode cX0_countPairs 105 = .ok (.iinc 1 1, 3) := by decide +kernel
theorem dX0_countPairs_108 : decode cX0_countPairs 108 = .ok (.goto (-98), 3) := by decide +kernel
theorem dX0_countPairs_111 : decode cX0_countPairs 111 = .ok (.return_, 1) := by decide +kernel
def x_Book_countPairs_111 (N : Nat) (w : aw_W) : Option (aw_W) :=
  some w
theorem w_x_Book_countPairs_111 {l : Launch} {K : aw_K} (N d : Nat) (hd : 2 ≤ d) : ∀ (w v : aw_W), x_Book_countPairs_111 N w = some v → aw_AW l K MX0_countPairs (d + 1) 111 [] [] w (none, v) := by
  intro w v h
  unfold x_Book_countPairs_111 at h
  cases h
  exact aw_vret (pc := 111) rfl dX0_countPairs_111
def x_Book_countPairs_105 (N : Nat) (k10 : Int → aw_W → Option (aw_W)) (x1 : Int) (w : aw_W) : Option (aw_W) :=
  k10 (aw_w (x1 + 1)) w
theorem w_x_Book_countPairs_105 {l : Launch} {K : aw_K} (N d : Nat) (hd : 2 ≤ d) (k10 : Int → aw_W → Option (aw_W)) (hk10 : ∀ (x1 : Int) (w v : aw_W), k10 x1 w = some v → aw_AW l K MX0_countPairs (d + 1) 10 [(0, .inr (.inr 41)), (1, .inl x1)] [] w (none, v)) : ∀ (x1 : Int) (w v : aw_W), x_Book_countPairs_105 N k10 x1 w = some v → aw_AW l K MX0_countPairs (d + 1) 105 [(0, .inr (.inr 41)), (1, .inl x1)] [] w (none, v) := by
  intro x1 w v h
  unfold x_Book_countPairs_105 at h
  refine aw_iinc (pc := 105) (q := 1) (ls' := [(1, .inl (aw_w (x1 + 1))), (0, .inr (.inr 41))]) dX0_countPairs_105 rfl (by decide) rfl ?_
  refine aw_goto (pc := 108) (tgt := 10) dX0_countPairs_108 (by decide) ?_
  exact aw_sel [1, 0] rfl (hk10 _ _ _ h)
def x_Book_countPairs_10 (N : Nat) : Nat → Int → aw_W → Option (aw_W)
  | 0, _, _ => none
  | n + 1, x1, w =>
    if (w 41 4) ≤ x1 then
      x_Book_countPairs_111 N w
    else
      if 0 ≤ x1 ∧ x1 < 40 then
        aw_b2 (x_Sale_put N (w 42 x1.toNat) w) fun r1 w1 =>
          aw_b1 (x_Sale_settle N w1) fun w2 =>
            if (w2 17 6) = (-1) then
              x_Book_countPairs_105 N (x_Book_countPairs_10 N n) x1 w2
            else
              if (w2 17 3) = (-1) then
                x_Book_countPairs_105 N (x_Book_countPairs_10 N n) x1 w2
              else
                if (w2 17 3) = (w2 17 6) then
                  x_Book_countPairs_105 N (x_Book_countPairs_10 N n) x1 w2
                else
                  if 0 ≤ (aw_w ((aw_w ((w2 17 6) * 10)) + (w2 17 3))) ∧ (aw_w ((aw_w ((w2 17 6) * 10)) + (w2 17 3))) < 60 then
                    if 0 ≤ (aw_w ((aw_w ((w2 17 6) * 10)) + (w2 17 3))) ∧ (aw_w ((aw_w ((w2 17 6) * 10)) + (w2 17 3))) < 60 then
                      x_Book_countPairs_105 N (x_Book_countPairs_10 N n) x1 (aw_up w2 43 ((aw_w ((aw_w ((w2 17 6) * 10)) + (w2 17 3))).toNat) (aw_w ((w2 43 ((aw_w ((aw_w ((w2 17 6) * 10)) + (w2 17 3))).toNat)) + 1)))
                    else none
                  else none
      else none
theorem w_x_Book_countPairs_10 {l : Launch} {K : aw_K} (N d : Nat) (hd : 2 ≤ d) : ∀ (n : Nat) (x1 : Int) (w v : aw_W), x_Book_countPairs_10 N n x1 w = some v → aw_AW l K MX0_countPairs (d + 1) 10 [(0, .inr (.inr 41)), (1, .inl x1)] [] w (none, v) := by
  intro n
  induction n with
  | zero => intro x1 w v h; rw [x_Book_countPairs_10] at h; cases h
  | succ n ih =>
    intro x1 w v h
    rw [x_Book_countPairs_10] at h
    refine aw_iload_n (pc := 10) (q := 1) dX0_countPairs_10 rfl ?_
    refine aw_aload_n (pc := 11) (q := 0) dX0_countPairs_11 rfl ?_
    refine aw_getf (pc := 12) (v := .inl (w 41 4)) dX0_countPairs_12 fl_RX0_32 (by decide) rfl rfl rfl ?_
    refine aw_icmp_ge (pc := 15) (tgt := 111) dX0_countPairs_15 (by decide) (fun hc => ?_) (fun hc => ?_)
    · rw [if_pos hc] at h
      exact aw_sel [] rfl (w_x_Book_countPairs_111 N d hd  _ _ h)
    · rw [if_neg hc] at h
      refine aw_aload_n (pc := 18) (q := 0) dX0_countPairs_18 rfl ?_
      refine aw_getf (pc := 19) (v := .inr (.inr 17)) dX0_countPairs_19 fl_RX0_22 (by decide) rfl rfl rfl ?_
      refine aw_aload_n (pc := 22) (q := 0) dX0_countPairs_22 rfl ?_
      refine aw_getf (pc := 23) (v := .inr (.inr 42)) dX0_countPairs_23 fl_RX0_9 (by decide) rfl rfl rfl ?_
      refine aw_iload_n (pc := 26) (q := 1) dX0_countPairs_26 rfl ?_
      obtain ⟨hb, h⟩ := aw_cks h
      refine aw_ialdv (pc := 27) (v := w 42 x1.toNat) dX0_countPairs_27 rfl hb.1 hb.2 rfl ?_
      obtain ⟨r1, w1, h1, h⟩ := aw_b2s h
      refine aw_callV (pc := 28) (as := [.inl (w 42 x1.toNat)]) (st := []) (st' := [.inl r1]) dX0_countPairs_28 cv_RX0_63 (by decide) rfl rfl rfl rfl (Nat.le_of_ble_eq_true rfl) (w_x_Sale_put N d (by omega) _ _ _ _ h1) rfl ?_
      refine aw_pop (pc := 31) dX0_countPairs_31 rfl ?_
      refine aw_aload_n (pc := 32) (q := 0) dX0_countPairs_32 rfl ?_
      refine aw_getf (pc := 33) (v := .inr (.inr 17)) dX0_countPairs_33 fl_RX0_22 (by decide) rfl rfl rfl ?_
      obtain ⟨w2, h2, h⟩ := aw_b1s h
      refine aw_callV (pc := 36) (as := []) (st := []) (st' := []) dX0_countPairs_36 cv_RX0_67 (by decide) rfl rfl rfl rfl (Nat.le_of_ble_eq_true rfl) (w_x_Sale_settle N d (by omega) _ _ h2) rfl ?_
      refine aw_aload_n (pc := 39) (q := 0) dX0_countPairs_39 rfl ?_
      refine aw_getf (pc := 40) (v := .inr (.inr 17)) dX0_countPairs_40 fl_RX0_22 (by decide) rfl rfl rfl ?_
      refine aw_getf (pc := 43) (v := .inl (w2 17 6)) dX0_countPairs_43 fl_RX0_82 (by decide) rfl rfl rfl ?_
      refine aw_iconst (pc := 46) dX0_countPairs_46 ⟨by decide, by decide⟩ ?_
      refine aw_icmp_eq (pc := 47) (tgt := 105) dX0_countPairs_47 (by decide) (fun hc => ?_) (fun hc => ?_)
      · rw [if_pos hc] at h
        exact aw_sel [0, 1] rfl (w_x_Book_countPairs_105 N d hd  _ ih _ _ _ h)
      · rw [if_neg hc] at h
        refine aw_aload_n (pc := 50) (q := 0) dX0_countPairs_50 rfl ?_
        refine aw_getf (pc := 51) (v := .inr (.inr 17)) dX0_countPairs_51 fl_RX0_22 (by decide) rfl rfl rfl ?_
        refine aw_getf (pc := 54) (v := .inl (w2 17 3)) dX0_countPairs_54 fl_RX0_70 (by decide) rfl rfl rfl ?_
        refine aw_iconst (pc := 57) dX0_countPairs_57 ⟨by decide, by decide⟩ ?_
        refine aw_icmp_eq (pc := 58) (tgt := 105) dX0_countPairs_58 (by decide) (fun hc => ?_) (fun hc => ?_)
        · rw [if_pos hc] at h
          exact aw_sel [0, 1] rfl (w_x_Book_countPairs_105 N d hd  _ ih _ _ _ h)
        · rw [if_neg hc] at h
          refine aw_aload_n (pc := 61) (q := 0) dX0_countPairs_61 rfl ?_
          refine aw_getf (pc := 62) (v := .inr (.inr 17)) dX0_countPairs_62 fl_RX0_22 (by decide) rfl rfl rfl ?_
          refine aw_getf (pc := 65) (v := .inl (w2 17 3)) dX0_countPairs_65 fl_RX0_70 (by decide) rfl rfl rfl ?_
          refine aw_aload_n (pc := 68) (q := 0) dX0_countPairs_68 rfl ?_
          refine aw_getf (pc := 69) (v := .inr (.inr 17)) dX0_countPairs_69 fl_RX0_22 (by decide) rfl rfl rfl ?_
          refine aw_getf (pc := 72) (v := .inl (w2 17 6)) dX0_countPairs_72 fl_RX0_82 (by decide) rfl rfl rfl ?_
          refine aw_icmp_eq (pc := 75) (tgt := 105) dX0_countPairs_75 (by decide) (fun hc => ?_) (fun hc => ?_)
          · rw [if_pos hc] at h
            exact aw_sel [0, 1] rfl (w_x_Book_countPairs_105 N d hd  _ ih _ _ _ h)
          · rw [if_neg hc] at h
            refine aw_aload_n (pc := 78) (q := 0) dX0_countPairs_78 rfl ?_
            refine aw_getf (pc := 79) (v := .inr (.inr 43)) dX0_countPairs_79 fl_RX0_15 (by decide) rfl rfl rfl ?_
            refine aw_aload_n (pc := 82) (q := 0) dX0_countPairs_82 rfl ?_
            refine aw_getf (pc := 83) (v := .inr (.inr 17)) dX0_countPairs_83 fl_RX0_22 (by decide) rfl rfl rfl ?_
            refine aw_getf (pc := 86) (v := .inl (w2 17 6)) dX0_countPairs_86 fl_RX0_82 (by decide) rfl rfl rfl ?_
            refine aw_bipush (pc := 89) dX0_countPairs_89 (by decide) ⟨by decide, by decide⟩ ?_
            refine aw_imul (pc := 91) dX0_countPairs_91 ?_
            refine aw_aload_n (pc := 92) (q := 0) dX0_countPairs_92 rfl ?_
            refine aw_getf (pc := 93) (v := .inr (.inr 17)) dX0_countPairs_93 fl_RX0_22 (by decide) rfl rfl rfl ?_
            refine aw_getf (pc := 96) (v := .inl (w2 17 3)) dX0_countPairs_96 fl_RX0_70 (by decide) rfl rfl rfl ?_
            refine aw_iadd (pc := 99) dX0_countPairs_99 ?_
            refine aw_dup2 (pc := 100) dX0_countPairs_100 rfl rfl ?_
            obtain ⟨hb, h⟩ := aw_cks h
            refine aw_ialdv (pc := 101) (v := w2 43 ((aw_w ((aw_w ((w2 17 6) * 10)) + (w2 17 3))).toNat)) dX0_countPairs_101 rfl hb.1 hb.2 rfl ?_
            refine aw_iconst (pc := 102) dX0_countPairs_102 ⟨by decide, by decide⟩ ?_
            refine aw_iadd (pc := 103) dX0_countPairs_103 ?_
            obtain ⟨hb, h⟩ := aw_cks h
            refine aw_iast (pc := 104) dX0_countPairs_104 rfl hb.1 hb.2 ?_
            exact aw_sel [0, 1] rfl (w_x_Book_countPairs_105 N d hd  _ ih _ _ _ h)
def x_Book_countPairs (N : Nat) (w : aw_W) : Option (aw_W) :=
  aw_b1 (j_Arr_fill_Ii_43 N 0 w) fun w1 =>
    x_Book_countPairs_10 N N 0 w1
theorem w_x_Book_countPairs_d {l : Launch} {K : aw_K} (N d : Nat) (hd : 2 ≤ d) : ∀ (w v : aw_W), x_Book_countPairs N w = some v → aw_Met l K MX0_countPairs (d + 1) [.inr (.inr 41)] w (none, v) := by
  intro w v h
  unfold x_Book_countPairs at h
  refine aw_enter rfl (Nat.le_of_ble_eq_true rfl) ?_
  show aw_AW l K MX0_countPairs (d + 1) 0 [(0, .inr (.inr 41))] [] w (none, v)
  refine aw_aload_n (pc := 0) (q := 0) dX0_countPairs_0 rfl ?_
  refine aw_getf (pc := 1) (v := .inr (.inr 43)) dX0_countPairs_1 fl_RX0_15 (by decide) rfl rfl rfl ?_
  refine aw_iconst (pc := 4) dX0_countPairs_4 ⟨by decide, by decide⟩ ?_
  obtain ⟨w1, h1, h⟩ := aw_b1s h
  refine aw_callS (pc := 5) (as := [.inr (.inr 43), .inl 0]) (st := []) (st' := []) dX0_countPairs_5 cs_RX0_76 rfl rfl (Nat.le_of_ble_eq_true rfl) (w_j_Arr_fill_Ii_43 N d (by omega) _ _ _ h1) rfl ?_
  refine aw_iconst (pc := 8) dX0_countPairs_8 ⟨by decide, by decide⟩ ?_
  refine aw_istore_n (pc := 9) (ls' := [(1, .inl 0), (0, .inr (.inr 41))]) dX0_countPairs_9 (by decide) rfl ?_
  exact aw_sel [1, 0] rfl (w_x_Book_countPairs_10 N d hd  N _ _ _ h)
theorem w_x_Book_countPairs {l : Launch} {K : aw_K} (N d : Nat) (hd : 3 ≤ d) : ∀ (w v : aw_W), x_Book_countPairs N w = some v → aw_Met l K MX0_countPairs (d) [.inr (.inr 41)] w (none, v) := by
  obtain ⟨e, rfl⟩ : ∃ e, d = e + 1 := ⟨d - 1, by omega⟩
  exact w_x_Book_countPairs_d N e (by omega)
theorem dX0_timesOfPair_0 : decode cX0_timesOfPair 0 = .ok (.aload_n 0, 1) := by decide +kernel
theorem dX0_timesOfPair_1 : decode cX0_timesOfPair 1 = .ok (.getfield 15, 3) := by decide +kernel
theorem dX0_timesOfPair_4 : decode cX0_timesOfPair 4 = .ok (.iload_n 1, 1) := by decide +kernel
theorem dX0_timesOfPair_5 : decode cX0_timesOfPair 5 = .ok (.bipush 10, 2) := by decide +kernel
theorem dX0_timesOfPair_7 : decode cX0_timesOfPair 7 = .ok (.imul, 1) := by decide +kernel
theorem dX0_timesOfPair_8 : decode cX0_timesOfPair 8 = .ok (.iload_n 2, 1) := by decide +kernel
theorem dX0_timesOfPair_9 : decode cX0_timesOfPair 9 = .ok (.iadd, 1) := by decide +kernel
theorem dX0_timesOfPair_10 : decode cX0_timesOfPair 10 = .ok (.iaload, 1) := by decide +kernel
theorem dX0_timesOfPair_11 : decode cX0_timesOfPair 11 = .ok (.ireturn, 1) := by decide +kernel
def x_Book_timesOfPair (N : Nat) (x1 x2 : Int) (w : aw_W) : Option (Int × aw_W) :=
  if 0 ≤ (aw_w ((aw_w (x1 * 10)) + x2)) ∧ (aw_w ((aw_w (x1 * 10)) + x2)) < 60 then
    some (w 43 ((aw_w ((aw_w (x1 * 10)) + x2)).toNat), w)
  else none
theorem w_x_Book_timesOfPair {l : Launch} {K : aw_K} (N d : Nat) (hd : 0 ≤ d) : ∀ (x1 x2 : Int) (w : aw_W) (y : Int) (v : aw_W), x_Book_timesOfPair N x1 x2 w = some (y, v) → aw_Met l K MX0_timesOfPair (d) [.inr (.inr 41), .inl x1, .inl x2] w (some (.inl y), v) := by
  intro x1 x2 w y v h
  unfold x_Book_timesOfPair at h
  refine aw_enter rfl (Nat.le_of_ble_eq_true rfl) ?_
  show aw_AW l K MX0_timesOfPair (d) 0 [(0, .inr (.inr 41)), (1, .inl x1), (2, .inl x2)] [] w (some (.inl y), v)
  refine aw_aload_n (pc := 0) (q := 0) dX0_timesOfPair_0 rfl ?_
  refine aw_getf (pc := 1) (v := .inr (.inr 43)) dX0_timesOfPair_1 fl_RX0_15 (by decide) rfl rfl rfl ?_
  refine aw_iload_n (pc := 4) (q := 1) dX0_timesOfPair_4 rfl ?_
  refine aw_bipush (pc := 5) dX0_timesOfPair_5 (by decide) ⟨by decide, by decide⟩ ?_
  refine aw_imul (pc := 7) dX0_timesOfPair_7 ?_
  refine aw_iload_n (pc := 8) (q := 2) dX0_timesOfPair_8 rfl ?_
  refine aw_iadd (pc := 9) dX0_timesOfPair_9 ?_
  obtain ⟨hb, h⟩ := aw_cks h
  refine aw_ialdv (pc := 10) (v := w 43 ((aw_w ((aw_w (x1 * 10)) + x2)).toNat)) dX0_timesOfPair_10 rfl hb.1 hb.2 rfl ?_
  cases h
  exact aw_iret (pc := 11) rfl dX0_timesOfPair_11
theorem dX11_made_0 : decode cX11_made 0 = .ok (.aload_n 0, 1) := by decide +kernel
theorem dX11_made_1 : decode cX11_made 1 = .ok (.getfield 19, 3) := by decide +kernel
theorem dX11_made_4 : decode cX11_made 4 = .ok (.iload_n 1, 1) := by decide +kernel
theorem dX11_made_5 : decode cX11_made 5 = .ok (.invokevirtual 137, 3) := by decide +kernel
theorem dX11_made_8 : decode cX11_made 8 = .ok (.ifCond .eq 19, 3) := by decide +kernel
theorem dX11_made_11 : decode cX11_made 11 = .ok (.aload_n 0, 1) := by decide +kernel
theorem dX11_made_12 : decode cX11_made 12 = .ok (.getfield 19, 3) := by decide +kernel
theorem dX11_made_15 : decode cX11_made 15 = .ok (.iload_n 2, 1) := by decide +kernel
theorem dX11_made_16 : decode cX11_made 16 = .ok (.invokevirtual 137, 3) := by decide +kernel
theorem dX11_made_19 : decode cX11_made 19 = .ok (.ifCond .eq 8, 3) := by decide +kernel
theorem dX11_made_22 : decode cX11_made 22 = .ok (.iload_n 1, 1) := by decide +kernel
theorem dX11_made_23 : decode cX11_made 23 = .ok (.iload_n 2, 1) := by decide +kernel
theorem dX11_made_24 : decode cX11_made 24 = .ok (.if_icmp .ne 5, 3) := by decide +kernel
theorem dX11_made_27 : decode cX11_made 27 = .ok (.iconst (-1), 1) := by decide +kernel
theorem dX11_made_28 : decode cX11_made 28 = .ok (.ireturn, 1) := by decide +kernel
theorem dX11_made_29 : decode cX11_made 29 = .ok (.aload_n 0, 1) := by decide +kernel
theorem dX11_made_30 : decode cX11_made 30 = .ok (.getfield 84, 3) := by decide +kernel
theorem dX11_made_33 : decode cX11_made 33 = .ok (.invokevirtual 288, 3) := by decide +kernel
theorem dX11_made_36 : decode cX11_made 36 = .ok (.aload_n 0, 1) := by decide +kernel
theorem dX11_made_37 : decode cX11_made 37 = .ok (.getfield 84, 3) := by decide +kernel
theorem dX11_made_40 : decode cX11_made 40 = .ok (.iload_n 1, 1) := by decide +kernel
theorem dX11_made_41 : decode cX11_made 41 = .ok (.iload_n 2, 1) := by decide +kernel
theorem dX11_made_42 : decode cX11_made 42 = .ok (.invokevirtual 291, 3) := by decide +kernel
theorem dX11_made_45 : decode cX11_made 45 = .ok (.ireturn, 1) := by decide +kernel
def x_made_27 (N : Nat) (w : aw_W) : Option (Int × aw_W) :=
  some ((-1), w)
theorem w_x_made_27 {l : Launch} {K : aw_K} (N d : Nat) (hd : 3 ≤ d) : ∀ (w : aw_W) (y : Int) (v : aw_W), x_made_27 N w = some (y, v) → aw_AW l K MX11_made (d + 1) 27 [] [] w (some (.inl y), v) := by
  intro w y v h
  unfold x_made_27 at h
  refine aw_iconst (pc := 27) dX11_made_27 ⟨by decide, by decide⟩ ?_
  cases h
  exact aw_iret (pc := 28) rfl dX11_made_28
def x_made (N : Nat) (x1 x2 : Int) (w : aw_W) : Option (Int × aw_W) :=
  aw_b2 (x_Land_holds N x1 w) fun r1 w1 =>
    if r1 = 0 then
      x_made_27 N w1
    else
      aw_b2 (x_Land_holds N x2 w1) fun r2 w2 =>
        if r2 = 0 then
          x_made_27 N w2
        else
          if x1 = x2 then
            x_made_27 N w2
          else
            aw_b1 (x_Book_countPairs N w2) fun w3 =>
              aw_b2 (x_Book_timesOfPair N x1 x2 w3) fun r4 w4 =>
                some (r4, w4)
theorem w_x_made_d {l : Launch} {K : aw_K} (N d : Nat) (hd : 3 ≤ d) : ∀ (x1 x2 : Int) (w : aw_W) (y : Int) (v : aw_W), x_made N x1 x2 w = some (y, v) → aw_Met l K MX11_made (d + 1) [.inr (.inr 0), .inl x1, .inl x2] w (some (.inl y), v) := by
  intro x1 x2 w y v h
  unfold x_made at h
  refine aw_enter rfl (Nat.le_of_ble_eq_true rfl) ?_
  show aw_AW l K MX11_made (d + 1) 0 [(0, .inr (.inr 0)), (1, .inl x1), (2, .inl x2)] [] w (some (.inl y), v)
  refine aw_aload_n (pc := 0) (q := 0) dX11_made_0 rfl ?_
  refine aw_getf (pc := 1) (v := .inr (.inr 3)) dX11_made_1 fl_RX11_19 (by decide) rfl rfl rfl ?_
  refine aw_iload_n (pc := 4) (q := 1) dX11_made_4 rfl ?_
  obtain ⟨r1, w1, h1, h⟩ := aw_b2s h
  refine aw_callV (pc := 5) (as := [.inl x1]) (st := []) (st' := [.inl r1]) dX11_made_5 cv_RX11_137 (by decide) rfl rfl rfl rfl (Nat.le_of_ble_eq_true rfl) (w_x_Land_holds N d (by omega) _ _ _ _ h1) rfl ?_
  refine aw_if_eq (pc := 8) (tgt := 27) dX11_made_8 (by decide) (fun hc => ?_) (fun hc => ?_)
  · rw [if_pos hc] at h
    exact aw_sel [] rfl (w_x_made_27 N d hd  _ _ _ h)
  · rw [if_neg hc] at h
    refine aw_aload_n (pc := 11) (q := 0) dX11_made_11 rfl ?_
    refine aw_getf (pc := 12) (v := .inr (.inr 3)) dX11_made_12 fl_RX11_19 (by decide) rfl rfl rfl ?_
    refine aw_iload_n (pc := 15) (q := 2) dX11_made_15 rfl ?_
    obtain ⟨r2, w2, h2, h⟩ := aw_b2s h
    refine aw_callV (pc := 16) (as := [.inl x2]) (st := []) (st' := [.inl r2]) dX11_made_16 cv_RX11_137 (by decide) rfl rfl rfl rfl (Nat.le_of_ble_eq_true rfl) (w_x_Land_holds N d (by omega) _ _ _ _ h2) rfl ?_
    refine aw_if_eq (pc := 19) (tgt := 27) dX11_made_19 (by decide) (fun hc => ?_) (fun hc => ?_)
    · rw [if_pos hc] at h
      exact aw_sel [] rfl (w_x_made_27 N d hd  _ _ _ h)
    · rw [if_neg hc] at h
      refine aw_iload_n (pc := 22) (q := 1) dX11_made_22 rfl ?_
      refine aw_iload_n (pc := 23) (q := 2) dX11_made_23 rfl ?_
      refine aw_icmp_ne (pc := 24) (tgt := 29) dX11_made_24 (by decide) (fun hc => ?_) (fun hc => ?_)
      · rw [if_neg hc] at h
        refine aw_aload_n (pc := 29) (q := 0) dX11_made_29 rfl ?_
        refine aw_getf (pc := 30) (v := .inr (.inr 41)) dX11_made_30 fl_RX11_84 (by decide) rfl rfl rfl ?_
        obtain ⟨w3, h3, h⟩ := aw_b1s h
        refine aw_callV (pc := 33) (as := []) (st := []) (st' := []) dX11_made_33 cv_RX11_288 (by decide) rfl rfl rfl rfl (Nat.le_of_ble_eq_true rfl) (w_x_Book_countPairs N d (by omega) _ _ h3) rfl ?_
        refine aw_aload_n (pc := 36) (q := 0) dX11_made_36 rfl ?_
        refine aw_getf (pc := 37) (v := .inr (.inr 41)) dX11_made_37 fl_RX11_84 (by decide) rfl rfl rfl ?_
        refine aw_iload_n (pc := 40) (q := 1) dX11_made_40 rfl ?_
        refine aw_iload_n (pc := 41) (q := 2) dX11_made_41 rfl ?_
        obtain ⟨r4, w4, h4, h⟩ := aw_b2s h
        refine aw_callV (pc := 42) (as := [.inl x1, .inl x2]) (st := []) (st' := [.inl r4]) dX11_made_42 cv_RX11_291 (by decide) rfl rfl rfl rfl (Nat.le_of_ble_eq_true rfl) (w_x_Book_timesOfPair N d (by omega) _ _ _ _ _ h4) rfl ?_
        cases h
        exact aw_iret (pc := 45) rfl dX11_made_45
      · rw [if_pos hc] at h
        exact aw_sel [] rfl (w_x_made_27 N d hd  _ _ _ h)
theorem w_x_made {l : Launch} {K : aw_K} (N d : Nat) (hd : 4 ≤ d) : ∀ (x1 x2 : Int) (w : aw_W) (y : Int) (v : aw_W), x_made N x1 x2 w = some (y, v) → aw_Met l K MX11_made (d) [.inr (.inr 0), .inl x1, .inl x2] w (some (.inl y), v) := by
  obtain ⟨e, rfl⟩ : ∃ e, d = e + 1 := ⟨d - 1, by omega⟩
  exact w_x_made_d N e (by omega)
theorem dX11_mayPact_0 : decode cX11_mayPact 0 = .ok (.aload_n 0, 1) := by decide +kernel
theorem dX11_mayPact_1 : decode cX11_mayPact 1 = .ok (.getfield 19, 3) := by decide +kernel
theorem dX11_mayPact_4 : decode cX11_mayPact 4 = .ok (.iload_n 2, 1) := by decide +kernel
theorem dX11_mayPact_5 : decode cX11_mayPact 5 = .ok (.invokevirtual 242, 3) := by decide +kernel
theorem dX11_mayPact_8 : decode cX11_mayPact 8 = .ok (.ifCond .eq 26, 3) := by decide +kernel
theorem dX11_mayPact_11 : decode cX11_mayPact 11 = .ok (.iload_n 2, 1) := by decide +kernel
theorem dX11_mayPact_12 : decode cX11_mayPact 12 = .ok (.invokestatic 338, 3) := by decide +kernel
theorem dX11_mayPact_15 : decode cX11_mayPact 15 = .ok (.iconst 4, 1) := by decide +kernel
theorem dX11_mayPact_16 : decode cX11_mayPact 16 = .ok (.if_icmp .gt 18, 3) := by decide +kernel
theorem dX11_mayPact_19 : decode cX11_mayPact 19 = .ok (.aload_n 0, 1) := by decide +kernel
theorem dX11_mayPact_20 : decode cX11_mayPact 20 = .ok (.getfield 38, 3) := by decide +kernel
theorem dX11_mayPact_23 : decode cX11_mayPact 23 = .ok (.iload_n 1, 1) := by decide +kernel
theorem dX11_mayPact_24 : decode cX11_mayPact 24 = .ok (.invokevirtual 188, 3) := by decide +kernel
theorem dX11_mayPact_27 : decode cX11_mayPact 27 = .ok (.ifCond .eq 7, 3) := by decide +kernel
theorem dX11_mayPact_30 : decode cX11_mayPact 30 = .ok (.iconst 1, 1) := by decide +kernel
theorem dX11_mayPact_31 : decode cX11_mayPact 31 = .ok (.goto 4, 3) := by decide +kernel
theorem dX11_mayPact_34 : decode cX11_mayPact 34 = .ok (.iconst 0, 1) := by decide +kernel
theorem dX11_mayPact_35 : decode cX11_mayPact 35 = .ok (.ireturn, 1) := by decide +kernel
def x_mayPact_35 (N : Nat) (s0 : Int) (w : aw_W) : Option (Int × aw_W) :=
  if s0 = 0 ∨ s0 = 1 then
    some (s0, w)
  else none
theorem w_x_mayPact_35 {l : Launch} {K : aw_K} (N d : Nat) (hd : 1 ≤ d) : ∀ (s0 : Int) (w : aw_W) (y : Int) (v : aw_W), x_mayPact_35 N s0 w = some (y, v) → aw_AW l K MX11_mayPact (d + 1) 35 [] [.inl s0] w (some (.inl y), v) := by
  intro s0 w y v h
  unfold x_mayPact_35 at h
  obtain ⟨hz, h⟩ := aw_cks h
  cases h
  exact aw_zret (pc := 35) rfl hz dX11_mayPact_35
def x_mayPact_34 (N : Nat) (w : aw_W) : Option (Int × aw_W) :=
  x_mayPact_35 N 0 w
theorem w_x_mayPact_34 {l : Launch} {K : aw_K} (N d : Nat) (hd : 1 ≤ d) : ∀ (w : aw_W) (y : Int) (v : aw_W), x_mayPact_34 N w = some (y, v) → aw_AW l K MX11_mayPact (d + 1) 34 [] [] w (some (.inl y), v) := by
  intro w y v h
  unfold x_mayPact_34 at h
  refine aw_iconst (pc := 34) dX11_mayPact_34 ⟨by decide, by decide⟩ ?_
  exact aw_sel [] rfl (w_x_mayPact_35 N d hd  _ _ _ _ h)
def x_mayPact (N : Nat) (x1 x2 : Int) (w : aw_W) : Option (Int × aw_W) :=
  aw_b2 (x_Land_holdsSome N x2 w) fun r1 w1 =>
    if r1 = 0 then
      x_mayPact_34 N w1
    else
      aw_b2 (j_Int_bitCount N x2 w1) fun r2 w2 =>
        if 4 < r2 then
          x_mayPact_34 N w2
        else
          aw_b2 (x_Sale_take N x1 w2) fun r3 w3 =>
            if r3 = 0 then
              x_mayPact_34 N w3
            else
              x_mayPact_35 N 1 w3
theorem w_x_mayPact_d {l : Launch} {K : aw_K} (N d : Nat) (hd : 1 ≤ d) : ∀ (x1 x2 : Int) (w : aw_W) (y : Int) (v : aw_W), x_mayPact N x1 x2 w = some (y, v) → aw_Met l K MX11_mayPact (d + 1) [.inr (.inr 0), .inl x1, .inl x2] w (some (.inl y), v) := by
  intro x1 x2 w y v h
  unfold x_mayPact at h
  refine aw_enter rfl (Nat.le_of_ble_eq_true rfl) ?_
  show aw_AW l K MX11_mayPact (d + 1) 0 [(0, .inr (.inr 0)), (1, .inl x1), (2, .inl x2)] [] w (some (.inl y), v)
  refine aw_aload_n (pc := 0) (q := 0) dX11_mayPact_0 rfl ?_
  refine aw_getf (pc := 1) (v := .inr (.inr 3)) dX11_mayPact_1 fl_RX11_19 (by decide) rfl rfl rfl ?_
  refine aw_iload_n (pc := 4) (q := 2) dX11_mayPact_4 rfl ?_
  obtain ⟨r1, w1, h1, h⟩ := aw_b2s h
  refine aw_callV (pc := 5) (as := [.inl x2]) (st := []) (st' := [.inl r1]) dX11_mayPact_5 cv_RX11_242 (by decide) rfl rfl rfl rfl (Nat.le_of_ble_eq_true rfl) (w_x_Land_holdsSome N d (by omega) _ _ _ _ h1) rfl ?_
  refine aw_if_eq (pc := 8) (tgt := 34) dX11_mayPact_8 (by decide) (fun hc => ?_) (fun hc => ?_)
  · rw [if_pos hc] at h
    exact aw_sel [] rfl (w_x_mayPact_34 N d hd  _ _ _ h)
  · rw [if_neg hc] at h
    refine aw_iload_n (pc := 11) (q := 2) dX11_mayPact_11 rfl ?_
    obtain ⟨r2, w2, h2, h⟩ := aw_b2s h
    refine aw_callS (pc := 12) (as := [.inl x2]) (st := []) (st' := [.inl r2]) dX11_mayPact_12 cs_RX11_338 rfl rfl (Nat.le_of_ble_eq_true rfl) (w_j_Int_bitCount N d (by omega) _ _ _ _ h2) rfl ?_
    refine aw_iconst (pc := 15) dX11_mayPact_15 ⟨by decide, by decide⟩ ?_
    refine aw_icmp_gt (pc := 16) (tgt := 34) dX11_mayPact_16 (by decide) (fun hc => ?_) (fun hc => ?_)
    · rw [if_pos hc] at h
      exact aw_sel [] rfl (w_x_mayPact_34 N d hd  _ _ _ h)
    · rw [if_neg hc] at h
      refine aw_aload_n (pc := 19) (q := 0) dX11_mayPact_19 rfl ?_
      refine aw_getf (pc := 20) (v := .inr (.inr 17)) dX11_mayPact_20 fl_RX11_38 (by decide) rfl rfl rfl ?_
      refine aw_iload_n (pc := 23) (q := 1) dX11_mayPact_23 rfl ?_
      obtain ⟨r3, w3, h3, h⟩ := aw_b2s h
      refine aw_callV (pc := 24) (as := [.inl x1]) (st := []) (st' := [.inl r3]) dX11_mayPact_24 cv_RX11_188 (by decide) rfl rfl rfl rfl (Nat.le_of_ble_eq_true rfl) (w_x_Sale_take N d (by omega) _ _ _ _ h3) rfl ?_
      refine aw_if_eq (pc := 27) (tgt := 34) dX11_mayPact_27 (by decide) (fun hc => ?_) (fun hc => ?_)
      · rw [if_pos hc] at h
        exact aw_sel [] rfl (w_x_mayPact_34 N d hd  _ _ _ h)
      · rw [if_neg hc] at h
        refine aw_iconst (pc := 30) dX11_mayPact_30 ⟨by decide, by decide⟩ ?_
        refine aw_goto (pc := 31) (tgt := 35) dX11_mayPact_31 (by decide) ?_
        exact aw_sel [] rfl (w_x_mayPact_35 N d hd  _ _ _ _ h)
theorem w_x_mayPact {l : Launch} {K : aw_K} (N d : Nat) (hd : 2 ≤ d) : ∀ (x1 x2 : Int) (w : aw_W) (y : Int) (v : aw_W), x_mayPact N x1 x2 w = some (y, v) → aw_Met l K MX11_mayPact (d) [.inr (.inr 0), .inl x1, .inl x2] w (some (.inl y), v) := by
  obtain ⟨e, rfl⟩ : ∃ e, d = e + 1 := ⟨d - 1, by omega⟩
  exact w_x_mayPact_d N e (by omega)
theorem dX2_placeOf_0 : decode cX2_placeOf 0 = .ok (.iconst 0, 1) := by decide +kernel
theorem dX2_placeOf_1 : decode cX2_placeOf 1 = .ok (.istore_n 3, 1) := by decide +kernel
theorem dX2_placeOf_2 : decode cX2_placeOf 2 = .ok (.iconst 0, 1) := by decide +kernel
theorem dX2_placeOf_3 : decode cX2_placeOf 3 = .ok (.istore 4, 2) := by decide +kernel
theorem dX2_placeOf_5 : decode cX2_placeOf 5 = .ok (.iload 4, 2) := by decide +kernel
theorem dX2_placeOf_7 : decode cX2_placeOf 7 = .ok (.aload_n 0, 1) := by decide +kernel
theorem dX2_placeOf_8 : decode cX2_placeOf 8 = .ok (.getfield 18, 3) := by decide +kernel
theorem dX2_placeOf_11 : decode cX2_placeOf 11 = .ok (.if_icmp .ge 44, 3) := by decide +kernel
theorem dX2_placeOf_14 : decode cX2_placeOf 14 = .ok (.iload_n 2, 1) := by decide +kernel
theorem dX2_placeOf_15 : decode cX2_placeOf 15 = .ok (.ifCond .eq 16, 3) := by decide +kernel
theorem dX2_placeOf_18 : decode cX2_placeOf 18 = .ok (.aload_n 0, 1) := by decide +kernel
theorem dX2_placeOf_19 : decode cX2_placeOf 19 = .ok (.iload 4, 2) := by decide +kernel
theorem dX2_placeOf_21 : decode cX2_placeOf 21 = .ok (.iconst 1, 1) := by decide +kernel
theorem dX2_placeOf_22 : decode cX2_placeOf 22 = .ok (.isub, 1) := by decide +kernel
theorem dX2_placeOf_23 : decode cX2_placeOf 23 = .ok (.iload 4, 2) := by decide +kernel
theorem dX2_placeOf_25 : decode cX2_placeOf 25 = .ok (.invokevirtual 22, 3) := by decide +kernel
theorem dX2_placeOf_28 : decode cX2_placeOf 28 = .ok (.ifCond .ne 8, 3) := by decide +kernel
theorem dX2_placeOf_31 : decode cX2_placeOf 31 = .ok (.iload 4, 2) := by decide +kernel
theorem dX2_placeOf_33 : decode cX2_placeOf 33 = .ok (.iconst 1, 1) := by decide +kernel
theorem dX2_placeOf_34 : decode cX2_placeOf 34 = .ok (.iadd, 1) := by decide +kernel
theorem dX2_placeOf_35 : decode cX2_placeOf 35 = .ok (.istore_n 3, 1) := by decide +kernel
theorem dX2_placeOf_36 : decode cX2_placeOf 36 = .ok (.aload_n 0, 1) := by decide +kernel
theorem dX2_placeOf_37 : decode cX2_placeOf 37 = .ok (.getfield 9, 3) := by decide +kernel
theorem dX2_placeOf_40 : decode cX2_placeOf 40 = .ok (.iload 4, 2) := by decide +kernel
theorem dX2_placeOf_42 : decode cX2_placeOf 42 = .ok (.iaload, 1) := by decide +kernel
theorem dX2_placeOf_43 : decode cX2_placeOf 43 = .ok (.iload_n 1, 1) := by decide +kernel
theorem dX2_placeOf_44 : decode cX2_placeOf 44 = .ok (.if_icmp .ne 5, 3) := by decide +kernel
theorem dX2_placeOf_47 : decode cX2_placeOf 47 = .ok (.iload_n 3, 1) := by decide +kernel
theorem dX2_placeOf_48 : decode cX2_placeOf 48 = .ok (.ireturn, 1) := by decide +kernel
theorem dX2_placeOf_49 : decode cX2_placeOf 49 = .ok (.iinc 4 1, 3) := by decide +kernel
theorem dX2_placeOf_52 : decode cX2_placeOf 52 = .ok (.goto (-47), 3) := by decide +kernel
theorem dX2_placeOf_55 : decode cX2_placeOf 55 = .ok (.iconst 0, 1) := by decide +kernel
theorem dX2_placeOf_56 : decode cX2_placeOf 56 = .ok (.ireturn, 1) := by decide +kernel
def x_Order_placeOf_55 (N : Nat) (w : aw_W) : Option (Int × aw_W) :=
  some (0, w)
theorem w_x_Order_placeOf_55 {l : Launch} {K : aw_K} (N d : Nat) (hd : 0 ≤ d) : ∀ (w : aw_W) (y : Int) (v : aw_W), x_Order_placeOf_55 N w = some (y, v) → aw_AW l K MX2_placeOf (d + 1) 55 [] [] w (some (.inl y), v) := by
  intro w y v h
  unfold x_Order_placeOf_55 at h
  refine aw_iconst (pc := 55) dX2_placeOf_55 ⟨by decide, by decide⟩ ?_
  cases h
  exact aw_iret (pc := 56) rfl dX2_placeOf_56
def x_Order_placeOf_47 (N : Nat) (x3 : Int) (w : aw_W) : Option (Int × aw_W) :=
  some (x3, w)
theorem w_x_Order_placeOf_47 {l : Launch} {K : aw_K} (N d : Nat) (hd : 0 ≤ d) : ∀ (x3 : Int) (w : aw_W) (y : Int) (v : aw_W), x_Order_placeOf_47 N x3 w = some (y, v) → aw_AW l K MX2_placeOf (d + 1) 47 [(3, .inl x3)] [] w (some (.inl y), v) := by
  intro x3 w y v h
  unfold x_Order_placeOf_47 at h
  refine aw_iload_n (pc := 47) (q := 0) dX2_placeOf_47 rfl ?_
  cases h
  exact aw_iret (pc := 48) rfl dX2_placeOf_48
def x_Order_placeOf_36 (N : Nat) (k5 : Int → Int → Int → Int → aw_W → Option (Int × aw_W)) (x1 x2 x3 x4 : Int) (w : aw_W) : Option (Int × aw_W) :=
  if 0 ≤ x4 ∧ x4 < 6 then
    if (w 28 x4.toNat) = x1 then
      x_Order_placeOf_47 N x3 w
    else
      k5 x1 x2 x3 (aw_w (x4 + 1)) w
  else none
theorem w_x_Order_placeOf_36 {l : Launch} {K : aw_K} (N d : Nat) (hd : 0 ≤ d) (k5 : Int → Int → Int → Int → aw_W → Option (Int × aw_W)) (hk5 : ∀ (x1 x2 x3 x4 : Int) (w : aw_W) (y : Int) (v : aw_W), k5 x1 x2 x3 x4 w = some (y, v) → aw_AW l K MX2_placeOf (d + 1) 5 [(0, .inr (.inr 27)), (1, .inl x1), (2, .inl x2), (3, .inl x3), (4, .inl x4)] [] w (some (.inl y), v)) : ∀ (x1 x2 x3 x4 : Int) (w : aw_W) (y : Int) (v : aw_W), x_Order_placeOf_36 N k5 x1 x2 x3 x4 w = some (y, v) → aw_AW l K MX2_placeOf (d + 1) 36 [(0, .inr (.inr 27)), (1, .inl x1), (2, .inl x2), (3, .inl x3), (4, .inl x4)] [] w (some (.inl y), v) := by
  intro x1 x2 x3 x4 w y v h
  unfold x_Order_placeOf_36 at h
  refine aw_aload_n (pc := 36) (q := 0) dX2_placeOf_36 rfl ?_
  refine aw_getf (pc := 37) (v := .inr (.inr 28)) dX2_placeOf_37 fl_RX2_9 (by decide) rfl rfl rfl ?_
  refine aw_iload (pc := 40) (q := 4) dX2_placeOf_40 rfl ?_
  obtain ⟨hb, h⟩ := aw_cks h
  refine aw_ialdv (pc := 42) (v := w 28 x4.toNat) dX2_placeOf_42 rfl hb.1 hb.2 rfl ?_
  refine aw_iload_n (pc := 43) (q := 1) dX2_placeOf_43 rfl ?_
  refine aw_icmp_ne (pc := 44) (tgt := 49) dX2_placeOf_44 (by decide) (fun hc => ?_) (fun hc => ?_)
  · rw [if_neg hc] at h
    refine aw_iinc (pc := 49) (q := 4) (ls' := [(4, .inl (aw_w (x4 + 1))), (0, .inr (.inr 27)), (1, .inl x1), (2, .inl x2), (3, .inl x3)]) dX2_placeOf_49 rfl (by decide) rfl ?_
    refine aw_goto (pc := 52) (tgt := 5) dX2_placeOf_52 (by decide) ?_
    exact aw_sel [1, 2, 3, 4, 0] rfl (hk5 _ _ _ _ _ _ _ h)
  · rw [if_pos hc] at h
    exact aw_sel [3] rfl (w_x_Order_placeOf_47 N d hd  _ _ _ _ h)
def x_Order_placeOf_31 (N : Nat) (k5 : Int → Int → Int → Int → aw_W → Option (Int × aw_W)) (x1 x2 x4 : Int) (w : aw_W) : Option (Int × aw_W) :=
  x_Order_placeOf_36 N k5 x1 x2 (aw_w (x4 + 1)) x4 w
theorem w_x_Order_placeOf_31 {l : Launch} {K : aw_K} (N d : Nat) (hd : 0 ≤ d) (k5 : Int → Int → Int → Int → aw_W → Option (Int × aw_W)) (hk5 : ∀ (x1 x2 x3 x4 : Int) (w : aw_W) (y : Int) (v : aw_W), k5 x1 x2 x3 x4 w = some (y, v) → aw_AW l K MX2_placeOf (d + 1) 5 [(0, .inr (.inr 27)), (1, .inl x1), (2, .inl x2), (3, .inl x3), (4, .inl x4)] [] w (some (.inl y), v)) : ∀ (x1 x2 x4 : Int) (w : aw_W) (y : Int) (v : aw_W), x_Order_placeOf_31 N k5 x1 x2 x4 w = some (y, v) → aw_AW l K MX2_placeOf (d + 1) 31 [(0, .inr (.inr 27)), (1, .inl x1), (2, .inl x2), (4, .inl x4)] [] w (some (.inl y), v) := by
  intro x1 x2 x4 w y v h
  unfold x_Order_placeOf_31 at h
  refine aw_iload (pc := 31) (q := 3) dX2_placeOf_31 rfl ?_
  refine aw_iconst (pc := 33) dX2_placeOf_33 ⟨by decide, by decide⟩ ?_
  refine aw_iadd (pc := 34) dX2_placeOf_34 ?_
  refine aw_istore_n (pc := 35) (ls' := [(3, .inl (aw_w (x4 + 1))), (0, .inr (.inr 27)), (1, .inl x1), (2, .inl x2), (4, .inl x4)]) dX2_placeOf_35 (by decide) rfl ?_
  exact aw_sel [1, 2, 3, 0, 4] rfl (w_x_Order_placeOf_36 N d hd  _ hk5 _ _ _ _ _ _ _ h)
def x_Order_placeOf_5 (N : Nat) : Nat → Int → Int → Int → Int → aw_W → Option (Int × aw_W)
  | 0, _, _, _, _, _ => none
  | n + 1, x1, x2, x3, x4, w =>
    if (w 27 2) ≤ x4 then
      x_Order_placeOf_55 N w
    else
      if x2 = 0 then
        x_Order_placeOf_31 N (x_Order_placeOf_5 N n) x1 x2 x4 w
      else
        aw_b2 (x_Order_alike_27 N (aw_w (x4 - 1)) x4 w) fun r1 w1 =>
          if r1 = 0 then
            x_Order_placeOf_31 N (x_Order_placeOf_5 N n) x1 x2 x4 w1
          else
            x_Order_placeOf_36 N (x_Order_placeOf_5 N n) x1 x2 x3 x4 w1
theorem w_x_Order_placeOf_5 {l : Launch} {K : aw_K} (N d : Nat) (hd : 0 ≤ d) : ∀ (n : Nat) (x1 x2 x3 x4 : Int) (w : aw_W) (y : Int) (v : aw_W), x_Order_placeOf_5 N n x1 x2 x3 x4 w = some (y, v) → aw_AW l K MX2_placeOf (d + 1) 5 [(0, .inr (.inr 27)), (1, .inl x1), (2, .inl x2), (3, .inl x3), (4, .inl x4)] [] w (some (.inl y), v) := by
  intro n
  induction n with
  | zero => intro x1 x2 x3 x4 w y v h; rw [x_Order_placeOf_5] at h; cases h
  | succ n ih =>
    intro x1 x2 x3 x4 w y v h
    rw [x_Order_placeOf_5] at h
    refine aw_iload (pc := 5) (q := 4) dX2_placeOf_5 rfl ?_
    refine aw_aload_n (pc := 7) (q := 0) dX2_placeOf_7 rfl ?_
    refine aw_getf (pc := 8) (v := .inl (w 27 2)) dX2_placeOf_8 fl_RX2_18 (by decide) rfl rfl rfl ?_
    refine aw_icmp_ge (pc := 11) (tgt := 55) dX2_placeOf_11 (by decide) (fun hc => ?_) (fun hc => ?_)
    · rw [if_pos hc] at h
      exact aw_sel [] rfl (w_x_Order_placeOf_55 N d hd  _ _ _ h)
    · rw [if_neg hc] at h
      refine aw_iload_n (pc := 14) (q := 2) dX2_placeOf_14 rfl ?_
      refine aw_if_eq (pc := 15) (tgt := 31) dX2_placeOf_15 (by decide) (fun hc => ?_) (fun hc => ?_)
      · rw [if_pos hc] at h
        exact aw_sel [0, 1, 2, 4] rfl (w_x_Order_placeOf_31 N d hd  _ ih _ _ _ _ _ _ h)
      · rw [if_neg hc] at h
        refine aw_aload_n (pc := 18) (q := 0) dX2_placeOf_18 rfl ?_
        refine aw_iload (pc := 19) (q := 4) dX2_placeOf_19 rfl ?_
        refine aw_iconst (pc := 21) dX2_placeOf_21 ⟨by decide, by decide⟩ ?_
        refine aw_isub (pc := 22) dX2_placeOf_22 ?_
        refine aw_iload (pc := 23) (q := 4) dX2_placeOf_23 rfl ?_
        obtain ⟨r1, w1, h1, h⟩ := aw_b2s h
        refine aw_callV (pc := 25) (as := [.inl (aw_w (x4 - 1)), .inl x4]) (st := []) (st' := [.inl r1]) dX2_placeOf_25 cv_RX2_22 (by decide) rfl rfl rfl rfl (Nat.le_of_ble_eq_true rfl) (w_x_Order_alike_27 N d (by omega) _ _ _ _ _ h1) rfl ?_
        refine aw_if_ne (pc := 28) (tgt := 36) dX2_placeOf_28 (by decide) (fun hc => ?_) (fun hc => ?_)
        · rw [if_neg hc] at h
          exact aw_sel [0, 1, 2, 3, 4] rfl (w_x_Order_placeOf_36 N d hd  _ ih _ _ _ _ _ _ _ h)
        · rw [if_pos hc] at h
          exact aw_sel [0, 1, 2, 4] rfl (w_x_Order_placeOf_31 N d hd  _ ih _ _ _ _ _ _ h)
def x_Order_placeOf (N : Nat) (x1 x2 : Int) (w : aw_W) : Option (Int × aw_W) :=
  x_Order_placeOf_5 N N x1 x2 0 0 w
theorem w_x_Order_placeOf_d {l : Launch} {K : aw_K} (N d : Nat) (hd : 0 ≤ d) : ∀ (x1 x2 : Int) (w : aw_W) (y : Int) (v : aw_W), x_Order_placeOf N x1 x2 w = some (y, v) → aw_Met l K MX2_placeOf (d + 1) [.inr (.inr 27), .inl x1, .inl x2] w (some (.inl y), v) := by
  intro x1 x2 w y v h
  unfold x_Order_placeOf at h
  refine aw_enter rfl (Nat.le_of_ble_eq_true rfl) ?_
  show aw_AW l K MX2_placeOf (d + 1) 0 [(0, .inr (.inr 27)), (1, .inl x1), (2, .inl x2)] [] w (some (.inl y), v)
  refine aw_iconst (pc := 0) dX2_placeOf_0 ⟨by decide, by decide⟩ ?_
  refine aw_istore_n (pc := 1) (ls' := [(3, .inl 0), (0, .inr (.inr 27)), (1, .inl x1), (2, .inl x2)]) dX2_placeOf_1 (by decide) rfl ?_
  refine aw_iconst (pc := 2) dX2_placeOf_2 ⟨by decide, by decide⟩ ?_
  refine aw_istore (pc := 3) (ls' := [(4, .inl 0), (3, .inl 0), (0, .inr (.inr 27)), (1, .inl x1), (2, .inl x2)]) dX2_placeOf_3 (by decide) rfl ?_
  exact aw_sel [2, 3, 4, 1, 0] rfl (w_x_Order_placeOf_5 N d hd  N _ _ _ _ _ _ _ h)
theorem w_x_Order_placeOf {l : Launch} {K : aw_K} (N d : Nat) (hd : 1 ≤ d) : ∀ (x1 x2 : Int) (w : aw_W) (y : Int) (v : aw_W), x_Order_placeOf N x1 x2 w = some (y, v) → aw_Met l K MX2_placeOf (d) [.inr (.inr 27), .inl x1, .inl x2] w (some (.inl y), v) := by
  obtain ⟨e, rfl⟩ : ∃ e, d = e + 1 := ⟨d - 1, by omega⟩
  exact w_x_Order_placeOf_d N e (by omega)
theorem dX3_placeOf_0 : decode cX3_placeOf 0 = .ok (.aload_n 0, 1) := by decide +kernel
theorem dX3_placeOf_1 : decode cX3_placeOf 1 = .ok (.invokevirtual 99, 3) := by decide +kernel
theorem dX3_placeOf_4 : decode cX3_placeOf 4 = .ok (.aload_n 0, 1) := by decide +kernel
theorem dX3_placeOf_5 : decode cX3_placeOf 5 = .ok (.getfield 12, 3) := by decide +kernel
theorem dX3_placeOf_8 : decode cX3_placeOf 8 = .ok (.iload_n 1, 1) := by decide +kernel
theorem dX3_placeOf_9 : decode cX3_placeOf 9 = .ok (.aload_n 0, 1) := by decide +kernel
theorem dX3_placeOf_10 : decode cX3_placeOf 10 = .ok (.getfield 31, 3) := by decide +kernel
theorem dX3_placeOf_13 : decode cX3_placeOf 13 = .ok (.getfield 102, 3) := by decide +kernel
theorem dX3_placeOf_16 : decode cX3_placeOf 16 = .ok (.iconst 1, 1) := by decide +kernel
theorem dX3_placeOf_17 : decode cX3_placeOf 17 = .ok (.iaload, 1) := by decide +kernel
theorem dX3_placeOf_18 : decode cX3_placeOf 18 = .ok (.invokevirtual 108, 3) := by decide +kernel
theorem dX3_placeOf_21 : decode cX3_placeOf 21 = .ok (.ireturn, 1) := by decide +kernel
def x_Race_placeOf (N : Nat) (x1 : Int) (w : aw_W) : Option (Int × aw_W) :=
  aw_b1 (x_Race_rank N w) fun w1 =>
    aw_b2 (x_Order_placeOf N x1 (w1 5 1) w1) fun r2 w2 =>
      some (r2, w2)
theorem w_x_Race_placeOf_d {l : Launch} {K : aw_K} (N d : Nat) (hd : 1 ≤ d) : ∀ (x1 : Int) (w : aw_W) (y : Int) (v : aw_W), x_Race_placeOf N x1 w = some (y, v) → aw_Met l K MX3_placeOf (d + 1) [.inr (.inr 26), .inl x1] w (some (.inl y), v) := by
  intro x1 w y v h
  unfold x_Race_placeOf at h
  refine aw_enter rfl (Nat.le_of_ble_eq_true rfl) ?_
  show aw_AW l K MX3_placeOf (d + 1) 0 [(0, .inr (.inr 26)), (1, .inl x1)] [] w (some (.inl y), v)
  refine aw_aload_n (pc := 0) (q := 0) dX3_placeOf_0 rfl ?_
  obtain ⟨w1, h1, h⟩ := aw_b1s h
  refine aw_callV (pc := 1) (as := []) (st := []) (st' := []) dX3_placeOf_1 cv_RX3_99 (by decide) rfl rfl rfl rfl (Nat.le_of_ble_eq_true rfl) (w_x_Race_rank N d (by omega) _ _ h1) rfl ?_
  refine aw_aload_n (pc := 4) (q := 0) dX3_placeOf_4 rfl ?_
  refine aw_getf (pc := 5) (v := .inr (.inr 27)) dX3_placeOf_5 fl_RX3_12 (by decide) rfl rfl rfl ?_
  refine aw_iload_n (pc := 8) (q := 1) dX3_placeOf_8 rfl ?_
  refine aw_aload_n (pc := 9) (q := 0) dX3_placeOf_9 rfl ?_
  refine aw_getf (pc := 10) (v := .inr (.inr 3)) dX3_placeOf_10 fl_RX3_31 (by decide) rfl rfl rfl ?_
  refine aw_getf (pc := 13) (v := .inr (.inr 5)) dX3_placeOf_13 fl_RX3_102 (by decide) rfl rfl rfl ?_
  refine aw_iconst (pc := 16) dX3_placeOf_16 ⟨by decide, by decide⟩ ?_
  refine aw_ialdv (pc := 17) (v := w1 5 1) dX3_placeOf_17 rfl (by decide) (by decide) rfl ?_
  obtain ⟨r2, w2, h2, h⟩ := aw_b2s h
  refine aw_callV (pc := 18) (as := [.inl x1, .inl (w1 5 1)]) (st := []) (st' := [.inl r2]) dX3_placeOf_18 cv_RX3_108 (by decide) rfl rfl rfl rfl (Nat.le_of_ble_eq_true rfl) (w_x_Order_placeOf N d (by omega) _ _ _ _ _ h2) rfl ?_
  cases h
  exact aw_iret (pc := 21) rfl dX3_placeOf_21
theorem w_x_Race_placeOf {l : Launch} {K : aw_K} (N d : Nat) (hd : 2 ≤ d) : ∀ (x1 : Int) (w : aw_W) (y : Int) (v : aw_W), x_Race_placeOf N x1 w = some (y, v) → aw_Met l K MX3_placeOf (d) [.inr (.inr 26), .inl x1] w (some (.inl y), v) := by
  obtain ⟨e, rfl⟩ : ∃ e, d = e + 1 := ⟨d - 1, by omega⟩
  exact w_x_Race_placeOf_d N e (by omega)
theorem dX11_medal_0 : decode cX11_medal 0 = .ok (.aload_n 0, 1) := by decide +kernel
theorem dX11_medal_1 : decode cX11_medal 1 = .ok (.getfield 19, 3) := by decide +kernel
theorem dX11_medal_4 : decode cX11_medal 4 = .ok (.iload_n 3, 1) := by decide +kernel
theorem dX11_medal_5 : decode cX11_medal 5 = .ok (.invokevirtual 137, 3) := by decide +kernel
theorem dX11_medal_8 : decode cX11_medal 8 = .ok (.ifCond .eq 11, 3) := by decide +kernel
theorem dX11_medal_11 : decode cX11_medal 11 = .ok (.iload_n 1, 1) := by decide +kernel
theorem dX11_medal_12 : decode cX11_medal 12 = .ok (.iload_n 2, 1) := by decide +kernel
theorem dX11_medal_13 : decode cX11_medal 13 = .ok (.invokestatic 161, 3) := by decide +kernel
theorem dX11_medal_16 : decode cX11_medal 16 = .ok (.ifCond .ne 6, 3) := by decide +kernel
theorem dX11_medal_19 : decode cX11_medal 19 = .ok (.ldc 165, 2) := by decide +kernel
theorem dX11_medal_21 : decode cX11_medal 21 = .ok (.ireturn, 1) := by decide +kernel
theorem dX11_medal_22 : decode cX11_medal 22 = .ok (.aload_n 0, 1) := by decide +kernel
theorem dX11_medal_23 : decode cX11_medal 23 = .ok (.getfield 63, 3) := by decide +kernel
theorem dX11_medal_26 : decode cX11_medal 26 = .ok (.invokevirtual 166, 3) := by decide +kernel
theorem dX11_medal_29 : decode cX11_medal 29 = .ok (.aload_n 0, 1) := by decide +kernel
theorem dX11_medal_30 : decode cX11_medal 30 = .ok (.getfield 63, 3) := by decide +kernel
theorem dX11_medal_33 : decode cX11_medal 33 = .ok (.iload_n 1, 1) := by decide +kernel
theorem dX11_medal_34 : decode cX11_medal 34 = .ok (.iload_n 2, 1) := by decide +kernel
theorem dX11_medal_35 : decode cX11_medal 35 = .ok (.iload_n 2, 1) := by decide +kernel
theorem dX11_medal_36 : decode cX11_medal 36 = .ok (.invokevirtual 169, 3) := by decide +kernel
theorem dX11_medal_39 : decode cX11_medal 39 = .ok (.aload_n 0, 1) := by decide +kernel
theorem dX11_medal_40 : decode cX11_medal 40 = .ok (.getfield 63, 3) := by decide +kernel
theorem dX11_medal_43 : decode cX11_medal 43 = .ok (.iload_n 3, 1) := by decide +kernel
theorem dX11_medal_44 : decode cX11_medal 44 = .ok (.invokevirtual 326, 3) := by decide +kernel
theorem dX11_medal_47 : decode cX11_medal 47 = .ok (.ireturn, 1) := by decide +kernel
def x_medal_19 (N : Nat) (w : aw_W) : Option (Int × aw_W) :=
  some ((-1000000), w)
theorem w_x_medal_19 {l : Launch} {K : aw_K} (N d : Nat) (hd : 4 ≤ d) : ∀ (w : aw_W) (y : Int) (v : aw_W), x_medal_19 N w = some (y, v) → aw_AW l K MX11_medal (d + 1) 19 [] [] w (some (.inl y), v) := by
  intro w y v h
  unfold x_medal_19 at h
  refine aw_ldc (pc := 19) (x := (-1000000)) dX11_medal_19 cn_RX11_165 ⟨by decide, by decide⟩ ?_
  cases h
  exact aw_iret (pc := 21) rfl dX11_medal_21
def x_medal (N : Nat) (x1 x2 x3 : Int) (w : aw_W) : Option (Int × aw_W) :=
  aw_b2 (x_Land_holds N x3 w) fun r1 w1 =>
    if r1 = 0 then
      x_medal_19 N w1
    else
      aw_b2 (x_mayRun N x1 x2 w1) fun r2 w2 =>
        if r2 = 0 then
          x_medal_19 N w2
        else
          aw_b1 (x_Race_rulesAsTold N w2) fun w3 =>
            aw_b1 (x_Race_go N x1 x2 x2 w3) fun w4 =>
              aw_b2 (x_Race_placeOf N x3 w4) fun r5 w5 =>
                some (r5, w5)
theorem w_x_medal_d {l : Launch} {K : aw_K} (N d : Nat) (hd : 4 ≤ d) : ∀ (x1 x2 x3 : Int) (w : aw_W) (y : Int) (v : aw_W), x_medal N x1 x2 x3 w = some (y, v) → aw_Met l K MX11_medal (d + 1) [.inr (.inr 0), .inl x1, .inl x2, .inl x3] w (some (.inl y), v) := by
  intro x1 x2 x3 w y v h
  unfold x_medal at h
  refine aw_enter rfl (Nat.le_of_ble_eq_true rfl) ?_
  show aw_AW l K MX11_medal (d + 1) 0 [(0, .inr (.inr 0)), (1, .inl x1), (2, .inl x2), (3, .inl x3)] [] w (some (.inl y), v)
  refine aw_aload_n (pc := 0) (q := 0) dX11_medal_0 rfl ?_
  refine aw_getf (pc := 1) (v := .inr (.inr 3)) dX11_medal_1 fl_RX11_19 (by decide) rfl rfl rfl ?_
  refine aw_iload_n (pc := 4) (q := 3) dX11_medal_4 rfl ?_
  obtain ⟨r1, w1, h1, h⟩ := aw_b2s h
  refine aw_callV (pc := 5) (as := [.inl x3]) (st := []) (st' := [.inl r1]) dX11_medal_5 cv_RX11_137 (by decide) rfl rfl rfl rfl (Nat.le_of_ble_eq_true rfl) (w_x_Land_holds N d (by omega) _ _ _ _ h1) rfl ?_
  refine aw_if_eq (pc := 8) (tgt := 19) dX11_medal_8 (by decide) (fun hc => ?_) (fun hc => ?_)
  · rw [if_pos hc] at h
    exact aw_sel [] rfl (w_x_medal_19 N d hd  _ _ _ h)
  · rw [if_neg hc] at h
    refine aw_iload_n (pc := 11) (q := 1) dX11_medal_11 rfl ?_
    refine aw_iload_n (pc := 12) (q := 2) dX11_medal_12 rfl ?_
    obtain ⟨r2, w2, h2, h⟩ := aw_b2s h
    refine aw_callS (pc := 13) (as := [.inl x1, .inl x2]) (st := []) (st' := [.inl r2]) dX11_medal_13 cs_RX11_161 rfl rfl (Nat.le_of_ble_eq_true rfl) (w_x_mayRun N d (by omega) _ _ _ _ _ h2) rfl ?_
    refine aw_if_ne (pc := 16) (tgt := 22) dX11_medal_16 (by decide) (fun hc => ?_) (fun hc => ?_)
    · rw [if_neg hc] at h
      refine aw_aload_n (pc := 22) (q := 0) dX11_medal_22 rfl ?_
      refine aw_getf (pc := 23) (v := .inr (.inr 26)) dX11_medal_23 fl_RX11_63 (by decide) rfl rfl rfl ?_
      obtain ⟨w3, h3, h⟩ := aw_b1s h
      refine aw_callV (pc := 26) (as := []) (st := []) (st' := []) dX11_medal_26 cv_RX11_166 (by decide) rfl rfl rfl rfl (Nat.le_of_ble_eq_true rfl) (w_x_Race_rulesAsTold N d (by omega) _ _ h3) rfl ?_
      refine aw_aload_n (pc := 29) (q := 0) dX11_medal_29 rfl ?_
      refine aw_getf (pc := 30) (v := .inr (.inr 26)) dX11_medal_30 fl_RX11_63 (by decide) rfl rfl rfl ?_
      refine aw_iload_n (pc := 33) (q := 1) dX11_medal_33 rfl ?_
      refine aw_iload_n (pc := 34) (q := 2) dX11_medal_34 rfl ?_
      refine aw_iload_n (pc := 35) (q := 2) dX11_medal_35 rfl ?_
      obtain ⟨w4, h4, h⟩ := aw_b1s h
      refine aw_callV (pc := 36) (as := [.inl x1, .inl x2, .inl x2]) (st := []) (st' := []) dX11_medal_36 cv_RX11_169 (by decide) rfl rfl rfl rfl (Nat.le_of_ble_eq_true rfl) (w_x_Race_go N d (by omega) _ _ _ _ _ h4) rfl ?_
      refine aw_aload_n (pc := 39) (q := 0) dX11_medal_39 rfl ?_
      refine aw_getf (pc := 40) (v := .inr (.inr 26)) dX11_medal_40 fl_RX11_63 (by decide) rfl rfl rfl ?_
      refine aw_iload_n (pc := 43) (q := 3) dX11_medal_43 rfl ?_
      obtain ⟨r5, w5, h5, h⟩ := aw_b2s h
      refine aw_callV (pc := 44) (as := [.inl x3]) (st := []) (st' := [.inl r5]) dX11_medal_44 cv_RX11_326 (by decide) rfl rfl rfl rfl (Nat.le_of_ble_eq_true rfl) (w_x_Race_placeOf N d (by omega) _ _ _ _ h5) rfl ?_
      cases h
      exact aw_iret (pc := 47) rfl dX11_medal_47
    · rw [if_pos hc] at h
      exact aw_sel [] rfl (w_x_medal_19 N d hd  _ _ _ h)
theorem w_x_medal {l : Launch} {K : aw_K} (N d : Nat) (hd : 5 ≤ d) : ∀ (x1 x2 x3 : Int) (w : aw_W) (y : Int) (v : aw_W), x_medal N x1 x2 x3 w = some (y, v) → aw_Met l K MX11_medal (d) [.inr (.inr 0), .inl x1, .inl x2, .inl x3] w (some (.inl y), v) := by
  obtain ⟨e, rfl⟩ : ∃ e, d = e + 1 := ⟨d - 1, by omega⟩
  exact w_x_medal_d N e (by omega)
theorem dX11_near_0 : decode cX11_near 0 = .ok (.aload_n 0, 1) := by decide +kernel
theorem dX11_near_1 : decode cX11_near 1 = .ok (.getfield 19, 3) := by decide +kernel
theorem dX11_near_4 : decode cX11_near 4 = .ok (.iload_n 2, 1) := by decide +kernel
theorem dX11_near_5 : decode cX11_near 5 = .ok (.invokevirtual 137, 3) := by decide +kernel
theorem dX11_near_8 : decode cX11_near 8 = .ok (.ifCond .eq 25, 3) := by decide +kernel
theorem dX11_near_11 : decode cX11_near 11 = .ok (.aload_n 0, 1) := by decide +kernel
theorem dX11_near_12 : decode cX11_near 12 = .ok (.getfield 38, 3) := by decide +kernel
theorem dX11_near_15 : decode cX11_near 15 = .ok (.iload_n 1, 1) := by decide +kernel
theorem dX11_near_16 : decode cX11_near 16 = .ok (.invokevirtual 188, 3) := by decide +kernel
theorem dX11_near_19 : decode cX11_near 19 = .ok (.ifCond .eq 14, 3) := by decide +kernel
theorem dX11_near_22 : decode cX11_near 22 = .ok (.aload_n 0, 1) := by decide +kernel
theorem dX11_near_23 : decode cX11_near 23 = .ok (.getfield 47, 3) := by decide +kernel
theorem dX11_near_26 : decode cX11_near 26 = .ok (.iload_n 2, 1) := by decide +kernel
theorem dX11_near_27 : decode cX11_near 27 = .ok (.invokevirtual 316, 3) := by decide +kernel
theorem dX11_near_30 : decode cX11_near 30 = .ok (.goto 4, 3) := by decide +kernel
theorem dX11_near_33 : decode cX11_near 33 = .ok (.iconst (-1), 1) := by decide +kernel
theorem dX11_near_34 : decode cX11_near 34 = .ok (.ireturn, 1) := by decide +kernel
def x_near_34 (N : Nat) (s0 : Int) (w : aw_W) : Option (Int × aw_W) :=
  some (s0, w)
theorem w_x_near_34 {l : Launch} {K : aw_K} (N d : Nat) (hd : 4 ≤ d) : ∀ (s0 : Int) (w : aw_W) (y : Int) (v : aw_W), x_near_34 N s0 w = some (y, v) → aw_AW l K MX11_near (d + 1) 34 [] [.inl s0] w (some (.inl y), v) := by
  intro s0 w y v h
  unfold x_near_34 at h
  cases h
  exact aw_iret (pc := 34) rfl dX11_near_34
def x_near_33 (N : Nat) (w : aw_W) : Option (Int × aw_W) :=
  x_near_34 N (-1) w
theorem w_x_near_33 {l : Launch} {K : aw_K} (N d : Nat) (hd : 4 ≤ d) : ∀ (w : aw_W) (y : Int) (v : aw_W), x_near_33 N w = some (y, v) → aw_AW l K MX11_near (d + 1) 33 [] [] w (some (.inl y), v) := by
  intro w y v h
  unfold x_near_33 at h
  refine aw_iconst (pc := 33) dX11_near_33 ⟨by decide, by decide⟩ ?_
  exact aw_sel [] rfl (w_x_near_34 N d hd  _ _ _ _ h)
def x_near (N : Nat) (x1 x2 : Int) (w : aw_W) : Option (Int × aw_W) :=
  aw_b2 (x_Land_holds N x2 w) fun r1 w1 =>
    if r1 = 0 then
      x_near_33 N w1
    else
      aw_b2 (x_Sale_take N x1 w1) fun r2 w2 =>
        if r2 = 0 then
          x_near_33 N w2
        else
          aw_b2 (x_Replies_nearest N x2 w2) fun r3 w3 =>
            x_near_34 N r3 w3
theorem w_x_near_d {l : Launch} {K : aw_K} (N d : Nat) (hd : 4 ≤ d) : ∀ (x1 x2 : Int) (w : aw_W) (y : Int) (v : aw_W), x_near N x1 x2 w = some (y, v) → aw_Met l K MX11_near (d + 1) [.inr (.inr 0), .inl x1, .inl x2] w (some (.inl y), v) := by
  intro x1 x2 w y v h
  unfold x_near at h
  refine aw_enter rfl (Nat.le_of_ble_eq_true rfl) ?_
  show aw_AW l K MX11_near (d + 1) 0 [(0, .inr (.inr 0)), (1, .inl x1), (2, .inl x2)] [] w (some (.inl y), v)
  refine aw_aload_n (pc := 0) (q := 0) dX11_near_0 rfl ?_
  refine aw_getf (pc := 1) (v := .inr (.inr 3)) dX11_near_1 fl_RX11_19 (by decide) rfl rfl rfl ?_
  refine aw_iload_n (pc := 4) (q := 2) dX11_near_4 rfl ?_
  obtain ⟨r1, w1, h1, h⟩ := aw_b2s h
  refine aw_callV (pc := 5) (as := [.inl x2]) (st := []) (st' := [.inl r1]) dX11_near_5 cv_RX11_137 (by decide) rfl rfl rfl rfl (Nat.le_of_ble_eq_true rfl) (w_x_Land_holds N d (by omega) _ _ _ _ h1) rfl ?_
  refine aw_if_eq (pc := 8) (tgt := 33) dX11_near_8 (by decide) (fun hc => ?_) (fun hc => ?_)
  · rw [if_pos hc] at h
    exact aw_sel [] rfl (w_x_near_33 N d hd  _ _ _ h)
  · rw [if_neg hc] at h
    refine aw_aload_n (pc := 11) (q := 0) dX11_near_11 rfl ?_
    refine aw_getf (pc := 12) (v := .inr (.inr 17)) dX11_near_12 fl_RX11_38 (by decide) rfl rfl rfl ?_
    refine aw_iload_n (pc := 15) (q := 1) dX11_near_15 rfl ?_
    obtain ⟨r2, w2, h2, h⟩ := aw_b2s h
    refine aw_callV (pc := 16) (as := [.inl x1]) (st := []) (st' := [.inl r2]) dX11_near_16 cv_RX11_188 (by decide) rfl rfl rfl rfl (Nat.le_of_ble_eq_true rfl) (w_x_Sale_take N d (by omega) _ _ _ _ h2) rfl ?_
    refine aw_if_eq (pc := 19) (tgt := 33) dX11_near_19 (by decide) (fun hc => ?_) (fun hc => ?_)
    · rw [if_pos hc] at h
      exact aw_sel [] rfl (w_x_near_33 N d hd  _ _ _ h)
    · rw [if_neg hc] at h
      refine aw_aload_n (pc := 22) (q := 0) dX11_near_22 rfl ?_
      refine aw_getf (pc := 23) (v := .inr (.inr 22)) dX11_near_23 fl_RX11_47 (by decide) rfl rfl rfl ?_
      refine aw_iload_n (pc := 26) (q := 2) dX11_near_26 rfl ?_
      obtain ⟨r3, w3, h3, h⟩ := aw_b2s h
      refine aw_callV (pc := 27) (as := [.inl x2]) (st := []) (st' := [.inl r3]) dX11_near_27 cv_RX11_316 (by decide) rfl rfl rfl rfl (Nat.le_of_ble_eq_true rfl) (w_x_Replies_nearest N d (by omega) _ _ _ _ h3) rfl ?_
      refine aw_goto (pc := 30) (tgt := 34) dX11_near_30 (by decide) ?_
      exact aw_sel [] rfl (w_x_near_34 N d hd  _ _ _ _ h)
theorem w_x_near {l : Launch} {K : aw_K} (N d : Nat) (hd : 5 ≤ d) : ∀ (x1 x2 : Int) (w : aw_W) (y : Int) (v : aw_W), x_near N x1 x2 w = some (y, v) → aw_Met l K MX11_near (d) [.inr (.inr 0), .inl x1, .inl x2] w (some (.inl y), v) := by
  obtain ⟨e, rfl⟩ : ∃ e, d = e + 1 := ⟨d - 1, by omega⟩
  exact w_x_near_d N e (by omega)
theorem dX0_timesOf_0 : decode cX0_timesOf 0 = .ok (.iconst 0, 1) := by decide +kernel
theorem dX0_timesOf_1 : decode cX0_timesOf 1 = .ok (.istore_n 2, 1) := by decide +kernel
theorem dX0_timesOf_2 : decode cX0_timesOf 2 = .ok (.iconst 0, 1) := by decide +kernel
theorem dX0_timesOf_3 : decode cX0_timesOf 3 = .ok (.istore_n 3, 1) := by decide +kernel
theorem dX0_timesOf_4 : decode cX0_timesOf 4 = .ok (.iload_n 3, 1) := by decide +kernel
theorem dX0_timesOf_5 : decode cX0_timesOf 5 = .ok (.aload_n 0, 1) := by decide +kernel
theorem dX0_timesOf_6 : decode cX0_timesOf 6 = .ok (.getfield 32, 3) := by decide +kernel
theorem dX0_timesOf_9 : decode cX0_timesOf 9 = .ok (.if_icmp .ge 49, 3) := by decide +kernel
theorem dX0_timesOf_12 : decode cX0_timesOf 12 = .ok (.aload_n 0, 1) := by decide +kernel
theorem dX0_timesOf_13 : decode cX0_timesOf 13 = .ok (.getfield 22, 3) := by decide +kernel
theorem dX0_timesOf_16 : decode cX0_timesOf 16 = .ok (.aload_n 0, 1) := by decide +kernel
theorem dX0_timesOf_17 : decode cX0_timesOf 17 = .ok (.getfield 9, 3) := by decide +kernel
theorem dX0_timesOf_20 : decode cX0_timesOf 20 = .ok (.iload_n 3, 1) := by decide +kernel
theorem dX0_timesOf_21 : decode cX0_timesOf 21 = .ok (.iaload, 1) := by decide +kernel
theorem dX0_timesOf_22 : decode cX0_timesOf 22 = .ok (.invokevirtual 63, 3) := by decide +kernel
theorem dX0_timesOf_25 : decode cX0_timesOf 25 = .ok (.pop, 1) := by decide +kernel
theorem dX0_timesOf_26 : decode cX0_timesOf 26 = .ok (.aload_n 0, 1) := by decide +kernel
theorem dX0_timesOf_27 : decode cX0_timesOf 27 = .ok (.getfield 22, 3) := by decide +kernel
theorem dX0_timesOf_30 : decode cX0_timesOf 30 = .ok (.invokevirtual 67, 3) := by decide +kernel
theorem dX0_timesOf_33 : decode cX0_timesOf 33 = .ok (.iload_n 2, 1) := by decide +kernel
theorem dX0_timesOf_34 : decode cX0_timesOf 34 = .ok (.aload_n 0, 1) := by decide +kernel
theorem dX0_timesOf_35 : decode cX0_timesOf 35 = .ok (.getfield 22, 3) := by decide +kernel
theorem dX0_timesOf_38 : decode cX0_timesOf 38 = .ok (.getfield 70, 3) := by decide +kernel
theorem dX0_timesOf_41 : decode cX0_timesOf 41 = .ok (.iload_n 1, 1) := by decide +kernel
theorem dX0_timesOf_42 : decode cX0_timesOf 42 = .ok (.if_icmp .ne 7, 3) := by decide +kernel
theorem dX0_timesOf_45 : decode cX0_timesOf 45 = .ok (.iconst 1, 1) := by decide +kernel
theorem dX0_timesOf_46 : decode cX0_timesOf 46 = .ok (.goto 4, 3) := by decide +kernel
theorem dX0_timesOf_49 : decode cX0_timesOf 49 = .ok (.iconst 0, 1) := by decide +kernel
theorem dX0_timesOf_50 : decode cX0_timesOf 50 = .ok (.iadd, 1) := by decide +kernel
theorem dX0_timesOf_51 : decode cX0_timesOf 51 = .ok (.istore_n 2, 1) := by decide +kernel
theorem dX0_timesOf_52 : decode cX0_timesOf 52 = .ok (.iinc 3 1, 3) := by decide +kernel
theorem dX0_timesOf_55 : decode cX0_timesOf 55 = .ok (.goto (-51), 3) := by decide +kernel
theorem dX0_timesOf_58 : decode cX0_timesOf 58 = .ok (.iload_n 2, 1) := by decide +kernel
theorem dX0_timesOf_59 : decode cX0_timesOf 59 = .ok (.ireturn, 1) := by decide +kernel
def x_Book_timesOf_58 (N : Nat) (x2 : Int) (w : aw_W) : Option (Int × aw_W) :=
  some (x2, w)
theorem w_x_Book_timesOf_58 {l : Launch} {K : aw_K} (N d : Nat) (hd : 2 ≤ d) : ∀ (x2 : Int) (w : aw_W) (y : Int) (v : aw_W), x_Book_timesOf_58 N x2 w = some (y, v) → aw_AW l K MX0_timesOf (d + 1) 58 [(2, .inl x2)] [] w (some (.inl y), v) := by
  intro x2 w y v h
  unfold x_Book_timesOf_58 at h
  refine aw_iload_n (pc := 58) (q := 0) dX0_timesOf_58 rfl ?_
  cases h
  exact aw_iret (pc := 59) rfl dX0_timesOf_59
def x_Book_timesOf_50 (N : Nat) (k4 : Int → Int → Int → aw_W → Option (Int × aw_W)) (x1 x3 s0 s1 : Int) (w : aw_W) : Option (Int × aw_W) :=
  k4 x1 (aw_w (s1 + s0)) (aw_w (x3 + 1)) w
theorem w_x_Book_timesOf_50 {l : Launch} {K : aw_K} (N d : Nat) (hd : 2 ≤ d) (k4 : Int → Int → Int → aw_W → Option (Int × aw_W)) (hk4 : ∀ (x1 x2 x3 : Int) (w : aw_W) (y : Int) (v : aw_W), k4 x1 x2 x3 w = some (y, v) → aw_AW l K MX0_timesOf (d + 1) 4 [(0, .inr (.inr 41)), (1, .inl x1), (2, .inl x2), (3, .inl x3)] [] w (some (.inl y), v)) : ∀ (x1 x3 s0 s1 : Int) (w : aw_W) (y : Int) (v : aw_W), x_Book_timesOf_50 N k4 x1 x3 s0 s1 w = some (y, v) → aw_AW l K MX0_timesOf (d + 1) 50 [(0, .inr (.inr 41)), (1, .inl x1), (3, .inl x3)] [.inl s0, .inl s1] w (some (.inl y), v) := by
  intro x1 x3 s0 s1 w y v h
  unfold x_Book_timesOf_50 at h
  refine aw_iadd (pc := 50) dX0_timesOf_50 ?_
  refine aw_istore_n (pc := 51) (ls' := [(2, .inl (aw_w (s1 + s0))), (0, .inr (.inr 41)), (1, .inl x1), (3, .inl x3)]) dX0_timesOf_51 (by decide) rfl ?_
  refine aw_iinc (pc := 52) (q := 3) (ls' := [(3, .inl (aw_w (x3 + 1))), (2, .inl (aw_w (s1 + s0))), (0, .inr (.inr 41)), (1, .inl x1)]) dX0_timesOf_52 rfl (by decide) rfl ?_
  refine aw_goto (pc := 55) (tgt := 4) dX0_timesOf_55 (by decide) ?_
  exact aw_sel [2, 3, 1, 0] rfl (hk4 _ _ _ _ _ _ h)
def x_Book_timesOf_4 (N : Nat) : Nat → Int → Int → Int → aw_W → Option (Int × aw_W)
  | 0, _, _, _, _ => none
  | n + 1, x1, x2, x3, w =>
    if (w 41 4) ≤ x3 then
      x_Book_timesOf_58 N x2 w
    else
      if 0 ≤ x3 ∧ x3 < 40 then
        aw_b2 (x_Sale_put N (w 42 x3.toNat) w) fun r1 w1 =>
          aw_b1 (x_Sale_settle N w1) fun w2 =>
            if (w2 17 3) = x1 then
              x_Book_timesOf_50 N (x_Book_timesOf_4 N n) x1 x3 1 x2 w2
            else
              x_Book_timesOf_50 N (x_Book_timesOf_4 N n) x1 x3 0 x2 w2
      else none
theorem w_x_Book_timesOf_4 {l : Launch} {K : aw_K} (N d : Nat) (hd : 2 ≤ d) : ∀ (n : Nat) (x1 x2 x3 : Int) (w : aw_W) (y : Int) (v : aw_W), x_Book_timesOf_4 N n x1 x2 x3 w = some (y, v) → aw_AW l K MX0_timesOf (d + 1) 4 [(0, .inr (.inr 41)), (1, .inl x1), (2, .inl x2), (3, .inl x3)] [] w (some (.inl y), v) := by
  intro n
  induction n with
  | zero => intro x1 x2 x3 w y v h; rw [x_Book_timesOf_4] at h; cases h
  | succ n ih =>
    intro x1 x2 x3 w y v h
    rw [x_Book_timesOf_4] at h
    refine aw_iload_n (pc := 4) (q := 3) dX0_timesOf_4 rfl ?_
    refine aw_aload_n (pc := 5) (q := 0) dX0_timesOf_5 rfl ?_
    refine aw_getf (pc := 6) (v := .inl (w 41 4)) dX0_timesOf_6 fl_RX0_32 (by decide) rfl rfl rfl ?_
    refine aw_icmp_ge (pc := 9) (tgt := 58) dX0_timesOf_9 (by decide) (fun hc => ?_) (fun hc => ?_)
    · rw [if_pos hc] at h
      exact aw_sel [2] rfl (w_x_Book_timesOf_58 N d hd  _ _ _ _ h)
    · rw [if_neg hc] at h
      refine aw_aload_n (pc := 12) (q := 0) dX0_timesOf_12 rfl ?_
      refine aw_getf (pc := 13) (v := .inr (.inr 17)) dX0_timesOf_13 fl_RX0_22 (by decide) rfl rfl rfl ?_
      refine aw_aload_n (pc := 16) (q := 0) dX0_timesOf_16 rfl ?_
      refine aw_getf (pc := 17) (v := .inr (.inr 42)) dX0_timesOf_17 fl_RX0_9 (by decide) rfl rfl rfl ?_
      refine aw_iload_n (pc := 20) (q := 3) dX0_timesOf_20 rfl ?_
      obtain ⟨hb, h⟩ := aw_cks h
      refine aw_ialdv (pc := 21) (v := w 42 x3.toNat) dX0_timesOf_21 rfl hb.1 hb.2 rfl ?_
      obtain ⟨r1, w1, h1, h⟩ := aw_b2s h
      refine aw_callV (pc := 22) (as := [.inl (w 42 x3.toNat)]) (st := []) (st' := [.inl r1]) dX0_timesOf_22 cv_RX0_63 (by decide) rfl rfl rfl rfl (Nat.le_of_ble_eq_true rfl) (w_x_Sale_put N d (by omega) _ _ _ _ h1) rfl ?_
      refine aw_pop (pc := 25) dX0_timesOf_25 rfl ?_
      refine aw_aload_n (pc := 26) (q := 0) dX0_timesOf_26 rfl ?_
      refine aw_getf (pc := 27) (v := .inr (.inr 17)) dX0_timesOf_27 fl_RX0_22 (by decide) rfl rfl rfl ?_
      obtain ⟨w2, h2, h⟩ := aw_b1s h
      refine aw_callV (pc := 30) (as := []) (st := []) (st' := []) dX0_timesOf_30 cv_RX0_67 (by decide) rfl rfl rfl rfl (Nat.le_of_ble_eq_true rfl) (w_x_Sale_settle N d (by omega) _ _ h2) rfl ?_
      refine aw_iload_n (pc := 33) (q := 2) dX0_timesOf_33 rfl ?_
      refine aw_aload_n (pc := 34) (q := 0) dX0_timesOf_34 rfl ?_
      refine aw_getf (pc := 35) (v := .inr (.inr 17)) dX0_timesOf_35 fl_RX0_22 (by decide) rfl rfl rfl ?_
      refine aw_getf (pc := 38) (v := .inl (w2 17 3)) dX0_timesOf_38 fl_RX0_70 (by decide) rfl rfl rfl ?_
      refine aw_iload_n (pc := 41) (q := 1) dX0_timesOf_41 rfl ?_
      refine aw_icmp_ne (pc := 42) (tgt := 49) dX0_timesOf_42 (by decide) (fun hc => ?_) (fun hc => ?_)
      · rw [if_neg hc] at h
        refine aw_iconst (pc := 49) dX0_timesOf_49 ⟨by decide, by decide⟩ ?_
        exact aw_sel [0, 1, 3] rfl (w_x_Book_timesOf_50 N d hd  _ ih _ _ _ _ _ _ _ h)
      · rw [if_pos hc] at h
        refine aw_iconst (pc := 45) dX0_timesOf_45 ⟨by decide, by decide⟩ ?_
        refine aw_goto (pc := 46) (tgt := 50) dX0_timesOf_46 (by decide) ?_
        exact aw_sel [0, 1, 3] rfl (w_x_Book_timesOf_50 N d hd  _ ih _ _ _ _ _ _ _ h)
def x_Book_timesOf (N : Nat) (x1 : Int) (w : aw_W) : Option (Int × aw_W) :=
  x_Book_timesOf_4 N N x1 0 0 w
theorem w_x_Book_timesOf_d {l : Launch} {K : aw_K} (N d : Nat) (hd : 2 ≤ d) : ∀ (x1 : Int) (w : aw_W) (y : Int) (v : aw_W), x_Book_timesOf N x1 w = some (y, v) → aw_Met l K MX0_timesOf (d + 1) [.inr (.inr 41), .inl x1] w (some (.inl y), v) := by
  intro x1 w y v h
  unfold x_Book_timesOf at h
  refine aw_enter rfl (Nat.le_of_ble_eq_true rfl) ?_
  show aw_AW l K MX0_timesOf (d + 1) 0 [(0, .inr (.inr 41)), (1, .inl x1)] [] w (some (.inl y), v)
  refine aw_iconst (pc := 0) dX0_timesOf_0 ⟨by decide, by decide⟩ ?_
  refine aw_istore_n (pc := 1) (ls' := [(2, .inl 0), (0, .inr (.inr 41)), (1, .inl x1)]) dX0_timesOf_1 (by decide) rfl ?_
  refine aw_iconst (pc := 2) dX0_timesOf_2 ⟨by decide, by decide⟩ ?_
  refine aw_istore_n (pc := 3) (ls' := [(3, .inl 0), (2, .inl 0), (0, .inr (.inr 41)), (1, .inl x1)]) dX0_timesOf_3 (by decide) rfl ?_
  exact aw_sel [2, 3, 1, 0] rfl (w_x_Book_timesOf_4 N d hd  N _ _ _ _ _ _ h)
theorem w_x_Book_timesOf {l : Launch} {K : aw_K} (N d : Nat) (hd : 3 ≤ d) : ∀ (x1 : Int) (w : aw_W) (y : Int) (v : aw_W), x_Book_timesOf N x1 w = some (y, v) → aw_Met l K MX0_timesOf (d) [.inr (.inr 41), .inl x1] w (some (.inl y), v) := by
  obtain ⟨e, rfl⟩ : ∃ e, d = e + 1 := ⟨d - 1, by omega⟩
  exact w_x_Book_timesOf_d N e (by omega)
theorem dX11_often_0 : decode cX11_often 0 = .ok (.aload_n 0, 1) := by decide +kernel
theorem dX11_often_1 : decode cX11_often 1 = .ok (.getfield 19, 3) := by decide +kernel
theorem dX11_often_4 : decode cX11_often 4 = .ok (.iload_n 1, 1) := by decide +kernel
theorem dX11_often_5 : decode cX11_often 5 = .ok (.invokevirtual 137, 3) := by decide +kernel
theorem dX11_often_8 : decode cX11_often 8 = .ok (.ifCond .eq 14, 3) := by decide +kernel
theorem dX11_often_11 : decode cX11_often 11 = .ok (.aload_n 0, 1) := by decide +kernel
theorem dX11_often_12 : decode cX11_often 12 = .ok (.getfield 84, 3) := by decide +kernel
theorem dX11_often_15 : decode cX11_often 15 = .ok (.iload_n 1, 1) := by decide +kernel
theorem dX11_often_16 : decode cX11_often 16 = .ok (.invokevirtual 285, 3) := by decide +kernel
theorem dX11_often_19 : decode cX11_often 19 = .ok (.goto 4, 3) := by decide +kernel
theorem dX11_often_22 : decode cX11_often 22 = .ok (.iconst (-1), 1) := by decide +kernel
theorem dX11_often_23 : decode cX11_often 23 = .ok (.ireturn, 1) := by decide +kernel
def x_often_23 (N : Nat) (s0 : Int) (w : aw_W) : Option (Int × aw_W) :=
  some (s0, w)
theorem w_x_often_23 {l : Launch} {K : aw_K} (N d : Nat) (hd : 3 ≤ d) : ∀ (s0 : Int) (w : aw_W) (y : Int) (v : aw_W), x_often_23 N s0 w = some (y, v) → aw_AW l K MX11_often (d + 1) 23 [] [.inl s0] w (some (.inl y), v) := by
  intro s0 w y v h
  unfold x_often_23 at h
  cases h
  exact aw_iret (pc := 23) rfl dX11_often_23
def x_often (N : Nat) (x1 : Int) (w : aw_W) : Option (Int × aw_W) :=
  aw_b2 (x_Land_holds N x1 w) fun r1 w1 =>
    if r1 = 0 then
      x_often_23 N (-1) w1
    else
      aw_b2 (x_Book_timesOf N x1 w1) fun r2 w2 =>
        x_often_23 N r2 w2
theorem w_x_often_d {l : Launch} {K : aw_K} (N d : Nat) (hd : 3 ≤ d) : ∀ (x1 : Int) (w : aw_W) (y : Int) (v : aw_W), x_often N x1 w = some (y, v) → aw_Met l K MX11_often (d + 1) [.inr (.inr 0), .inl x1] w (some (.inl y), v) := by
  intro x1 w y v h
  unfold x_often at h
  refine aw_enter rfl (Nat.le_of_ble_eq_true rfl) ?_
  show aw_AW l K MX11_often (d + 1) 0 [(0, .inr (.inr 0)), (1, .inl x1)] [] w (some (.inl y), v)
  refine aw_aload_n (pc := 0) (q := 0) dX11_often_0 rfl ?_
  refine aw_getf (pc := 1) (v := .inr (.inr 3)) dX11_often_1 fl_RX11_19 (by decide) rfl rfl rfl ?_
  refine aw_iload_n (pc := 4) (q := 1) dX11_often_4 rfl ?_
  obtain ⟨r1, w1, h1, h⟩ := aw_b2s h
  refine aw_callV (pc := 5) (as := [.inl x1]) (st := []) (st' := [.inl r1]) dX11_often_5 cv_RX11_137 (by decide) rfl rfl rfl rfl (Nat.le_of_ble_eq_true rfl) (w_x_Land_holds N d (by omega) _ _ _ _ h1) rfl ?_
  refine aw_if_eq (pc := 8) (tgt := 22) dX11_often_8 (by decide) (fun hc => ?_) (fun hc => ?_)
  · rw [if_pos hc] at h
    refine aw_iconst (pc := 22) dX11_often_22 ⟨by decide, by decide⟩ ?_
    exact aw_sel [] rfl (w_x_often_23 N d hd  _ _ _ _ h)
  · rw [if_neg hc] at h
    refine aw_aload_n (pc := 11) (q := 0) dX11_often_11 rfl ?_
    refine aw_getf (pc := 12) (v := .inr (.inr 41)) dX11_often_12 fl_RX11_84 (by decide) rfl rfl rfl ?_
    refine aw_iload_n (pc := 15) (q := 1) dX11_often_15 rfl ?_
    obtain ⟨r2, w2, h2, h⟩ := aw_b2s h
    refine aw_callV (pc := 16) (as := [.inl x1]) (st := []) (st' := [.inl r2]) dX11_often_16 cv_RX11_285 (by decide) rfl rfl rfl rfl (Nat.le_of_ble_eq_true rfl) (w_x_Book_timesOf N d (by omega) _ _ _ _ h2) rfl ?_
    refine aw_goto (pc := 19) (tgt := 23) dX11_often_19 (by decide) ?_
    exact aw_sel [] rfl (w_x_often_23 N d hd  _ _ _ _ h)
theorem w_x_often {l : Launch} {K : aw_K} (N d : Nat) (hd : 4 ≤ d) : ∀ (x1 : Int) (w : aw_W) (y : Int) (v : aw_W), x_often N x1 w = some (y, v) → aw_Met l K MX11_often (d) [.inr (.inr 0), .inl x1] w (some (.inl y), v) := by
  obtain ⟨e, rfl⟩ : ∃ e, d = e + 1 := ⟨d - 1, by omega⟩
  exact w_x_often_d N e (by omega)
theorem dX0_mostOften_0 : decode cX0_mostOften 0 = .ok (.iconst (-1), 1) := by decide +kernel
theorem dX0_mostOften_1 : decode cX0_mostOften 1 = .ok (.istore_n 1, 1) := by decide +kernel
theorem dX0_mostOften_2 : decode cX0_mostOften 2 = .ok (.iconst 0, 1) := by decide +kernel
theorem dX0_mostOften_3 : decode cX0_mostOften 3 = .ok (.istore_n 2, 1) := by decide +kernel
theorem dX0_mostOften_4 : decode cX0_mostOften 4 = .ok (.iload_n 2, 1) := by decide +kernel
theorem dX0_mostOften_5 : decode cX0_mostOften 5 = .ok (.aload_n 0, 1) := by decide +kernel
theorem dX0_mostOften_6 : decode cX0_mostOften 6 = .ok (.getfield 15, 3) := by decide +kernel
theorem dX0_mostOften_9 : decode cX0_mostOften 9 = .ok (.arraylength, 1) := by decide +kernel
theorem dX0_mostOften_10 : decode cX0_mostOften 10 = .ok (.if_icmp .ge 35, 3) := by decide +kernel
theorem dX0_mostOften_13 : decode cX0_mostOften 13 = .ok (.aload_n 0, 1) := by decide +kernel
theorem dX0_mostOften_14 : decode cX0_mostOften 14 = .ok (.getfield 15, 3) := by decide +kernel
theorem dX0_mostOften_17 : decode cX0_mostOften 17 = .ok (.iload_n 2, 1) := by decide +kernel
theorem dX0_mostOften_18 : decode cX0_mostOften 18 = .ok (.iaload, 1) := by decide +kernel
theorem dX0_mostOften_19 : decode cX0_mostOften 19 = .ok (.iload_n 1, 1) := by decide +kernel
theorem dX0_mostOften_20 : decode cX0_mostOften 20 = .ok (.iconst (-1), 1) := by decide +kernel
theorem dX0_mostOften_21 : decode cX0_mostOften 21 = .ok (.if_icmp .ne 7, 3) := by decide +kernel
theorem dX0_mostOften_24 : decode cX0_mostOften 24 = .ok (.iconst 0, 1) := by decide +kernel
theorem dX0_mostOften_25 : decode cX0_mostOften 25 = .ok (.goto 9, 3) := by decide +kernel
theorem dX0_mostOften_28 : decode cX0_mostOften 28 = .ok (.aload_n 0, 1) := by decide +kernel
theorem dX0_mostOften_29 : decode cX0_mostOften 29 = .ok (.getfield 15, 3) := by decide +kernel
theorem dX0_mostOften_32 : decode cX0_mostOften 32 = .ok (.iload_n 1, 1) := by decide +kernel
theorem dX0_mostOften_33 : decode cX0_mostOften 33 = .ok (.iaload, 1) := by decide +kernel
theorem dX0_mostOften_34 : decode cX0_mostOften 34 = .ok (.if_icmp .le 5, 3) := by decide +kernel
theorem dX0_mostOften_37 : decode cX0_mostOften 37 = .ok (.iload_n 2, 1) := by decide +kernel
theorem dX0_mostOften_38 : decode cX0_mostOften 38 = .ok (.istore_n 1, 1) := by decide +kernel
theorem dX0_mostOften_39 : decode cX0_mostOften 39 = .ok (.iinc 2 1, 3) := by decide +kernel
theorem dX0_mostOften_42 : decode cX0_mostOften 42 = .ok (.goto (-38), 3) := by decide +kernel
theorem dX0_mostOften_45 : decode cX0_mostOften 45 = .ok (.iload_n 1, 1) := by decide +kernel
theorem dX0_mostOften_46 : decode cX0_mostOften 46 = .ok (.ireturn, 1) := by decide +kernel
def x_Book_mostOften_45 (N : Nat) (x1 : Int) (w : aw_W) : Option (Int × aw_W) :=
  some (x1, w)
theorem w_x_Book_mostOften_45 {l : Launch} {K : aw_K} (N d : Nat) : ∀ (x1 : Int) (w : aw_W) (y : Int) (v : aw_W), x_Book_mostOften_45 N x1 w = some (y, v) → aw_AW l K MX0_mostOften (d) 45 [(1, .inl x1)] [] w (some (.inl y), v) := by
  intro x1 w y v h
  unfold x_Book_mostOften_45 at h
  refine aw_iload_n (pc := 45) (q := 0) dX0_mostOften_45 rfl ?_
  cases h
  exact aw_iret (pc := 46) rfl dX0_mostOften_46
def x_Book_mostOften_39 (N : Nat) (k4 : Int → Int → aw_W → Option (Int × aw_W)) (x1 x2 : Int) (w : aw_W) : Option (Int × aw_W) :=
  k4 x1 (aw_w (x2 + 1)) w
theorem w_x_Book_mostOften_39 {l : Launch} {K : aw_K} (N d : Nat) (k4 : Int → Int → aw_W → Option (Int × aw_W)) (hk4 : ∀ (x1 x2 : Int) (w : aw_W) (y : Int) (v : aw_W), k4 x1 x2 w = some (y, v) → aw_AW l K MX0_mostOften (d) 4 [(0, .inr (.inr 41)), (1, .inl x1), (2, .inl x2)] [] w (some (.inl y), v)) : ∀ (x1 x2 : Int) (w : aw_W) (y : Int) (v : aw_W), x_Book_mostOften_39 N k4 x1 x2 w = some (y, v) → aw_AW l K MX0_mostOften (d) 39 [(0, .inr (.inr 41)), (1, .inl x1), (2, .inl x2)] [] w (some (.inl y), v) := by
  intro x1 x2 w y v h
  unfold x_Book_mostOften_39 at h
  refine aw_iinc (pc := 39) (q := 2) (ls' := [(2, .inl (aw_w (x2 + 1))), (0, .inr (.inr 41)), (1, .inl x1)]) dX0_mostOften_39 rfl (by decide) rfl ?_
  refine aw_goto (pc := 42) (tgt := 4) dX0_mostOften_42 (by decide) ?_
  exact aw_sel [1, 2, 0] rfl (hk4 _ _ _ _ _ h)
def x_Book_mostOften_34 (N : Nat) (k4 : Int → Int → aw_W → Option (Int × aw_W)) (x1 x2 s0 s1 : Int) (w : aw_W) : Option (Int × aw_W) :=
  if s1 ≤ s0 then
    x_Book_mostOften_39 N k4 x1 x2 w
  else
    x_Book_mostOften_39 N k4 x2 x2 w
theorem w_x_Book_mostOften_34 {l : Launch} {K : aw_K} (N d : Nat) (k4 : Int → Int → aw_W → Option (Int × aw_W)) (hk4 : ∀ (x1 x2 : Int) (w : aw_W) (y : Int) (v : aw_W), k4 x1 x2 w = some (y, v) → aw_AW l K MX0_mostOften (d) 4 [(0, .inr (.inr 41)), (1, .inl x1), (2, .inl x2)] [] w (some (.inl y), v)) : ∀ (x1 x2 s0 s1 : Int) (w : aw_W) (y : Int) (v : aw_W), x_Book_mostOften_34 N k4 x1 x2 s0 s1 w = some (y, v) → aw_AW l K MX0_mostOften (d) 34 [(0, .inr (.inr 41)), (1, .inl x1), (2, .inl x2)] [.inl s0, .inl s1] w (some (.inl y), v) := by
  intro x1 x2 s0 s1 w y v h
  unfold x_Book_mostOften_34 at h
  refine aw_icmp_le (pc := 34) (tgt := 39) dX0_mostOften_34 (by decide) (fun hc => ?_) (fun hc => ?_)
  · rw [if_pos hc] at h
    exact aw_sel [0, 1, 2] rfl (w_x_Book_mostOften_39 N d  _ hk4 _ _ _ _ _ h)
  · rw [if_neg hc] at h
    refine aw_iload_n (pc := 37) (q := 2) dX0_mostOften_37 rfl ?_
    refine aw_istore_n (pc := 38) (ls' := [(1, .inl x2), (0, .inr (.inr 41)), (2, .inl x2)]) dX0_mostOften_38 (by decide) rfl ?_
    exact aw_sel [1, 0, 2] rfl (w_x_Book_mostOften_39 N d  _ hk4 _ _ _ _ _ h)
def x_Book_mostOften_4 (N : Nat) : Nat → Int → Int → aw_W → Option (Int × aw_W)
  | 0, _, _, _ => none
  | n + 1, x1, x2, w =>
    if 60 ≤ x2 then
      x_Book_mostOften_45 N x1 w
    else
      if 0 ≤ x2 ∧ x2 < 60 then
        if x1 = (-1) then
          x_Book_mostOften_34 N (x_Book_mostOften_4 N n) x1 x2 0 (w 43 x2.toNat) w
        else
          if 0 ≤ x1 ∧ x1 < 60 then
            x_Book_mostOften_34 N (x_Book_mostOften_4 N n) x1 x2 (w 43 x1.toNat) (w 43 x2.toNat) w
          else none
      else none
theorem w_x_Book_mostOften_4 {l : Launch} {K : aw_K} (N d : Nat) : ∀ (n : Nat) (x1 x2 : Int) (w : aw_W) (y : Int) (v : aw_W), x_Book_mostOften_4 N n x1 x2 w = some (y, v) → aw_AW l K MX0_mostOften (d) 4 [(0, .inr (.inr 41)), (1, .inl x1), (2, .inl x2)] [] w (some (.inl y), v) := by
  intro n
  induction n with
  | zero => intro x1 x2 w y v h; rw [x_Book_mostOften_4] at h; cases h
  | succ n ih =>
    intro x1 x2 w y v h
    rw [x_Book_mostOften_4] at h
    refine aw_iload_n (pc := 4) (q := 2) dX0_mostOften_4 rfl ?_
    refine aw_aload_n (pc := 5) (q := 0) dX0_mostOften_5 rfl ?_
    refine aw_getf (pc := 6) (v := .inr (.inr 43)) dX0_mostOften_6 fl_RX0_15 (by decide) rfl rfl rfl ?_
    refine aw_alenv (pc := 9) (x := 60) dX0_mostOften_9 (by decide) rfl (by decide) rfl ⟨by decide, by decide⟩ ?_
    refine aw_icmp_ge (pc := 10) (tgt := 45) dX0_mostOften_10 (by decide) (fun hc => ?_) (fun hc => ?_)
    · rw [if_pos hc] at h
      exact aw_sel [1] rfl (w_x_Book_mostOften_45 N d  _ _ _ _ h)
    · rw [if_neg hc] at h
      refine aw_aload_n (pc := 13) (q := 0) dX0_mostOften_13 rfl ?_
      refine aw_getf (pc := 14) (v := .inr (.inr 43)) dX0_mostOften_14 fl_RX0_15 (by decide) rfl rfl rfl ?_
      refine aw_iload_n (pc := 17) (q := 2) dX0_mostOften_17 rfl ?_
      obtain ⟨hb, h⟩ := aw_cks h
      refine aw_ialdv (pc := 18) (v := w 43 x2.toNat) dX0_mostOften_18 rfl hb.1 hb.2 rfl ?_
      refine aw_iload_n (pc := 19) (q := 1) dX0_mostOften_19 rfl ?_
      refine aw_iconst (pc := 20) dX0_mostOften_20 ⟨by decide, by decide⟩ ?_
      refine aw_icmp_ne (pc := 21) (tgt := 28) dX0_mostOften_21 (by decide) (fun hc => ?_) (fun hc => ?_)
      · rw [if_neg hc] at h
        refine aw_aload_n (pc := 28) (q := 0) dX0_mostOften_28 rfl ?_
        refine aw_getf (pc := 29) (v := .inr (.inr 43)) dX0_mostOften_29 fl_RX0_15 (by decide) rfl rfl rfl ?_
        refine aw_iload_n (pc := 32) (q := 1) dX0_mostOften_32 rfl ?_
        obtain ⟨hb, h⟩ := aw_cks h
        refine aw_ialdv (pc := 33) (v := w 43 x1.toNat) dX0_mostOften_33 rfl hb.1 hb.2 rfl ?_
        exact aw_sel [0, 1, 2] rfl (w_x_Book_mostOften_34 N d  _ ih _ _ _ _ _ _ _ h)
      · rw [if_pos hc] at h
        refine aw_iconst (pc := 24) dX0_mostOften_24 ⟨by decide, by decide⟩ ?_
        refine aw_goto (pc := 25) (tgt := 34) dX0_mostOften_25 (by decide) ?_
        exact aw_sel [0, 1, 2] rfl (w_x_Book_mostOften_34 N d  _ ih _ _ _ _ _ _ _ h)
def x_Book_mostOften (N : Nat) (w : aw_W) : Option (Int × aw_W) :=
  x_Book_mostOften_4 N N (-1) 0 w
theorem w_x_Book_mostOften {l : Launch} {K : aw_K} (N d : Nat) (hd : 0 ≤ d) : ∀ (w : aw_W) (y : Int) (v : aw_W), x_Book_mostOften N w = some (y, v) → aw_Met l K MX0_mostOften (d) [.inr (.inr 41)] w (some (.inl y), v) := by
  intro w y v h
  unfold x_Book_mostOften at h
  refine aw_enter rfl (Nat.le_of_ble_eq_true rfl) ?_
  show aw_AW l K MX0_mostOften (d) 0 [(0, .inr (.inr 41))] [] w (some (.inl y), v)
  refine aw_iconst (pc := 0) dX0_mostOften_0 ⟨by decide, by decide⟩ ?_
  refine aw_istore_n (pc := 1) (ls' := [(1, .inl (-1)), (0, .inr (.inr 41))]) dX0_mostOften_1 (by decide) rfl ?_
  refine aw_iconst (pc := 2) dX0_mostOften_2 ⟨by decide, by decide⟩ ?_
  refine aw_istore_n (pc := 3) (ls' := [(2, .inl 0), (1, .inl (-1)), (0, .inr (.inr 41))]) dX0_mostOften_3 (by decide) rfl ?_
  exact aw_sel [2, 1, 0] rfl (w_x_Book_mostOften_4 N d  N _ _ _ _ _ h)
theorem dX11_pair_0 : decode cX11_pair 0 = .ok (.aload_n 0, 1) := by decide +kernel
theorem dX11_pair_1 : decode cX11_pair 1 = .ok (.getfield 84, 3) := by decide +kernel
theorem dX11_pair_4 : decode cX11_pair 4 = .ok (.invokevirtual 288, 3) := by decide +kernel
theorem dX11_pair_7 : decode cX11_pair 7 = .ok (.aload_n 0, 1) := by decide +kernel
theorem dX11_pair_8 : decode cX11_pair 8 = .ok (.getfield 84, 3) := by decide +kernel
theorem dX11_pair_11 : decode cX11_pair 11 = .ok (.invokevirtual 294, 3) := by decide +kernel
theorem dX11_pair_14 : decode cX11_pair 14 = .ok (.ireturn, 1) := by decide +kernel
def x_pair (N : Nat) (w : aw_W) : Option (Int × aw_W) :=
  aw_b1 (x_Book_countPairs N w) fun w1 =>
    aw_b2 (x_Book_mostOften N w1) fun r2 w2 =>
      some (r2, w2)
theorem w_x_pair_d {l : Launch} {K : aw_K} (N d : Nat) (hd : 3 ≤ d) : ∀ (w : aw_W) (y : Int) (v : aw_W), x_pair N w = some (y, v) → aw_Met l K MX11_pair (d + 1) [.inr (.inr 0)] w (some (.inl y), v) := by
  intro w y v h
  unfold x_pair at h
  refine aw_enter rfl (Nat.le_of_ble_eq_true rfl) ?_
  show aw_AW l K MX11_pair (d + 1) 0 [(0, .inr (.inr 0))] [] w (some (.inl y), v)
  refine aw_aload_n (pc := 0) (q := 0) dX11_pair_0 rfl ?_
  refine aw_getf (pc := 1) (v := .inr (.inr 41)) dX11_pair_1 fl_RX11_84 (by decide) rfl rfl rfl ?_
  obtain ⟨w1, h1, h⟩ := aw_b1s h
  refine aw_callV (pc := 4) (as := []) (st := []) (st' := []) dX11_pair_4 cv_RX11_288 (by decide) rfl rfl rfl rfl (Nat.le_of_ble_eq_true rfl) (w_x_Book_countPairs N d (by omega) _ _ h1) rfl ?_
  refine aw_aload_n (pc := 7) (q := 0) dX11_pair_7 rfl ?_
  refine aw_getf (pc := 8) (v := .inr (.inr 41)) dX11_pair_8 fl_RX11_84 (by decide) rfl rfl rfl ?_
  obtain ⟨r2, w2, h2, h⟩ := aw_b2s h
  refine aw_callV (pc := 11) (as := []) (st := []) (st' := [.inl r2]) dX11_pair_11 cv_RX11_294 (by decide) rfl rfl rfl rfl (Nat.le_of_ble_eq_true rfl) (w_x_Book_mostOften N d (by omega) _ _ _ h2) rfl ?_
  cases h
  exact aw_iret (pc := 14) rfl dX11_pair_14
theorem w_x_pair {l : Launch} {K : aw_K} (N d : Nat) (hd : 4 ≤ d) : ∀ (w : aw_W) (y : Int) (v : aw_W), x_pair N w = some (y, v) → aw_Met l K MX11_pair (d) [.inr (.inr 0)] w (some (.inl y), v) := by
  obtain ⟨e, rfl⟩ : ∃ e, d = e + 1 := ⟨d - 1, by omega⟩
  exact w_x_pair_d N e (by omega)
theorem dX11_race_0 : decode cX11_race 0 = .ok (.aload_n 0, 1) := by decide +kernel
theorem dX11_race_1 : decode cX11_race 1 = .ok (.getfield 19, 3) := by decide +kernel
theorem dX11_race_4 : decode cX11_race 4 = .ok (.getfield 136, 3) := by decide +kernel
theorem dX11_race_7 : decode cX11_race 7 = .ok (.ifCond .eq 20, 3) := by decide +kernel
theorem dX11_race_10 : decode cX11_race 10 = .ok (.iload_n 1, 1) := by decide +kernel
theorem dX11_race_11 : decode cX11_race 11 = .ok (.iload_n 2, 1) := by decide +kernel
theorem dX11_race_12 : decode cX11_race 12 = .ok (.invokestatic 161, 3) := by decide +kernel
theorem dX11_race_15 : decode cX11_race 15 = .ok (.ifCond .eq 12, 3) := by decide +kernel
theorem dX11_race_18 : decode cX11_race 18 = .ok (.iload_n 3, 1) := by decide +kernel
theorem dX11_race_19 : decode cX11_race 19 = .ok (.ifCond .lt 8, 3) := by decide +kernel
theorem dX11_race_22 : decode cX11_race 22 = .ok (.iload_n 3, 1) := by decide +kernel
theorem dX11_race_23 : decode cX11_race 23 = .ok (.iconst 2, 1) := by decide +kernel
theorem dX11_race_24 : decode cX11_race 24 = .ok (.if_icmp .le 6, 3) := by decide +kernel
theorem dX11_race_27 : decode cX11_race 27 = .ok (.ldc 165, 2) := by decide +kernel
theorem dX11_race_29 : decode cX11_race 29 = .ok (.ireturn, 1) := by decide +kernel
theorem dX11_race_30 : decode cX11_race 30 = .ok (.aload_n 0, 1) := by decide +kernel
theorem dX11_race_31 : decode cX11_race 31 = .ok (.getfield 63, 3) := by decide +kernel
theorem dX11_race_34 : decode cX11_race 34 = .ok (.invokevirtual 166, 3) := by decide +kernel
theorem dX11_race_37 : decode cX11_race 37 = .ok (.aload_n 0, 1) := by decide +kernel
theorem dX11_race_38 : decode cX11_race 38 = .ok (.getfield 63, 3) := by decide +kernel
theorem dX11_race_41 : decode cX11_race 41 = .ok (.iload_n 1, 1) := by decide +kernel
theorem dX11_race_42 : decode cX11_race 42 = .ok (.iload_n 2, 1) := by decide +kernel
theorem dX11_race_43 : decode cX11_race 43 = .ok (.iload_n 2, 1) := by decide +kernel
theorem dX11_race_44 : decode cX11_race 44 = .ok (.invokevirtual 169, 3) := by decide +kernel
theorem dX11_race_47 : decode cX11_race 47 = .ok (.iload_n 3, 1) := by decide +kernel
theorem dX11_race_48 : decode cX11_race 48 = .ok (.ifCond .ne 11, 3) := by decide +kernel
theorem dX11_race_51 : decode cX11_race 51 = .ok (.aload_n 0, 1) := by decide +kernel
theorem dX11_race_52 : decode cX11_race 52 = .ok (.getfield 63, 3) := by decide +kernel
theorem dX11_race_55 : decode cX11_race 55 = .ok (.invokevirtual 173, 3) := by decide +kernel
theorem dX11_race_58 : decode cX11_race 58 = .ok (.ireturn, 1) := by decide +kernel
theorem dX11_race_59 : decode cX11_race 59 = .ok (.iload_n 3, 1) := by decide +kernel
theorem dX11_race_60 : decode cX11_race 60 = .ok (.iconst 1, 1) := by decide +kernel
theorem dX11_race_61 : decode cX11_race 61 = .ok (.if_icmp .ne 13, 3) := by decide +kernel
theorem dX11_race_64 : decode cX11_race 64 = .ok (.aload_n 0, 1) := by decide +kernel
theorem dX11_race_65 : decode cX11_race 65 = .ok (.getfield 63, 3) := by decide +kernel
theorem dX11_race_68 : decode cX11_race 68 = .ok (.getfield 176, 3) := by decide +kernel
theorem dX11_race_71 : decode cX11_race 71 = .ok (.goto 10, 3) := by decide +kernel
theorem dX11_race_74 : decode cX11_race 74 = .ok (.aload_n 0, 1) := by decide +kernel
theorem dX11_race_75 : decode cX11_race 75 = .ok (.getfield 63, 3) := by decide +kernel
theorem dX11_race_78 : decode cX11_race 78 = .ok (.getfield 179, 3) := by decide +kernel
theorem dX11_race_81 : decode cX11_race 81 = .ok (.ireturn, 1) := by decide +kernel
def x_race_27 (N : Nat) (w : aw_W) : Option (Int × aw_W) :=
  some ((-1000000), w)
theorem w_x_race_27 {l : Launch} {K : aw_K} (N d : Nat) (hd : 4 ≤ d) : ∀ (w : aw_W) (y : Int) (v : aw_W), x_race_27 N w = some (y, v) → aw_AW l K MX11_race (d + 1) 27 [] [] w (some (.inl y), v) := by
  intro w y v h
  unfold x_race_27 at h
  refine aw_ldc (pc := 27) (x := (-1000000)) dX11_race_27 cn_RX11_165 ⟨by decide, by decide⟩ ?_
  cases h
  exact aw_iret (pc := 29) rfl dX11_race_29
def x_race_81 (N : Nat) (s0 : Int) (w : aw_W) : Option (Int × aw_W) :=
  some (s0, w)
theorem w_x_race_81 {l : Launch} {K : aw_K} (N d : Nat) (hd : 4 ≤ d) : ∀ (s0 : Int) (w : aw_W) (y : Int) (v : aw_W), x_race_81 N s0 w = some (y, v) → aw_AW l K MX11_race (d + 1) 81 [] [.inl s0] w (some (.inl y), v) := by
  intro s0 w y v h
  unfold x_race_81 at h
  cases h
  exact aw_iret (pc := 81) rfl dX11_race_81
def x_race (N : Nat) (x1 x2 x3 : Int) (w : aw_W) : Option (Int × aw_W) :=
  if (w 3 4) = 0 then
    x_race_27 N w
  else
    aw_b2 (x_mayRun N x1 x2 w) fun r1 w1 =>
      if r1 = 0 then
        x_race_27 N w1
      else
        if x3 < 0 then
          x_race_27 N w1
        else
          if x3 ≤ 2 then
            aw_b1 (x_Race_rulesAsTold N w1) fun w2 =>
              aw_b1 (x_Race_go N x1 x2 x2 w2) fun w3 =>
                if x3 = 0 then
                  aw_b2 (x_Race_holder N w3) fun r4 w4 =>
                    some (r4, w4)
                else
                  if x3 = 1 then
                    x_race_81 N (w3 26 7) w3
                  else
                    x_race_81 N (w3 26 8) w3
          else
            x_race_27 N w1
theorem w_x_race_d {l : Launch} {K : aw_K} (N d : Nat) (hd : 4 ≤ d) : ∀ (x1 x2 x3 : Int) (w : aw_W) (y : Int) (v : aw_W), x_race N x1 x2 x3 w = some (y, v) → aw_Met l K MX11_race (d + 1) [.inr (.inr 0), .inl x1, .inl x2, .inl x3] w (some (.inl y), v) := by
  intro x1 x2 x3 w y v h
  unfold x_race at h
  refine aw_enter rfl (Nat.le_of_ble_eq_true rfl) ?_
  show aw_AW l K MX11_race (d + 1) 0 [(0, .inr (.inr 0)), (1, .inl x1), (2, .inl x2), (3, .inl x3)] [] w (some (.inl y), v)
  refine aw_aload_n (pc := 0) (q := 0) dX11_race_0 rfl ?_
  refine aw_getf (pc := 1) (v := .inr (.inr 3)) dX11_race_1 fl_RX11_19 (by decide) rfl rfl rfl ?_
  refine aw_getf (pc := 4) (v := .inl (w 3 4)) dX11_race_4 fl_RX11_136 (by decide) rfl rfl rfl ?_
  refine aw_if_eq (pc := 7) (tgt := 27) dX11_race_7 (by decide) (fun hc => ?_) (fun hc => ?_)
  · rw [if_pos hc] at h
    exact aw_sel [] rfl (w_x_race_27 N d hd  _ _ _ h)
  · rw [if_neg hc] at h
    refine aw_iload_n (pc := 10) (q := 1) dX11_race_10 rfl ?_
    refine aw_iload_n (pc := 11) (q := 2) dX11_race_11 rfl ?_
    obtain ⟨r1, w1, h1, h⟩ := aw_b2s h
    refine aw_callS (pc := 12) (as := [.inl x1, .inl x2]) (st := []) (st' := [.inl r1]) dX11_race_12 cs_RX11_161 rfl rfl (Nat.le_of_ble_eq_true rfl) (w_x_mayRun N d (by omega) _ _ _ _ _ h1) rfl ?_
    refine aw_if_eq (pc := 15) (tgt := 27) dX11_race_15 (by decide) (fun hc => ?_) (fun hc => ?_)
    · rw [if_pos hc] at h
      exact aw_sel [] rfl (w_x_race_27 N d hd  _ _ _ h)
    · rw [if_neg hc] at h
      refine aw_iload_n (pc := 18) (q := 3) dX11_race_18 rfl ?_
      refine aw_if_lt (pc := 19) (tgt := 27) dX11_race_19 (by decide) (fun hc => ?_) (fun hc => ?_)
      · rw [if_pos hc] at h
        exact aw_sel [] rfl (w_x_race_27 N d hd  _ _ _ h)
      · rw [if_neg hc] at h
        refine aw_iload_n (pc := 22) (q := 3) dX11_race_22 rfl ?_
        refine aw_iconst (pc := 23) dX11_race_23 ⟨by decide, by decide⟩ ?_
        refine aw_icmp_le (pc := 24) (tgt := 30) dX11_race_24 (by decide) (fun hc => ?_) (fun hc => ?_)
        · rw [if_pos hc] at h
          refine aw_aload_n (pc := 30) (q := 0) dX11_race_30 rfl ?_
          refine aw_getf (pc := 31) (v := .inr (.inr 26)) dX11_race_31 fl_RX11_63 (by decide) rfl rfl rfl ?_
          obtain ⟨w2, h2, h⟩ := aw_b1s h
          refine aw_callV (pc := 34) (as := []) (st := []) (st' := []) dX11_race_34 cv_RX11_166 (by decide) rfl rfl rfl rfl (Nat.le_of_ble_eq_true rfl) (w_x_Race_rulesAsTold N d (by omega) _ _ h2) rfl ?_
          refine aw_aload_n (pc := 37) (q := 0) dX11_race_37 rfl ?_
          refine aw_getf (pc := 38) (v := .inr (.inr 26)) dX11_race_38 fl_RX11_63 (by decide) rfl rfl rfl ?_
          refine aw_iload_n (pc := 41) (q := 1) dX11_race_41 rfl ?_
          refine aw_iload_n (pc := 42) (q := 2) dX11_race_42 rfl ?_
          refine aw_iload_n (pc := 43) (q := 2) dX11_race_43 rfl ?_
          obtain ⟨w3, h3, h⟩ := aw_b1s h
          refine aw_callV (pc := 44) (as := [.inl x1, .inl x2, .inl x2]) (st := []) (st' := []) dX11_race_44 cv_RX11_169 (by decide) rfl rfl rfl rfl (Nat.le_of_ble_eq_true rfl) (w_x_Race_go N d (by omega) _ _ _ _ _ h3) rfl ?_
          refine aw_iload_n (pc := 47) (q := 3) dX11_race_47 rfl ?_
          refine aw_if_ne (pc := 48) (tgt := 59) dX11_race_48 (by decide) (fun hc => ?_) (fun hc => ?_)
          · rw [if_neg hc] at h
            refine aw_iload_n (pc := 59) (q := 3) dX11_race_59 rfl ?_
            refine aw_iconst (pc := 60) dX11_race_60 ⟨by decide, by decide⟩ ?_
            refine aw_icmp_ne (pc := 61) (tgt := 74) dX11_race_61 (by decide) (fun hc => ?_) (fun hc => ?_)
            · rw [if_neg hc] at h
              refine aw_aload_n (pc := 74) (q := 0) dX11_race_74 rfl ?_
              refine aw_getf (pc := 75) (v := .inr (.inr 26)) dX11_race_75 fl_RX11_63 (by decide) rfl rfl rfl ?_
              refine aw_getf (pc := 78) (v := .inl (w3 26 8)) dX11_race_78 fl_RX11_179 (by decide) rfl rfl rfl ?_
              exact aw_sel [] rfl (w_x_race_81 N d hd  _ _ _ _ h)
            · rw [if_pos hc] at h
              refine aw_aload_n (pc := 64) (q := 0) dX11_race_64 rfl ?_
              refine aw_getf (pc := 65) (v := .inr (.inr 26)) dX11_race_65 fl_RX11_63 (by decide) rfl rfl rfl ?_
              refine aw_getf (pc := 68) (v := .inl (w3 26 7)) dX11_race_68 fl_RX11_176 (by decide) rfl rfl rfl ?_
              refine aw_goto (pc := 71) (tgt := 81) dX11_race_71 (by decide) ?_
              exact aw_sel [] rfl (w_x_race_81 N d hd  _ _ _ _ h)
          · rw [if_pos hc] at h
            refine aw_aload_n (pc := 51) (q := 0) dX11_race_51 rfl ?_
            refine aw_getf (pc := 52) (v := .inr (.inr 26)) dX11_race_52 fl_RX11_63 (by decide) rfl rfl rfl ?_
            obtain ⟨r4, w4, h4, h⟩ := aw_b2s h
            refine aw_callV (pc := 55) (as := []) (st := []) (st' := [.inl r4]) dX11_race_55 cv_RX11_173 (by decide) rfl rfl rfl rfl (Nat.le_of_ble_eq_true rfl) (w_x_Race_holder N d (by omega) _ _ _ h4) rfl ?_
            cases h
            exact aw_iret (pc := 58) rfl dX11_race_58
        · rw [if_neg hc] at h
          exact aw_sel [] rfl (w_x_race_27 N d hd  _ _ _ h)
theorem w_x_race {l : Launch} {K : aw_K} (N d : Nat) (hd : 5 ≤ d) : ∀ (x1 x2 x3 : Int) (w : aw_W) (y : Int) (v : aw_W), x_race N x1 x2 x3 w = some (y, v) → aw_Met l K MX11_race (d) [.inr (.inr 0), .inl x1, .inl x2, .inl x3] w (some (.inl y), v) := by
  obtain ⟨e, rfl⟩ : ∃ e, d = e + 1 := ⟨d - 1, by omega⟩
  exact w_x_race_d N e (by omega)
theorem dX8_row_0 : decode cX8_row 0 = .ok (.iconst 0, 1) := by decide +kernel
theorem dX8_row_1 : decode cX8_row 1 = .ok (.istore_n 1, 1) := by decide +kernel
theorem dX8_row_2 : decode cX8_row 2 = .ok (.iconst 0, 1) := by decide +kernel
theorem dX8_row_3 : decode cX8_row 3 = .ok (.istore_n 2, 1) := by decide +kernel
theorem dX8_row_4 : decode cX8_row 4 = .ok (.iload_n 2, 1) := by decide +kernel
theorem dX8_row_5 : decode cX8_row 5 = .ok (.aload_n 0, 1) := by decide +kernel
theorem dX8_row_6 : decode cX8_row 6 = .ok (.getfield 22, 3) := by decide +kernel
theorem dX8_row_9 : decode cX8_row 9 = .ok (.getfield 26, 3) := by decide +kernel
theorem dX8_row_12 : decode cX8_row 12 = .ok (.if_icmp .ge 21, 3) := by decide +kernel
theorem dX8_row_15 : decode cX8_row 15 = .ok (.iload_n 1, 1) := by decide +kernel
theorem dX8_row_16 : decode cX8_row 16 = .ok (.bipush 10, 2) := by decide +kernel
theorem dX8_row_18 : decode cX8_row 18 = .ok (.imul, 1) := by decide +kernel
theorem dX8_row_19 : decode cX8_row 19 = .ok (.aload_n 0, 1) := by decide +kernel
theorem dX8_row_20 : decode cX8_row 20 = .ok (.getfield 18, 3) := by decide +kernel
theorem dX8_row_23 : decode cX8_row 23 = .ok (.iload_n 2, 1) := by decide +kernel
theorem dX8_row_24 : decode cX8_row 24 = .ok (.iaload, 1) := by decide +kernel
theorem dX8_row_25 : decode cX8_row 25 = .ok (.iadd, 1) := by decide +kernel
theorem dX8_row_26 : decode cX8_row 26 = .ok (.istore_n 1, 1) := by decide +kernel
theorem dX8_row_27 : decode cX8_row 27 = .ok (.iinc 2 1, 3) := by decide +kernel
theorem dX8_row_30 : decode cX8_row 30 = .ok (.goto (-26), 3) := by decide +kernel
theorem dX8_row_33 : decode cX8_row 33 = .ok (.iload_n 1, 1) := by decide +kernel
theorem dX8_row_34 : decode cX8_row 34 = .ok (.ireturn, 1) := by decide +kernel
def x_Sale_row_33 (N : Nat) (x1 : Int) (w : aw_W) : Option (Int × aw_W) :=
  some (x1, w)
theorem w_x_Sale_row_33 {l : Launch} {K : aw_K} (N d : Nat) : ∀ (x1 : Int) (w : aw_W) (y : Int) (v : aw_W), x_Sale_row_33 N x1 w = some (y, v) → aw_AW l K MX8_row (d) 33 [(1, .inl x1)] [] w (some (.inl y), v) := by
  intro x1 w y v h
  unfold x_Sale_row_33 at h
  refine aw_iload_n (pc := 33) (q := 0) dX8_row_33 rfl ?_
  cases h
  exact aw_iret (pc := 34) rfl dX8_row_34
def x_Sale_row_4 (N : Nat) : Nat → Int → Int → aw_W → Option (Int × aw_W)
  | 0, _, _, _ => none
  | n + 1, x1, x2, w =>
    if (w 3 4) ≤ x2 then
      x_Sale_row_33 N x1 w
    else
      if 0 ≤ x2 ∧ x2 < 6 then
        x_Sale_row_4 N n (aw_w ((aw_w (x1 * 10)) + (w 21 x2.toNat))) (aw_w (x2 + 1)) w
      else none
theorem w_x_Sale_row_4 {l : Launch} {K : aw_K} (N d : Nat) : ∀ (n : Nat) (x1 x2 : Int) (w : aw_W) (y : Int) (v : aw_W), x_Sale_row_4 N n x1 x2 w = some (y, v) → aw_AW l K MX8_row (d) 4 [(0, .inr (.inr 17)), (1, .inl x1), (2, .inl x2)] [] w (some (.inl y), v) := by
  intro n
  induction n with
  | zero => intro x1 x2 w y v h; rw [x_Sale_row_4] at h; cases h
  | succ n ih =>
    intro x1 x2 w y v h
    rw [x_Sale_row_4] at h
    refine aw_iload_n (pc := 4) (q := 2) dX8_row_4 rfl ?_
    refine aw_aload_n (pc := 5) (q := 0) dX8_row_5 rfl ?_
    refine aw_getf (pc := 6) (v := .inr (.inr 3)) dX8_row_6 fl_RX8_22 (by decide) rfl rfl rfl ?_
    refine aw_getf (pc := 9) (v := .inl (w 3 4)) dX8_row_9 fl_RX8_26 (by decide) rfl rfl rfl ?_
    refine aw_icmp_ge (pc := 12) (tgt := 33) dX8_row_12 (by decide) (fun hc => ?_) (fun hc => ?_)
    · rw [if_pos hc] at h
      exact aw_sel [1] rfl (w_x_Sale_row_33 N d  _ _ _ _ h)
    · rw [if_neg hc] at h
      refine aw_iload_n (pc := 15) (q := 1) dX8_row_15 rfl ?_
      refine aw_bipush (pc := 16) dX8_row_16 (by decide) ⟨by decide, by decide⟩ ?_
      refine aw_imul (pc := 18) dX8_row_18 ?_
      refine aw_aload_n (pc := 19) (q := 0) dX8_row_19 rfl ?_
      refine aw_getf (pc := 20) (v := .inr (.inr 21)) dX8_row_20 fl_RX8_18 (by decide) rfl rfl rfl ?_
      refine aw_iload_n (pc := 23) (q := 2) dX8_row_23 rfl ?_
      obtain ⟨hb, h⟩ := aw_cks h
      refine aw_ialdv (pc := 24) (v := w 21 x2.toNat) dX8_row_24 rfl hb.1 hb.2 rfl ?_
      refine aw_iadd (pc := 25) dX8_row_25 ?_
      refine aw_istore_n (pc := 26) (ls' := [(1, .inl (aw_w ((aw_w (x1 * 10)) + (w 21 x2.toNat)))), (0, .inr (.inr 17)), (2, .inl x2)]) dX8_row_26 (by decide) rfl ?_
      refine aw_iinc (pc := 27) (q := 2) (ls' := [(2, .inl (aw_w (x2 + 1))), (1, .inl (aw_w ((aw_w (x1 * 10)) + (w 21 x2.toNat)))), (0, .inr (.inr 17))]) dX8_row_27 rfl (by decide) rfl ?_
      refine aw_goto (pc := 30) (tgt := 4) dX8_row_30 (by decide) ?_
      exact aw_sel [2, 1, 0] rfl (ih _ _ _ _ _ h)
def x_Sale_row (N : Nat) (w : aw_W) : Option (Int × aw_W) :=
  x_Sale_row_4 N N 0 0 w
theorem w_x_Sale_row {l : Launch} {K : aw_K} (N d : Nat) (hd : 0 ≤ d) : ∀ (w : aw_W) (y : Int) (v : aw_W), x_Sale_row N w = some (y, v) → aw_Met l K MX8_row (d) [.inr (.inr 17)] w (some (.inl y), v) := by
  intro w y v h
  unfold x_Sale_row at h
  refine aw_enter rfl (Nat.le_of_ble_eq_true rfl) ?_
  show aw_AW l K MX8_row (d) 0 [(0, .inr (.inr 17))] [] w (some (.inl y), v)
  refine aw_iconst (pc := 0) dX8_row_0 ⟨by decide, by decide⟩ ?_
  refine aw_istore_n (pc := 1) (ls' := [(1, .inl 0), (0, .inr (.inr 17))]) dX8_row_1 (by decide) rfl ?_
  refine aw_iconst (pc := 2) dX8_row_2 ⟨by decide, by decide⟩ ?_
  refine aw_istore_n (pc := 3) (ls' := [(2, .inl 0), (1, .inl 0), (0, .inr (.inr 17))]) dX8_row_3 (by decide) rfl ?_
  exact aw_sel [2, 1, 0] rfl (w_x_Sale_row_4 N d  N _ _ _ _ _ h)
