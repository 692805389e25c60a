theorem dX11_cure_0 : decode cX11_cure 0 = .ok (.iload_n 2, 1) := by decide +kernel
theorem dX11_cure_1 : decode cX11_cure 1 = .ok (.ifCond .lt 19, 3) := by decide +kernel
theorem dX11_cure_4 : decode cX11_cure 4 = .ok (.iload_n 2, 1) := by decide +kernel
theorem dX11_cure_5 : decode cX11_cure 5 = .ok (.iconst 2, 1) := by decide +kernel
theorem dX11_cure_6 : decode cX11_cure 6 = .ok (.if_icmp .gt 14, 3) := by decide +kernel
theorem dX11_cure_9 : decode cX11_cure 9 = .ok (.aload_n 0, 1) := by decide +kernel
theorem dX11_cure_10 : decode cX11_cure 10 = .ok (.getfield 38, 3) := by decide +kernel
theorem dX11_cure_13 : decode cX11_cure 13 = .ok (.iload_n 1, 1) := by decide +kernel
theorem dX11_cure_14 : decode cX11_cure 14 = .ok (.invokevirtual 188, 3) := by decide +kernel
theorem dX11_cure_17 : decode cX11_cure 17 = .ok (.ifCond .ne 6, 3) := by decide +kernel
theorem dX11_cure_20 : decode cX11_cure 20 = .ok (.ldc 165, 2) := by decide +kernel
theorem dX11_cure_22 : decode cX11_cure 22 = .ok (.ireturn, 1) := by decide +kernel
theorem dX11_cure_23 : decode cX11_cure 23 = .ok (.aload_n 0, 1) := by decide +kernel
theorem dX11_cure_24 : decode cX11_cure 24 = .ok (.getfield 47, 3) := by decide +kernel
theorem dX11_cure_27 : decode cX11_cure 27 = .ok (.aload_n 0, 1) := by decide +kernel
theorem dX11_cure_28 : decode cX11_cure 28 = .ok (.getfield 19, 3) := by decide +kernel
theorem dX11_cure_31 : decode cX11_cure 31 = .ok (.invokevirtual 227, 3) := by decide +kernel
theorem dX11_cure_34 : decode cX11_cure 34 = .ok (.invokevirtual 230, 3) := by decide +kernel
theorem dX11_cure_37 : decode cX11_cure 37 = .ok (.iload_n 2, 1) := by decide +kernel
theorem dX11_cure_38 : decode cX11_cure 38 = .ok (.ifCond .ne 11, 3) := by decide +kernel
theorem dX11_cure_41 : decode cX11_cure 41 = .ok (.aload_n 0, 1) := by decide +kernel
theorem dX11_cure_42 : decode cX11_cure 42 = .ok (.getfield 47, 3) := by decide +kernel
theorem dX11_cure_45 : decode cX11_cure 45 = .ok (.getfield 233, 3) := by decide +kernel
theorem dX11_cure_48 : decode cX11_cure 48 = .ok (.ireturn, 1) := by decide +kernel
theorem dX11_cure_49 : decode cX11_cure 49 = .ok (.iload_n 2, 1) := by decide +kernel
theorem dX11_cure_50 : decode cX11_cure 50 = .ok (.iconst 1, 1) := by decide +kernel
theorem dX11_cure_51 : decode cX11_cure 51 = .ok (.if_icmp .ne 13, 3) := by decide +kernel
theorem dX11_cure_54 : decode cX11_cure 54 = .ok (.aload_n 0, 1) := by decide +kernel
theorem dX11_cure_55 : decode cX11_cure 55 = .ok (.getfield 47, 3) := by decide +kernel
theorem dX11_cure_58 : decode cX11_cure 58 = .ok (.getfield 236, 3) := by decide +kernel
theorem dX11_cure_61 : decode cX11_cure 61 = .ok (.goto 10, 3) := by decide +kernel
theorem dX11_cure_64 : decode cX11_cure 64 = .ok (.aload_n 0, 1) := by decide +kernel
theorem dX11_cure_65 : decode cX11_cure 65 = .ok (.getfield 47, 3) := by decide +kernel
theorem dX11_cure_68 : decode cX11_cure 68 = .ok (.getfield 239, 3) := by decide +kernel
theorem dX11_cure_71 : decode cX11_cure 71 = .ok (.ireturn, 1) := by decide +kernel
def x_cure_20 (N : Nat) (w : aw_W) : Option (Int × aw_W) :=
  some ((-1000000), w)
theorem w_x_cure_20 {l : Launch} {K : aw_K} (N d : Nat) (hd : 4 ≤ d) : ∀ (w : aw_W) (y : Int) (v : aw_W), x_cure_20 N w = some (y, v) → aw_AW l K MX11_cure (d + 1) 20 [] [] w (some (.inl y), v) := by
  intro w y v h
  unfold x_cure_20 at h
  refine aw_ldc (pc := 20) (x := (-1000000)) dX11_cure_20 cn_RX11_165 ⟨by decide, by decide⟩ ?_
  cases h
  exact aw_iret (pc := 22) rfl dX11_cure_22
def x_cure_71 (N : Nat) (s0 : Int) (w : aw_W) : Option (Int × aw_W) :=
  some (s0, w)
theorem w_x_cure_71 {l : Launch} {K : aw_K} (N d : Nat) (hd : 4 ≤ d) : ∀ (s0 : Int) (w : aw_W) (y : Int) (v : aw_W), x_cure_71 N s0 w = some (y, v) → aw_AW l K MX11_cure (d + 1) 71 [] [.inl s0] w (some (.inl y), v) := by
  intro s0 w y v h
  unfold x_cure_71 at h
  cases h
  exact aw_iret (pc := 71) rfl dX11_cure_71
def x_cure (N : Nat) (x1 x2 : Int) (w : aw_W) : Option (Int × aw_W) :=
  if x2 < 0 then
    x_cure_20 N w
  else
    if 2 < x2 then
      x_cure_20 N w
    else
      aw_b2 (x_Sale_take N x1 w) fun r1 w1 =>
        if r1 = 0 then
          x_cure_20 N w1
        else
          aw_b2 (x_Land_all N w1) fun r2 w2 =>
            aw_b1 (x_Replies_better N r2 w2) fun w3 =>
              if x2 = 0 then
                some (w3 22 2, w3)
              else
                if x2 = 1 then
                  x_cure_71 N (w3 22 3) w3
                else
                  x_cure_71 N (w3 22 4) w3
theorem w_x_cure_d {l : Launch} {K : aw_K} (N d : Nat) (hd : 4 ≤ d) : ∀ (x1 x2 : Int) (w : aw_W) (y : Int) (v : aw_W), x_cure N x1 x2 w = some (y, v) → aw_Met l K MX11_cure (d + 1) [.inr (.inr 0), .inl x1, .inl x2] w (some (.inl y), v) := by
  intro x1 x2 w y v h
  unfold x_cure at h
  refine aw_enter rfl (Nat.le_of_ble_eq_true rfl) ?_
  show aw_AW l K MX11_cure (d + 1) 0 [(0, .inr (.inr 0)), (1, .inl x1), (2, .inl x2)] [] w (some (.inl y), v)
  refine aw_iload_n (pc := 0) (q := 2) dX11_cure_0 rfl ?_
  refine aw_if_lt (pc := 1) (tgt := 20) dX11_cure_1 (by decide) (fun hc => ?_) (fun hc => ?_)
  · rw [if_pos hc] at h
    exact aw_sel [] rfl (w_x_cure_20 N d hd  _ _ _ h)
  · rw [if_neg hc] at h
    refine aw_iload_n (pc := 4) (q := 2) dX11_cure_4 rfl ?_
    refine aw_iconst (pc := 5) dX11_cure_5 ⟨by decide, by decide⟩ ?_
    refine aw_icmp_gt (pc := 6) (tgt := 20) dX11_cure_6 (by decide) (fun hc => ?_) (fun hc => ?_)
    · rw [if_pos hc] at h
      exact aw_sel [] rfl (w_x_cure_20 N d hd  _ _ _ h)
    · rw [if_neg hc] at h
      refine aw_aload_n (pc := 9) (q := 0) dX11_cure_9 rfl ?_
      refine aw_getf (pc := 10) (v := .inr (.inr 17)) dX11_cure_10 fl_RX11_38 (by decide) rfl rfl rfl ?_
      refine aw_iload_n (pc := 13) (q := 1) dX11_cure_13 rfl ?_
      obtain ⟨r1, w1, h1, h⟩ := aw_b2s h
      refine aw_callV (pc := 14) (as := [.inl x1]) (st := []) (st' := [.inl r1]) dX11_cure_14 cv_RX11_188 (by decide) rfl rfl rfl rfl (Nat.le_of_ble_eq_true rfl) (w_x_Sale_take N d (by omega) _ _ _ _ h1) rfl ?_
      refine aw_if_ne (pc := 17) (tgt := 23) dX11_cure_17 (by decide) (fun hc => ?_) (fun hc => ?_)
      · rw [if_neg hc] at h
        refine aw_aload_n (pc := 23) (q := 0) dX11_cure_23 rfl ?_
        refine aw_getf (pc := 24) (v := .inr (.inr 22)) dX11_cure_24 fl_RX11_47 (by decide) rfl rfl rfl ?_
        refine aw_aload_n (pc := 27) (q := 0) dX11_cure_27 rfl ?_
        refine aw_getf (pc := 28) (v := .inr (.inr 3)) dX11_cure_28 fl_RX11_19 (by decide) rfl rfl rfl ?_
        obtain ⟨r2, w2, h2, h⟩ := aw_b2s h
        refine aw_callV (pc := 31) (as := []) (st := [.inr (.inr 22)]) (st' := [.inl r2, .inr (.inr 22)]) dX11_cure_31 cv_RX11_227 (by decide) rfl rfl rfl rfl (Nat.le_of_ble_eq_true rfl) (w_x_Land_all N d (by omega) _ _ _ h2) rfl ?_
        obtain ⟨w3, h3, h⟩ := aw_b1s h
        refine aw_callV (pc := 34) (as := [.inl r2]) (st := []) (st' := []) dX11_cure_34 cv_RX11_230 (by decide) rfl rfl rfl rfl (Nat.le_of_ble_eq_true rfl) (w_x_Replies_better N d (by omega) _ _ _ h3) rfl ?_
        refine aw_iload_n (pc := 37) (q := 2) dX11_cure_37 rfl ?_
        refine aw_if_ne (pc := 38) (tgt := 49) dX11_cure_38 (by decide) (fun hc => ?_) (fun hc => ?_)
        · rw [if_neg hc] at h
          refine aw_iload_n (pc := 49) (q := 2) dX11_cure_49 rfl ?_
          refine aw_iconst (pc := 50) dX11_cure_50 ⟨by decide, by decide⟩ ?_
          refine aw_icmp_ne (pc := 51) (tgt := 64) dX11_cure_51 (by decide) (fun hc => ?_) (fun hc => ?_)
          · rw [if_neg hc] at h
            refine aw_aload_n (pc := 64) (q := 0) dX11_cure_64 rfl ?_
            refine aw_getf (pc := 65) (v := .inr (.inr 22)) dX11_cure_65 fl_RX11_47 (by decide) rfl rfl rfl ?_
            refine aw_getf (pc := 68) (v := .inl (w3 22 4)) dX11_cure_68 fl_RX11_239 (by decide) rfl rfl rfl ?_
            exact aw_sel [] rfl (w_x_cure_71 N d hd  _ _ _ _ h)
          · rw [if_pos hc] at h
            refine aw_aload_n (pc := 54) (q := 0) dX11_cure_54 rfl ?_
            refine aw_getf (pc := 55) (v := .inr (.inr 22)) dX11_cure_55 fl_RX11_47 (by decide) rfl rfl rfl ?_
            refine aw_getf (pc := 58) (v := .inl (w3 22 3)) dX11_cure_58 fl_RX11_236 (by decide) rfl rfl rfl ?_
            refine aw_goto (pc := 61) (tgt := 71) dX11_cure_61 (by decide) ?_
            exact aw_sel [] rfl (w_x_cure_71 N d hd  _ _ _ _ h)
        · rw [if_pos hc] at h
          refine aw_aload_n (pc := 41) (q := 0) dX11_cure_41 rfl ?_
          refine aw_getf (pc := 42) (v := .inr (.inr 22)) dX11_cure_42 fl_RX11_47 (by decide) rfl rfl rfl ?_
          refine aw_getf (pc := 45) (v := .inl (w3 22 2)) dX11_cure_45 fl_RX11_233 (by decide) rfl rfl rfl ?_
          cases h
          exact aw_iret (pc := 48) rfl dX11_cure_48
      · rw [if_pos hc] at h
        exact aw_sel [] rfl (w_x_cure_20 N d hd  _ _ _ h)
theorem w_x_cure {l : Launch} {K : aw_K} (N d : Nat) (hd : 5 ≤ d) : ∀ (x1 x2 : Int) (w : aw_W) (y : Int) (v : aw_W), x_cure N x1 x2 w = some (y, v) → aw_Met l K MX11_cure (d) [.inr (.inr 0), .inl x1, .inl x2] w (some (.inl y), v) := by
  obtain ⟨e, rfl⟩ : ∃ e, d = e + 1 := ⟨d - 1, by omega⟩
  exact w_x_cure_d N e (by omega)
theorem dX11_end_0 : decode cX11_end 0 = .ok (.iload_n 1, 1) := by decide +kernel
theorem dX11_end_1 : decode cX11_end 1 = .ok (.ifCond .lt 14, 3) := by decide +kernel
theorem dX11_end_4 : decode cX11_end 4 = .ok (.iload_n 1, 1) := by decide +kernel
theorem dX11_end_5 : decode cX11_end 5 = .ok (.aload_n 0, 1) := by decide +kernel
theorem dX11_end_6 : decode cX11_end 6 = .ok (.getfield 10, 3) := by decide +kernel
theorem dX11_end_9 : decode cX11_end 9 = .ok (.getfield 106, 3) := by decide +kernel
theorem dX11_end_12 : decode cX11_end 12 = .ok (.if_icmp .le 5, 3) := by decide +kernel
theorem dX11_end_15 : decode cX11_end 15 = .ok (.iconst 0, 1) := by decide +kernel
theorem dX11_end_16 : decode cX11_end 16 = .ok (.ireturn, 1) := by decide +kernel
theorem dX11_end_17 : decode cX11_end 17 = .ok (.aload_n 0, 1) := by decide +kernel
theorem dX11_end_18 : decode cX11_end 18 = .ok (.getfield 10, 3) := by decide +kernel
theorem dX11_end_21 : decode cX11_end 21 = .ok (.iload_n 1, 1) := by decide +kernel
theorem dX11_end_22 : decode cX11_end 22 = .ok (.putfield 106, 3) := by decide +kernel
theorem dX11_end_25 : decode cX11_end 25 = .ok (.iconst 1, 1) := by decide +kernel
theorem dX11_end_26 : decode cX11_end 26 = .ok (.ireturn, 1) := by decide +kernel
def x_end_15 (N : Nat) (w : aw_W) : Option (Int × aw_W) :=
  some (0, w)
theorem w_x_end_15 {l : Launch} {K : aw_K} (N d : Nat) : ∀ (w : aw_W) (y : Int) (v : aw_W), x_end_15 N w = some (y, v) → aw_AW l K MX11_end (d) 15 [] [] w (some (.inl y), v) := by
  intro w y v h
  unfold x_end_15 at h
  refine aw_iconst (pc := 15) dX11_end_15 ⟨by decide, by decide⟩ ?_
  cases h
  exact aw_zret (pc := 16) rfl (by decide) dX11_end_16
def x_end (N : Nat) (x1 : Int) (w : aw_W) : Option (Int × aw_W) :=
  if x1 < 0 then
    x_end_15 N w
  else
    if x1 ≤ (w 1 1) then
      some (1, (aw_up w 1 1 x1))
    else
      x_end_15 N w
theorem w_x_end {l : Launch} {K : aw_K} (N d : Nat) (hd : 0 ≤ d) : ∀ (x1 : Int) (w : aw_W) (y : Int) (v : aw_W), x_end N x1 w = some (y, v) → aw_Met l K MX11_end (d) [.inr (.inr 0), .inl x1] w (some (.inl y), v) := by
  intro x1 w y v h
  unfold x_end at h
  refine aw_enter rfl (Nat.le_of_ble_eq_true rfl) ?_
  show aw_AW l K MX11_end (d) 0 [(0, .inr (.inr 0)), (1, .inl x1)] [] w (some (.inl y), v)
  refine aw_iload_n (pc := 0) (q := 1) dX11_end_0 rfl ?_
  refine aw_if_lt (pc := 1) (tgt := 15) dX11_end_1 (by decide) (fun hc => ?_) (fun hc => ?_)
  · rw [if_pos hc] at h
    exact aw_sel [] rfl (w_x_end_15 N d  _ _ _ h)
  · rw [if_neg hc] at h
    refine aw_iload_n (pc := 4) (q := 1) dX11_end_4 rfl ?_
    refine aw_aload_n (pc := 5) (q := 0) dX11_end_5 rfl ?_
    refine aw_getf (pc := 6) (v := .inr (.inr 1)) dX11_end_6 fl_RX11_10 (by decide) rfl rfl rfl ?_
    refine aw_getf (pc := 9) (v := .inl (w 1 1)) dX11_end_9 fl_RX11_106 (by decide) rfl rfl rfl ?_
    refine aw_icmp_le (pc := 12) (tgt := 17) dX11_end_12 (by decide) (fun hc => ?_) (fun hc => ?_)
    · rw [if_pos hc] at h
      refine aw_aload_n (pc := 17) (q := 0) dX11_end_17 rfl ?_
      refine aw_getf (pc := 18) (v := .inr (.inr 1)) dX11_end_18 fl_RX11_10 (by decide) rfl rfl rfl ?_
      refine aw_iload_n (pc := 21) (q := 1) dX11_end_21 rfl ?_
      refine aw_puti (pc := 22) dX11_end_22 fp_RX11_106 (by decide) rfl rfl ?_
      refine aw_iconst (pc := 25) dX11_end_25 ⟨by decide, by decide⟩ ?_
      cases h
      exact aw_zret (pc := 26) rfl (by decide) dX11_end_26
    · rw [if_neg hc] at h
      exact aw_sel [] rfl (w_x_end_15 N d  _ _ _ h)
theorem dX1_become_0 : decode cX1_become 0 = .ok (.aload_n 1, 1) := by decide +kernel
theorem dX1_become_1 : decode cX1_become 1 = .ok (.getfield 9, 3) := by decide +kernel
theorem dX1_become_4 : decode cX1_become 4 = .ok (.iconst 0, 1) := by decide +kernel
theorem dX1_become_5 : decode cX1_become 5 = .ok (.aload_n 0, 1) := by decide +kernel
theorem dX1_become_6 : decode cX1_become 6 = .ok (.getfield 9, 3) := by decide +kernel
theorem dX1_become_9 : decode cX1_become 9 = .ok (.iconst 0, 1) := by decide +kernel
theorem dX1_become_10 : decode cX1_become 10 = .ok (.aload_n 0, 1) := by decide +kernel
theorem dX1_become_11 : decode cX1_become 11 = .ok (.getfield 9, 3) := by decide +kernel
theorem dX1_become_14 : decode cX1_become 14 = .ok (.arraylength, 1) := by decide +kernel
theorem dX1_become_15 : decode cX1_become 15 = .ok (.invokestatic 33, 3) := by decide +kernel
theorem dX1_become_18 : decode cX1_become 18 = .ok (.aload_n 1, 1) := by decide +kernel
theorem dX1_become_19 : decode cX1_become 19 = .ok (.getfield 15, 3) := by decide +kernel
theorem dX1_become_22 : decode cX1_become 22 = .ok (.iconst 0, 1) := by decide +kernel
theorem dX1_become_23 : decode cX1_become 23 = .ok (.aload_n 0, 1) := by decide +kernel
theorem dX1_become_24 : decode cX1_become 24 = .ok (.getfield 15, 3) := by decide +kernel
theorem dX1_become_27 : decode cX1_become 27 = .ok (.iconst 0, 1) := by decide +kernel
theorem dX1_become_28 : decode cX1_become 28 = .ok (.iconst 5, 1) := by decide +kernel
theorem dX1_become_29 : decode cX1_become 29 = .ok (.invokestatic 33, 3) := by decide +kernel
theorem dX1_become_32 : decode cX1_become 32 = .ok (.aload_n 0, 1) := by decide +kernel
theorem dX1_become_33 : decode cX1_become 33 = .ok (.getfield 18, 3) := by decide +kernel
theorem dX1_become_36 : decode cX1_become 36 = .ok (.iconst (-1), 1) := by decide +kernel
theorem dX1_become_37 : decode cX1_become 37 = .ok (.invokestatic 39, 3) := by decide +kernel
theorem dX1_become_40 : decode cX1_become 40 = .ok (.aload_n 0, 1) := by decide +kernel
theorem dX1_become_41 : decode cX1_become 41 = .ok (.aload_n 1, 1) := by decide +kernel
theorem dX1_become_42 : decode cX1_become 42 = .ok (.getfield 21, 3) := by decide +kernel
theorem dX1_become_45 : decode cX1_become 45 = .ok (.putfield 21, 3) := by decide +kernel
theorem dX1_become_48 : decode cX1_become 48 = .ok (.return_, 1) := by decide +kernel
def x_Land_become (N : Nat) (w : aw_W) : Option (aw_W) :=
  aw_b1 (j_Arr_fill_Ii_6 N (-1) (aw_cpy ((aw_cpy (w 8) w 4 0 0 24) 9) (aw_cpy (w 8) w 4 0 0 24) 5 0 0 5)) fun w1 =>
    some (aw_up w1 3 4 (w1 7 4))
theorem w_x_Land_become_d {l : Launch} {K : aw_K} (N d : Nat) (hd : 0 ≤ d) : ∀ (w v : aw_W), x_Land_become N w = some v → aw_Met l K MX1_become (d + 1) [.inr (.inr 3), .inr (.inr 7)] w (none, v) := by
  intro w v h
  unfold x_Land_become at h
  refine aw_enter rfl (Nat.le_of_ble_eq_true rfl) ?_
  show aw_AW l K MX1_become (d + 1) 0 [(0, .inr (.inr 3)), (1, .inr (.inr 7))] [] w (none, v)
  refine aw_aload_n (pc := 0) (q := 1) dX1_become_0 rfl ?_
  refine aw_getf (pc := 1) (v := .inr (.inr 8)) dX1_become_1 fl_RX1_9 (by decide) rfl rfl rfl ?_
  refine aw_iconst (pc := 4) dX1_become_4 ⟨by decide, by decide⟩ ?_
  refine aw_aload_n (pc := 5) (q := 0) dX1_become_5 rfl ?_
  refine aw_getf (pc := 6) (v := .inr (.inr 4)) dX1_become_6 fl_RX1_9 (by decide) rfl rfl rfl ?_
  refine aw_iconst (pc := 9) dX1_become_9 ⟨by decide, by decide⟩ ?_
  refine aw_aload_n (pc := 10) (q := 0) dX1_become_10 rfl ?_
  refine aw_getf (pc := 11) (v := .inr (.inr 4)) dX1_become_11 fl_RX1_9 (by decide) rfl rfl rfl ?_
  refine aw_alenv (pc := 14) (x := 24) dX1_become_14 (by decide) rfl (by decide) rfl ⟨by decide, by decide⟩ ?_
  refine aw_copyW (pc := 15) dX1_become_15 cc_RX1_33 rfl rfl (by decide) (by decide) (by decide) (by decide) (by decide) (by decide) (by decide) (Nat.le_of_ble_eq_true rfl) ?_
  refine aw_aload_n (pc := 18) (q := 1) dX1_become_18 rfl ?_
  refine aw_getf (pc := 19) (v := .inr (.inr 9)) dX1_become_19 fl_RX1_15 (by decide) rfl rfl rfl ?_
  refine aw_iconst (pc := 22) dX1_become_22 ⟨by decide, by decide⟩ ?_
  refine aw_aload_n (pc := 23) (q := 0) dX1_become_23 rfl ?_
  refine aw_getf (pc := 24) (v := .inr (.inr 5)) dX1_become_24 fl_RX1_15 (by decide) rfl rfl rfl ?_
  refine aw_iconst (pc := 27) dX1_become_27 ⟨by decide, by decide⟩ ?_
  refine aw_iconst (pc := 28) dX1_become_28 ⟨by decide, by decide⟩ ?_
  refine aw_copyW (pc := 29) dX1_become_29 cc_RX1_33 rfl rfl (by decide) (by decide) (by decide) (by decide) (by decide) (by decide) (by decide) (Nat.le_of_ble_eq_true rfl) ?_
  refine aw_aload_n (pc := 32) (q := 0) dX1_become_32 rfl ?_
  refine aw_getf (pc := 33) (v := .inr (.inr 6)) dX1_become_33 fl_RX1_18 (by decide) rfl rfl rfl ?_
  refine aw_iconst (pc := 36) dX1_become_36 ⟨by decide, by decide⟩ ?_
  obtain ⟨w1, h1, h⟩ := aw_b1s h
  refine aw_callS (pc := 37) (as := [.inr (.inr 6), .inl (-1)]) (st := []) (st' := []) dX1_become_37 cs_RX1_39 rfl rfl (Nat.le_of_ble_eq_true rfl) (w_j_Arr_fill_Ii_6 N d (by omega) _ _ _ h1) rfl ?_
  refine aw_aload_n (pc := 40) (q := 0) dX1_become_40 rfl ?_
  refine aw_aload_n (pc := 41) (q := 1) dX1_become_41 rfl ?_
  refine aw_getf (pc := 42) (v := .inl (w1 7 4)) dX1_become_42 fl_RX1_21 (by decide) rfl rfl rfl ?_
  refine aw_puti (pc := 45) dX1_become_45 fp_RX1_21 (by decide) rfl rfl ?_
  cases h
  exact aw_vret (pc := 48) rfl dX1_become_48
theorem w_x_Land_become {l : Launch} {K : aw_K} (N d : Nat) (hd : 1 ≤ d) : ∀ (w v : aw_W), x_Land_become N w = some v → aw_Met l K MX1_become (d) [.inr (.inr 3), .inr (.inr 7)] w (none, v) := by
  obtain ⟨e, rfl⟩ : ∃ e, d = e + 1 := ⟨d - 1, by omega⟩
  exact w_x_Land_become_d N e (by omega)
theorem dX11_enterLand_0 : decode cX11_enterLand 0 = .ok (.aload_n 0, 1) := by decide +kernel
theorem dX11_enterLand_1 : decode cX11_enterLand 1 = .ok (.getfield 19, 3) := by decide +kernel
theorem dX11_enterLand_4 : decode cX11_enterLand 4 = .ok (.aload_n 0, 1) := by decide +kernel
theorem dX11_enterLand_5 : decode cX11_enterLand 5 = .ok (.getfield 23, 3) := by decide +kernel
theorem dX11_enterLand_8 : decode cX11_enterLand 8 = .ok (.invokevirtual 129, 3) := by decide +kernel
theorem dX11_enterLand_11 : decode cX11_enterLand 11 = .ok (.aload_n 0, 1) := by decide +kernel
theorem dX11_enterLand_12 : decode cX11_enterLand 12 = .ok (.getfield 84, 3) := by decide +kernel
theorem dX11_enterLand_15 : decode cX11_enterLand 15 = .ok (.iconst 0, 1) := by decide +kernel
theorem dX11_enterLand_16 : decode cX11_enterLand 16 = .ok (.putfield 132, 3) := by decide +kernel
theorem dX11_enterLand_19 : decode cX11_enterLand 19 = .ok (.aload_n 0, 1) := by decide +kernel
theorem dX11_enterLand_20 : decode cX11_enterLand 20 = .ok (.iconst 0, 1) := by decide +kernel
theorem dX11_enterLand_21 : decode cX11_enterLand 21 = .ok (.putfield 98, 3) := by decide +kernel
theorem dX11_enterLand_24 : decode cX11_enterLand 24 = .ok (.aload_n 0, 1) := by decide +kernel
theorem dX11_enterLand_25 : decode cX11_enterLand 25 = .ok (.getfield 54, 3) := by decide +kernel
theorem dX11_enterLand_28 : decode cX11_enterLand 28 = .ok (.iconst 0, 1) := by decide +kernel
theorem dX11_enterLand_29 : decode cX11_enterLand 29 = .ok (.putfield 133, 3) := by decide +kernel
theorem dX11_enterLand_32 : decode cX11_enterLand 32 = .ok (.aload_n 0, 1) := by decide +kernel
theorem dX11_enterLand_33 : decode cX11_enterLand 33 = .ok (.getfield 10, 3) := by decide +kernel
theorem dX11_enterLand_36 : decode cX11_enterLand 36 = .ok (.iconst 0, 1) := by decide +kernel
theorem dX11_enterLand_37 : decode cX11_enterLand 37 = .ok (.putfield 106, 3) := by decide +kernel
theorem dX11_enterLand_40 : decode cX11_enterLand 40 = .ok (.aload_n 0, 1) := by decide +kernel
theorem dX11_enterLand_41 : decode cX11_enterLand 41 = .ok (.getfield 19, 3) := by decide +kernel
theorem dX11_enterLand_44 : decode cX11_enterLand 44 = .ok (.getfield 136, 3) := by decide +kernel
theorem dX11_enterLand_47 : decode cX11_enterLand 47 = .ok (.ireturn, 1) := by decide +kernel
def x_enterLand (N : Nat) (w : aw_W) : Option (Int × aw_W) :=
  aw_b1 (x_Land_become N w) fun w1 =>
    some (w1 3 4, (aw_up (aw_up (aw_up (aw_up w1 41 4 0) 0 14 0) 23 4 0) 1 1 0))
theorem w_x_enterLand_d {l : Launch} {K : aw_K} (N d : Nat) (hd : 1 ≤ d) : ∀ (w : aw_W) (y : Int) (v : aw_W), x_enterLand N w = some (y, v) → aw_Met l K MX11_enterLand (d + 1) [.inr (.inr 0)] w (some (.inl y), v) := by
  intro w y v h
  unfold x_enterLand at h
  refine aw_enter rfl (Nat.le_of_ble_eq_true rfl) ?_
  show aw_AW l K MX11_enterLand (d + 1) 0 [(0, .inr (.inr 0))] [] w (some (.inl y), v)
  refine aw_aload_n (pc := 0) (q := 0) dX11_enterLand_0 rfl ?_
  refine aw_getf (pc := 1) (v := .inr (.inr 3)) dX11_enterLand_1 fl_RX11_19 (by decide) rfl rfl rfl ?_
  refine aw_aload_n (pc := 4) (q := 0) dX11_enterLand_4 rfl ?_
  refine aw_getf (pc := 5) (v := .inr (.inr 7)) dX11_enterLand_5 fl_RX11_23 (by decide) rfl rfl rfl ?_
  obtain ⟨w1, h1, h⟩ := aw_b1s h
  refine aw_callV (pc := 8) (as := [.inr (.inr 7)]) (st := []) (st' := []) dX11_enterLand_8 cv_RX11_129 (by decide) rfl rfl rfl rfl (Nat.le_of_ble_eq_true rfl) (w_x_Land_become N d (by omega) _ _ h1) rfl ?_
  refine aw_aload_n (pc := 11) (q := 0) dX11_enterLand_11 rfl ?_
  refine aw_getf (pc := 12) (v := .inr (.inr 41)) dX11_enterLand_12 fl_RX11_84 (by decide) rfl rfl rfl ?_
  refine aw_iconst (pc := 15) dX11_enterLand_15 ⟨by decide, by decide⟩ ?_
  refine aw_puti (pc := 16) dX11_enterLand_16 fp_RX11_132 (by decide) rfl rfl ?_
  refine aw_aload_n (pc := 19) (q := 0) dX11_enterLand_19 rfl ?_
  refine aw_iconst (pc := 20) dX11_enterLand_20 ⟨by decide, by decide⟩ ?_
  refine aw_putz (pc := 21) dX11_enterLand_21 fp_RX11_98 (by decide) rfl rfl (by decide) ?_
  refine aw_aload_n (pc := 24) (q := 0) dX11_enterLand_24 rfl ?_
  refine aw_getf (pc := 25) (v := .inr (.inr 23)) dX11_enterLand_25 fl_RX11_54 (by decide) rfl rfl rfl ?_
  refine aw_iconst (pc := 28) dX11_enterLand_28 ⟨by decide, by decide⟩ ?_
  refine aw_putz (pc := 29) dX11_enterLand_29 fp_RX11_133 (by decide) rfl rfl (by decide) ?_
  refine aw_aload_n (pc := 32) (q := 0) dX11_enterLand_32 rfl ?_
  refine aw_getf (pc := 33) (v := .inr (.inr 1)) dX11_enterLand_33 fl_RX11_10 (by decide) rfl rfl rfl ?_
  refine aw_iconst (pc := 36) dX11_enterLand_36 ⟨by decide, by decide⟩ ?_
  refine aw_puti (pc := 37) dX11_enterLand_37 fp_RX11_106 (by decide) rfl rfl ?_
  refine aw_aload_n (pc := 40) (q := 0) dX11_enterLand_40 rfl ?_
  refine aw_getf (pc := 41) (v := .inr (.inr 3)) dX11_enterLand_41 fl_RX11_19 (by decide) rfl rfl rfl ?_
  refine aw_getf (pc := 44) (v := .inl (w1 3 4)) dX11_enterLand_44 fl_RX11_136 (by decide) rfl rfl rfl ?_
  cases h
  exact aw_iret (pc := 47) rfl dX11_enterLand_47
theorem w_x_enterLand {l : Launch} {K : aw_K} (N d : Nat) (hd : 2 ≤ d) : ∀ (w : aw_W) (y : Int) (v : aw_W), x_enterLand N w = some (y, v) → aw_Met l K MX11_enterLand (d) [.inr (.inr 0)] w (some (.inl y), v) := by
  obtain ⟨e, rfl⟩ : ∃ e, d = e + 1 := ⟨d - 1, by omega⟩
  exact w_x_enterLand_d N e (by omega)
theorem dX9_sign_0 : decode cX9_sign 0 = .ok (.aload_n 0, 1) := by decide +kernel
theorem dX9_sign_1 : decode cX9_sign 1 = .ok (.getfield 19, 3) := by decide +kernel
theorem dX9_sign_4 : decode cX9_sign 4 = .ok (.aload_n 0, 1) := by decide +kernel
theorem dX9_sign_5 : decode cX9_sign 5 = .ok (.getfield 15, 3) := by decide +kernel
theorem dX9_sign_8 : decode cX9_sign 8 = .ok (.if_icmp .ge 30, 3) := by decide +kernel
theorem dX9_sign_11 : decode cX9_sign 11 = .ok (.aload_n 0, 1) := by decide +kernel
theorem dX9_sign_12 : decode cX9_sign 12 = .ok (.getfield 9, 3) := by decide +kernel
theorem dX9_sign_15 : decode cX9_sign 15 = .ok (.aload_n 0, 1) := by decide +kernel
theorem dX9_sign_16 : decode cX9_sign 16 = .ok (.getfield 19, 3) := by decide +kernel
theorem dX9_sign_19 : decode cX9_sign 19 = .ok (.iaload, 1) := by decide +kernel
theorem dX9_sign_20 : decode cX9_sign 20 = .ok (.bipush 32, 2) := by decide +kernel
theorem dX9_sign_22 : decode cX9_sign 22 = .ok (.if_icmp .ne 16, 3) := by decide +kernel
theorem dX9_sign_25 : decode cX9_sign 25 = .ok (.aload_n 0, 1) := by decide +kernel
theorem dX9_sign_26 : decode cX9_sign 26 = .ok (.dup, 1) := by decide +kernel
theorem dX9_sign_27 : decode cX9_sign 27 = .ok (.getfield 19, 3) := by decide +kernel
theorem dX9_sign_30 : decode cX9_sign 30 = .ok (.iconst 1, 1) := by decide +kernel
theorem dX9_sign_31 : decode cX9_sign 31 = .ok (.iadd, 1) := by decide +kernel
theorem dX9_sign_32 : decode cX9_sign 32 = .ok (.putfield 19, 3) := by decide +kernel
theorem dX9_sign_35 : decode cX9_sign 35 = .ok (.goto (-35), 3) := by decide +kernel
theorem dX9_sign_38 : decode cX9_sign 38 = .ok (.aload_n 0, 1) := by decide +kernel
theorem dX9_sign_39 : decode cX9_sign 39 = .ok (.getfield 19, 3) := by decide +kernel
theorem dX9_sign_42 : decode cX9_sign 42 = .ok (.aload_n 0, 1) := by decide +kernel
theorem dX9_sign_43 : decode cX9_sign 43 = .ok (.getfield 15, 3) := by decide +kernel
theorem dX9_sign_46 : decode cX9_sign 46 = .ok (.if_icmp .ge 15, 3) := by decide +kernel
theorem dX9_sign_49 : decode cX9_sign 49 = .ok (.aload_n 0, 1) := by decide +kernel
theorem dX9_sign_50 : decode cX9_sign 50 = .ok (.getfield 9, 3) := by decide +kernel
theorem dX9_sign_53 : decode cX9_sign 53 = .ok (.aload_n 0, 1) := by decide +kernel
theorem dX9_sign_54 : decode cX9_sign 54 = .ok (.getfield 19, 3) := by decide +kernel
theorem dX9_sign_57 : decode cX9_sign 57 = .ok (.iaload, 1) := by decide +kernel
theorem dX9_sign_58 : decode cX9_sign 58 = .ok (.goto 4, 3) := by decide +kernel
theorem dX9_sign_61 : decode cX9_sign 61 = .ok (.iconst 0, 1) := by decide +kernel
theorem dX9_sign_62 : decode cX9_sign 62 = .ok (.ireturn, 1) := by decide +kernel
def x_Tape_sign_62 (N : Nat) (s0 : Int) (w : aw_W) : Option (Int × aw_W) :=
  some (s0, w)
theorem w_x_Tape_sign_62 {l : Launch} {K : aw_K} (N d : Nat) : ∀ (s0 : Int) (w : aw_W) (y : Int) (v : aw_W), x_Tape_sign_62 N s0 w = some (y, v) → aw_AW l K MX9_sign (d) 62 [] [.inl s0] w (some (.inl y), v) := by
  intro s0 w y v h
  unfold x_Tape_sign_62 at h
  cases h
  exact aw_iret (pc := 62) rfl dX9_sign_62
def x_Tape_sign_38 (N : Nat) (w : aw_W) : Option (Int × aw_W) :=
  if (w 1 1) ≤ (w 1 2) then
    x_Tape_sign_62 N 0 w
  else
    if 0 ≤ (w 1 2) ∧ (w 1 2) < 160 then
      x_Tape_sign_62 N (w 2 ((w 1 2).toNat)) w
    else none
theorem w_x_Tape_sign_38 {l : Launch} {K : aw_K} (N d : Nat) : ∀ (w : aw_W) (y : Int) (v : aw_W), x_Tape_sign_38 N w = some (y, v) → aw_AW l K MX9_sign (d) 38 [(0, .inr (.inr 1))] [] w (some (.inl y), v) := by
  intro w y v h
  unfold x_Tape_sign_38 at h
  refine aw_aload_n (pc := 38) (q := 0) dX9_sign_38 rfl ?_
  refine aw_getf (pc := 39) (v := .inl (w 1 2)) dX9_sign_39 fl_RX9_19 (by decide) rfl rfl rfl ?_
  refine aw_aload_n (pc := 42) (q := 0) dX9_sign_42 rfl ?_
  refine aw_getf (pc := 43) (v := .inl (w 1 1)) dX9_sign_43 fl_RX9_15 (by decide) rfl rfl rfl ?_
  refine aw_icmp_ge (pc := 46) (tgt := 61) dX9_sign_46 (by decide) (fun hc => ?_) (fun hc => ?_)
  · rw [if_pos hc] at h
    refine aw_iconst (pc := 61) dX9_sign_61 ⟨by decide, by decide⟩ ?_
    exact aw_sel [] rfl (w_x_Tape_sign_62 N d  _ _ _ _ h)
  · rw [if_neg hc] at h
    refine aw_aload_n (pc := 49) (q := 0) dX9_sign_49 rfl ?_
    refine aw_getf (pc := 50) (v := .inr (.inr 2)) dX9_sign_50 fl_RX9_9 (by decide) rfl rfl rfl ?_
    refine aw_aload_n (pc := 53) (q := 0) dX9_sign_53 rfl ?_
    refine aw_getf (pc := 54) (v := .inl (w 1 2)) dX9_sign_54 fl_RX9_19 (by decide) rfl rfl rfl ?_
    obtain ⟨hb, h⟩ := aw_cks h
    refine aw_ialdv (pc := 57) (v := w 2 ((w 1 2).toNat)) dX9_sign_57 rfl hb.1 hb.2 rfl ?_
    refine aw_goto (pc := 58) (tgt := 62) dX9_sign_58 (by decide) ?_
    exact aw_sel [] rfl (w_x_Tape_sign_62 N d  _ _ _ _ h)
def x_Tape_sign_0 (N : Nat) : Nat → aw_W → Option (Int × aw_W)
  | 0, _ => none
  | n + 1, w =>
    if (w 1 1) ≤ (w 1 2) then
      x_Tape_sign_38 N w
    else
      if 0 ≤ (w 1 2) ∧ (w 1 2) < 160 then
        if (w 2 ((w 1 2).toNat)) = 32 then
          x_Tape_sign_0 N n (aw_up w 1 2 (aw_w ((w 1 2) + 1)))
        else
          x_Tape_sign_38 N w
      else none
theorem w_x_Tape_sign_0 {l : Launch} {K : aw_K} (N d : Nat) : ∀ (n : Nat) (w : aw_W) (y : Int) (v : aw_W), x_Tape_sign_0 N n w = some (y, v) → aw_AW l K MX9_sign (d) 0 [(0, .inr (.inr 1))] [] w (some (.inl y), v) := by
  intro n
  induction n with
  | zero => intro w y v h; rw [x_Tape_sign_0] at h; cases h
  | succ n ih =>
    intro w y v h
    rw [x_Tape_sign_0] at h
    refine aw_aload_n (pc := 0) (q := 0) dX9_sign_0 rfl ?_
    refine aw_getf (pc := 1) (v := .inl (w 1 2)) dX9_sign_1 fl_RX9_19 (by decide) rfl rfl rfl ?_
    refine aw_aload_n (pc := 4) (q := 0) dX9_sign_4 rfl ?_
    refine aw_getf (pc := 5) (v := .inl (w 1 1)) dX9_sign_5 fl_RX9_15 (by decide) rfl rfl rfl ?_
    refine aw_icmp_ge (pc := 8) (tgt := 38) dX9_sign_8 (by decide) (fun hc => ?_) (fun hc => ?_)
    · rw [if_pos hc] at h
      exact aw_sel [0] rfl (w_x_Tape_sign_38 N d  _ _ _ h)
    · rw [if_neg hc] at h
      refine aw_aload_n (pc := 11) (q := 0) dX9_sign_11 rfl ?_
      refine aw_getf (pc := 12) (v := .inr (.inr 2)) dX9_sign_12 fl_RX9_9 (by decide) rfl rfl rfl ?_
      refine aw_aload_n (pc := 15) (q := 0) dX9_sign_15 rfl ?_
      refine aw_getf (pc := 16) (v := .inl (w 1 2)) dX9_sign_16 fl_RX9_19 (by decide) rfl rfl rfl ?_
      obtain ⟨hb, h⟩ := aw_cks h
      refine aw_ialdv (pc := 19) (v := w 2 ((w 1 2).toNat)) dX9_sign_19 rfl hb.1 hb.2 rfl ?_
      refine aw_bipush (pc := 20) dX9_sign_20 (by decide) ⟨by decide, by decide⟩ ?_
      refine aw_icmp_ne (pc := 22) (tgt := 38) dX9_sign_22 (by decide) (fun hc => ?_) (fun hc => ?_)
      · rw [if_neg hc] at h
        exact aw_sel [0] rfl (w_x_Tape_sign_38 N d  _ _ _ h)
      · rw [if_pos hc] at h
        refine aw_aload_n (pc := 25) (q := 0) dX9_sign_25 rfl ?_
        refine aw_dup (pc := 26) dX9_sign_26 rfl ?_
        refine aw_getf (pc := 27) (v := .inl (w 1 2)) dX9_sign_27 fl_RX9_19 (by decide) rfl rfl rfl ?_
        refine aw_iconst (pc := 30) dX9_sign_30 ⟨by decide, by decide⟩ ?_
        refine aw_iadd (pc := 31) dX9_sign_31 ?_
        refine aw_puti (pc := 32) dX9_sign_32 fp_RX9_19 (by decide) rfl rfl ?_
        refine aw_goto (pc := 35) (tgt := 0) dX9_sign_35 (by decide) ?_
        exact aw_sel [0] rfl (ih _ _ _ h)
def x_Tape_sign (N : Nat) (w : aw_W) : Option (Int × aw_W) :=
  x_Tape_sign_0 N N w
theorem w_x_Tape_sign {l : Launch} {K : aw_K} (N d : Nat) (hd : 0 ≤ d) : ∀ (w : aw_W) (y : Int) (v : aw_W), x_Tape_sign N w = some (y, v) → aw_Met l K MX9_sign (d) [.inr (.inr 1)] w (some (.inl y), v) := by
  intro w y v h
  unfold x_Tape_sign at h
  refine aw_enter rfl (Nat.le_of_ble_eq_true rfl) ?_
  show aw_AW l K MX9_sign (d) 0 [(0, .inr (.inr 1))] [] w (some (.inl y), v)
  exact aw_sel [0] rfl (w_x_Tape_sign_0 N d  N _ _ _ h)
theorem dX9_take_0 : decode cX9_take 0 = .ok (.aload_n 0, 1) := by decide +kernel
theorem dX9_take_1 : decode cX9_take 1 = .ok (.invokevirtual 22, 3) := by decide +kernel
theorem dX9_take_4 : decode cX9_take 4 = .ok (.iload_n 1, 1) := by decide +kernel
theorem dX9_take_5 : decode cX9_take 5 = .ok (.if_icmp .eq 5, 3) := by decide +kernel
theorem dX9_take_8 : decode cX9_take 8 = .ok (.iconst 0, 1) := by decide +kernel
theorem dX9_take_9 : decode cX9_take 9 = .ok (.ireturn, 1) := by decide +kernel
theorem dX9_take_10 : decode cX9_take 10 = .ok (.aload_n 0, 1) := by decide +kernel
theorem dX9_take_11 : decode cX9_take 11 = .ok (.dup, 1) := by decide +kernel
theorem dX9_take_12 : decode cX9_take 12 = .ok (.getfield 19, 3) := by decide +kernel
theorem dX9_take_15 : decode cX9_take 15 = .ok (.iconst 1, 1) := by decide +kernel
theorem dX9_take_16 : decode cX9_take 16 = .ok (.iadd, 1) := by decide +kernel
theorem dX9_take_17 : decode cX9_take 17 = .ok (.putfield 19, 3) := by decide +kernel
theorem dX9_take_20 : decode cX9_take 20 = .ok (.iconst 1, 1) := by decide +kernel
theorem dX9_take_21 : decode cX9_take 21 = .ok (.ireturn, 1) := by decide +kernel
def x_Tape_take (N : Nat) (x1 : Int) (w : aw_W) : Option (Int × aw_W) :=
  aw_b2 (x_Tape_sign N w) fun r1 w1 =>
    if r1 = x1 then
      some (1, (aw_up w1 1 2 (aw_w ((w1 1 2) + 1))))
    else
      some (0, w1)
theorem w_x_Tape_take_d {l : Launch} {K : aw_K} (N d : Nat) (hd : 0 ≤ d) : ∀ (x1 : Int) (w : aw_W) (y : Int) (v : aw_W), x_Tape_take N x1 w = some (y, v) → aw_Met l K MX9_take (d + 1) [.inr (.inr 1), .inl x1] w (some (.inl y), v) := by
  intro x1 w y v h
  unfold x_Tape_take at h
  refine aw_enter rfl (Nat.le_of_ble_eq_true rfl) ?_
  show aw_AW l K MX9_take (d + 1) 0 [(0, .inr (.inr 1)), (1, .inl x1)] [] w (some (.inl y), v)
  refine aw_aload_n (pc := 0) (q := 0) dX9_take_0 rfl ?_
  obtain ⟨r1, w1, h1, h⟩ := aw_b2s h
  refine aw_callV (pc := 1) (as := []) (st := []) (st' := [.inl r1]) dX9_take_1 cv_RX9_22 (by decide) rfl rfl rfl rfl (Nat.le_of_ble_eq_true rfl) (w_x_Tape_sign N d (by omega) _ _ _ h1) rfl ?_
  refine aw_iload_n (pc := 4) (q := 1) dX9_take_4 rfl ?_
  refine aw_icmp_eq (pc := 5) (tgt := 10) dX9_take_5 (by decide) (fun hc => ?_) (fun hc => ?_)
  · rw [if_pos hc] at h
    refine aw_aload_n (pc := 10) (q := 0) dX9_take_10 rfl ?_
    refine aw_dup (pc := 11) dX9_take_11 rfl ?_
    refine aw_getf (pc := 12) (v := .inl (w1 1 2)) dX9_take_12 fl_RX9_19 (by decide) rfl rfl rfl ?_
    refine aw_iconst (pc := 15) dX9_take_15 ⟨by decide, by decide⟩ ?_
    refine aw_iadd (pc := 16) dX9_take_16 ?_
    refine aw_puti (pc := 17) dX9_take_17 fp_RX9_19 (by decide) rfl rfl ?_
    refine aw_iconst (pc := 20) dX9_take_20 ⟨by decide, by decide⟩ ?_
    cases h
    exact aw_zret (pc := 21) rfl (by decide) dX9_take_21
  · rw [if_neg hc] at h
    refine aw_iconst (pc := 8) dX9_take_8 ⟨by decide, by decide⟩ ?_
    cases h
    exact aw_zret (pc := 9) rfl (by decide) dX9_take_9
theorem w_x_Tape_take {l : Launch} {K : aw_K} (N d : Nat) (hd : 1 ≤ d) : ∀ (x1 : Int) (w : aw_W) (y : Int) (v : aw_W), x_Tape_take N x1 w = some (y, v) → aw_Met l K MX9_take (d) [.inr (.inr 1), .inl x1] w (some (.inl y), v) := by
  obtain ⟨e, rfl⟩ : ∃ e, d = e + 1 := ⟨d - 1, by omega⟩
  exact w_x_Tape_take_d N e (by omega)
theorem dX7_isComparison_0 : decode cX7_isComparison 0 = .ok (.iload_n 0, 1) := by decide +kernel
theorem dX7_isComparison_1 : decode cX7_isComparison 1 = .ok (.bipush 61, 2) := by decide +kernel
theorem dX7_isComparison_3 : decode cX7_isComparison 3 = .ok (.if_icmp .eq 15, 3) := by decide +kernel
theorem dX7_isComparison_6 : decode cX7_isComparison 6 = .ok (.iload_n 0, 1) := by decide +kernel
theorem dX7_isComparison_7 : decode cX7_isComparison 7 = .ok (.bipush 60, 2) := by decide +kernel
theorem dX7_isComparison_9 : decode cX7_isComparison 9 = .ok (.if_icmp .eq 9, 3) := by decide +kernel
theorem dX7_isComparison_12 : decode cX7_isComparison 12 = .ok (.iload_n 0, 1) := by decide +kernel
theorem dX7_isComparison_13 : decode cX7_isComparison 13 = .ok (.bipush 62, 2) := by decide +kernel
theorem dX7_isComparison_15 : decode cX7_isComparison 15 = .ok (.if_icmp .ne 7, 3) := by decide +kernel
theorem dX7_isComparison_18 : decode cX7_isComparison 18 = .ok (.iconst 1, 1) := by decide +kernel
theorem dX7_isComparison_19 : decode cX7_isComparison 19 = .ok (.goto 4, 3) := by decide +kernel
theorem dX7_isComparison_22 : decode cX7_isComparison 22 = .ok (.iconst 0, 1) := by decide +kernel
theorem dX7_isComparison_23 : decode cX7_isComparison 23 = .ok (.ireturn, 1) := by decide +kernel
def x_Rules_isComparison_23 (N : Nat) (s0 : Int) (w : aw_W) : Option (Int × aw_W) :=
  if s0 = 0 ∨ s0 = 1 then
    some (s0, w)
  else none
theorem w_x_Rules_isComparison_23 {l : Launch} {K : aw_K} (N d : Nat) : ∀ (s0 : Int) (w : aw_W) (y : Int) (v : aw_W), x_Rules_isComparison_23 N s0 w = some (y, v) → aw_AW l K MX7_isComparison (d) 23 [] [.inl s0] w (some (.inl y), v) := by
  intro s0 w y v h
  unfold x_Rules_isComparison_23 at h
  obtain ⟨hz, h⟩ := aw_cks h
  cases h
  exact aw_zret (pc := 23) rfl hz dX7_isComparison_23
def x_Rules_isComparison_18 (N : Nat) (w : aw_W) : Option (Int × aw_W) :=
  x_Rules_isComparison_23 N 1 w
theorem w_x_Rules_isComparison_18 {l : Launch} {K : aw_K} (N d : Nat) : ∀ (w : aw_W) (y : Int) (v : aw_W), x_Rules_isComparison_18 N w = some (y, v) → aw_AW l K MX7_isComparison (d) 18 [] [] w (some (.inl y), v) := by
  intro w y v h
  unfold x_Rules_isComparison_18 at h
  refine aw_iconst (pc := 18) dX7_isComparison_18 ⟨by decide, by decide⟩ ?_
  refine aw_goto (pc := 19) (tgt := 23) dX7_isComparison_19 (by decide) ?_
  exact aw_sel [] rfl (w_x_Rules_isComparison_23 N d  _ _ _ _ h)
def x_Rules_isComparison (N : Nat) (x0 : Int) (w : aw_W) : Option (Int × aw_W) :=
  if x0 = 61 then
    x_Rules_isComparison_18 N w
  else
    if x0 = 60 then
      x_Rules_isComparison_18 N w
    else
      if x0 = 62 then
        x_Rules_isComparison_18 N w
      else
        x_Rules_isComparison_23 N 0 w
theorem w_x_Rules_isComparison {l : Launch} {K : aw_K} (N d : Nat) (hd : 0 ≤ d) : ∀ (x0 : Int) (w : aw_W) (y : Int) (v : aw_W), x_Rules_isComparison N x0 w = some (y, v) → aw_Met l K MX7_isComparison (d) [.inl x0] w (some (.inl y), v) := by
  intro x0 w y v h
  unfold x_Rules_isComparison at h
  refine aw_enter rfl (Nat.le_of_ble_eq_true rfl) ?_
  show aw_AW l K MX7_isComparison (d) 0 [(0, .inl x0)] [] w (some (.inl y), v)
  refine aw_iload_n (pc := 0) (q := 0) dX7_isComparison_0 rfl ?_
  refine aw_bipush (pc := 1) dX7_isComparison_1 (by decide) ⟨by decide, by decide⟩ ?_
  refine aw_icmp_eq (pc := 3) (tgt := 18) dX7_isComparison_3 (by decide) (fun hc => ?_) (fun hc => ?_)
  · rw [if_pos hc] at h
    exact aw_sel [] rfl (w_x_Rules_isComparison_18 N d  _ _ _ h)
  · rw [if_neg hc] at h
    refine aw_iload_n (pc := 6) (q := 0) dX7_isComparison_6 rfl ?_
    refine aw_bipush (pc := 7) dX7_isComparison_7 (by decide) ⟨by decide, by decide⟩ ?_
    refine aw_icmp_eq (pc := 9) (tgt := 18) dX7_isComparison_9 (by decide) (fun hc => ?_) (fun hc => ?_)
    · rw [if_pos hc] at h
      exact aw_sel [] rfl (w_x_Rules_isComparison_18 N d  _ _ _ h)
    · rw [if_neg hc] at h
      refine aw_iload_n (pc := 12) (q := 0) dX7_isComparison_12 rfl ?_
      refine aw_bipush (pc := 13) dX7_isComparison_13 (by decide) ⟨by decide, by decide⟩ ?_
      refine aw_icmp_ne (pc := 15) (tgt := 22) dX7_isComparison_15 (by decide) (fun hc => ?_) (fun hc => ?_)
      · rw [if_neg hc] at h
        refine aw_iconst (pc := 22) dX7_isComparison_22 ⟨by decide, by decide⟩ ?_
        exact aw_sel [] rfl (w_x_Rules_isComparison_23 N d  _ _ _ _ h)
      · rw [if_pos hc] at h
        exact aw_sel [] rfl (w_x_Rules_isComparison_18 N d  _ _ _ h)
theorem dX11_indexIn_0 : decode cX11_indexIn 0 = .ok (.iconst 0, 1) := by decide +kernel
theorem dX11_indexIn_1 : decode cX11_indexIn 1 = .ok (.istore_n 2, 1) := by decide +kernel
theorem dX11_indexIn_2 : decode cX11_indexIn 2 = .ok (.iload_n 2, 1) := by decide +kernel
theorem dX11_indexIn_3 : decode cX11_indexIn 3 = .ok (.aload_n 0, 1) := by decide +kernel
theorem dX11_indexIn_4 : decode cX11_indexIn 4 = .ok (.arraylength, 1) := by decide +kernel
theorem dX11_indexIn_5 : decode cX11_indexIn 5 = .ok (.if_icmp .ge 18, 3) := by decide +kernel
theorem dX11_indexIn_8 : decode cX11_indexIn 8 = .ok (.aload_n 0, 1) := by decide +kernel
theorem dX11_indexIn_9 : decode cX11_indexIn 9 = .ok (.iload_n 2, 1) := by decide +kernel
theorem dX11_indexIn_10 : decode cX11_indexIn 10 = .ok (.iaload, 1) := by decide +kernel
theorem dX11_indexIn_11 : decode cX11_indexIn 11 = .ok (.iload_n 1, 1) := by decide +kernel
theorem dX11_indexIn_12 : decode cX11_indexIn 12 = .ok (.if_icmp .ne 5, 3) := by decide +kernel
theorem dX11_indexIn_15 : decode cX11_indexIn 15 = .ok (.iload_n 2, 1) := by decide +kernel
theorem dX11_indexIn_16 : decode cX11_indexIn 16 = .ok (.ireturn, 1) := by decide +kernel
theorem dX11_indexIn_17 : decode cX11_indexIn 17 = .ok (.iinc 2 1, 3) := by decide +kernel
theorem dX11_indexIn_20 : decode cX11_indexIn 20 = .ok (.goto (-18), 3) := by decide +kernel
theorem dX11_indexIn_23 : decode cX11_indexIn 23 = .ok (.iconst (-1), 1) := by decide +kernel
theorem dX11_indexIn_24 : decode cX11_indexIn 24 = .ok (.ireturn, 1) := by decide +kernel
def x_indexIn_23 (N : Nat) (w : aw_W) : Option (Int × aw_W) :=
  some ((-1), w)
theorem w_x_indexIn_23 {l : Launch} {K : aw_K} (N d : Nat) : ∀ (w : aw_W) (y : Int) (v : aw_W), x_indexIn_23 N w = some (y, v) → aw_AW l K MX11_indexIn (d) 23 [] [] w (some (.inl y), v) := by
  intro w y v h
  unfold x_indexIn_23 at h
  refine aw_iconst (pc := 23) dX11_indexIn_23 ⟨by decide, by decide⟩ ?_
  cases h
  exact aw_iret (pc := 24) rfl dX11_indexIn_24
def x_indexIn_15 (N : Nat) (x2 : Int) (w : aw_W) : Option (Int × aw_W) :=
  some (x2, w)
theorem w_x_indexIn_15 {l : Launch} {K : aw_K} (N d : Nat) : ∀ (x2 : Int) (w : aw_W) (y : Int) (v : aw_W), x_indexIn_15 N x2 w = some (y, v) → aw_AW l K MX11_indexIn (d) 15 [(2, .inl x2)] [] w (some (.inl y), v) := by
  intro x2 w y v h
  unfold x_indexIn_15 at h
  refine aw_iload_n (pc := 15) (q := 0) dX11_indexIn_15 rfl ?_
  cases h
  exact aw_iret (pc := 16) rfl dX11_indexIn_16
def x_indexIn_2 (N : Nat) : Nat → Int → Int → aw_W → Option (Int × aw_W)
  | 0, _, _, _ => none
  | n + 1, x1, x2, w =>
    if 6 ≤ x2 then
      x_indexIn_23 N w
    else
      if 0 ≤ x2 ∧ x2 < 6 then
        if (List.getD [100, 97, 98, 111, 108, 116] (x2.toNat) 0 : Int) = x1 then
          x_indexIn_15 N x2 w
        else
          x_indexIn_2 N n x1 (aw_w (x2 + 1)) w
      else none
theorem w_x_indexIn_2 {l : Launch} {K : aw_K} (N d : Nat) : ∀ (n : Nat) (x1 x2 : Int) (w : aw_W) (y : Int) (v : aw_W), x_indexIn_2 N n x1 x2 w = some (y, v) → aw_AW l K MX11_indexIn (d) 2 [(0, .inr (.inr 208)), (1, .inl x1), (2, .inl x2)] [] w (some (.inl y), v) := by
  intro n
  induction n with
  | zero => intro x1 x2 w y v h; rw [x_indexIn_2] at h; cases h
  | succ n ih =>
    intro x1 x2 w y v h
    rw [x_indexIn_2] at h
    refine aw_iload_n (pc := 2) (q := 2) dX11_indexIn_2 rfl ?_
    refine aw_aload_n (pc := 3) (q := 0) dX11_indexIn_3 rfl ?_
    refine aw_slen (pc := 4) (j := 8) (n := 6) dX11_indexIn_4 rfl rfl ⟨by decide, by decide⟩ ?_
    refine aw_icmp_ge (pc := 5) (tgt := 23) dX11_indexIn_5 (by decide) (fun hc => ?_) (fun hc => ?_)
    · rw [if_pos hc] at h
      exact aw_sel [] rfl (w_x_indexIn_23 N d  _ _ _ h)
    · rw [if_neg hc] at h
      refine aw_aload_n (pc := 8) (q := 0) dX11_indexIn_8 rfl ?_
      refine aw_iload_n (pc := 9) (q := 2) dX11_indexIn_9 rfl ?_
      obtain ⟨hb, h⟩ := aw_cks h
      refine aw_saldv (pc := 10) (j := 8) (v := (List.getD [100, 97, 98, 111, 108, 116] (x2.toNat) 0 : Int)) dX11_indexIn_10 rfl hb.1 hb.2 (aw_getD_I (by decide) _) rfl ?_
      refine aw_iload_n (pc := 11) (q := 1) dX11_indexIn_11 rfl ?_
      refine aw_icmp_ne (pc := 12) (tgt := 17) dX11_indexIn_12 (by decide) (fun hc => ?_) (fun hc => ?_)
      · rw [if_neg hc] at h
        refine aw_iinc (pc := 17) (q := 2) (ls' := [(2, .inl (aw_w (x2 + 1))), (0, .inr (.inr 208)), (1, .inl x1)]) dX11_indexIn_17 rfl (by decide) rfl ?_
        refine aw_goto (pc := 20) (tgt := 2) dX11_indexIn_20 (by decide) ?_
        exact aw_sel [1, 2, 0] rfl (ih _ _ _ _ _ h)
      · rw [if_pos hc] at h
        exact aw_sel [2] rfl (w_x_indexIn_15 N d  _ _ _ _ h)
def x_indexIn (N : Nat) (x1 : Int) (w : aw_W) : Option (Int × aw_W) :=
  x_indexIn_2 N N x1 0 w
theorem w_x_indexIn {l : Launch} {K : aw_K} (N d : Nat) (hd : 0 ≤ d) : ∀ (x1 : Int) (w : aw_W) (y : Int) (v : aw_W), x_indexIn N x1 w = some (y, v) → aw_Met l K MX11_indexIn (d) [.inr (.inr 208), .inl x1] w (some (.inl y), v) := by
  intro x1 w y v h
  unfold x_indexIn at h
  refine aw_enter rfl (Nat.le_of_ble_eq_true rfl) ?_
  show aw_AW l K MX11_indexIn (d) 0 [(0, .inr (.inr 208)), (1, .inl x1)] [] w (some (.inl y), v)
  refine aw_iconst (pc := 0) dX11_indexIn_0 ⟨by decide, by decide⟩ ?_
  refine aw_istore_n (pc := 1) (ls' := [(2, .inl 0), (0, .inr (.inr 208)), (1, .inl x1)]) dX11_indexIn_1 (by decide) rfl ?_
  exact aw_sel [1, 2, 0] rfl (w_x_indexIn_2 N d  N _ _ _ _ _ h)
theorem dX9_number_0 : decode cX9_number 0 = .ok (.iconst 0, 1) := by decide +kernel
theorem dX9_number_1 : decode cX9_number 1 = .ok (.istore_n 2, 1) := by decide +kernel
theorem dX9_number_2 : decode cX9_number 2 = .ok (.iconst 0, 1) := by decide +kernel
theorem dX9_number_3 : decode cX9_number 3 = .ok (.istore_n 3, 1) := by decide +kernel
theorem dX9_number_4 : decode cX9_number 4 = .ok (.aload_n 0, 1) := by decide +kernel
theorem dX9_number_5 : decode cX9_number 5 = .ok (.getfield 19, 3) := by decide +kernel
theorem dX9_number_8 : decode cX9_number 8 = .ok (.aload_n 0, 1) := by decide +kernel
theorem dX9_number_9 : decode cX9_number 9 = .ok (.getfield 15, 3) := by decide +kernel
theorem dX9_number_12 : decode cX9_number 12 = .ok (.if_icmp .ge 72, 3) := by decide +kernel
theorem dX9_number_15 : decode cX9_number 15 = .ok (.aload_n 0, 1) := by decide +kernel
theorem dX9_number_16 : decode cX9_number 16 = .ok (.getfield 9, 3) := by decide +kernel
theorem dX9_number_19 : decode cX9_number 19 = .ok (.aload_n 0, 1) := by decide +kernel
theorem dX9_number_20 : decode cX9_number 20 = .ok (.getfield 19, 3) := by decide +kernel
theorem dX9_number_23 : decode cX9_number 23 = .ok (.iaload, 1) := by decide +kernel
theorem dX9_number_24 : decode cX9_number 24 = .ok (.bipush 48, 2) := by decide +kernel
theorem dX9_number_26 : decode cX9_number 26 = .ok (.if_icmp .lt 58, 3) := by decide +kernel
theorem dX9_number_29 : decode cX9_number 29 = .ok (.aload_n 0, 1) := by decide +kernel
theorem dX9_number_30 : decode cX9_number 30 = .ok (.getfield 9, 3) := by decide +kernel
theorem dX9_number_33 : decode cX9_number 33 = .ok (.aload_n 0, 1) := by decide +kernel
theorem dX9_number_34 : decode cX9_number 34 = .ok (.getfield 19, 3) := by decide +kernel
theorem dX9_number_37 : decode cX9_number 37 = .ok (.iaload, 1) := by decide +kernel
theorem dX9_number_38 : decode cX9_number 38 = .ok (.bipush 57, 2) := by decide +kernel
theorem dX9_number_40 : decode cX9_number 40 = .ok (.if_icmp .gt 44, 3) := by decide +kernel
theorem dX9_number_43 : decode cX9_number 43 = .ok (.iload_n 3, 1) := by decide +kernel
theorem dX9_number_44 : decode cX9_number 44 = .ok (.iload_n 1, 1) := by decide +kernel
theorem dX9_number_45 : decode cX9_number 45 = .ok (.if_icmp .ne 5, 3) := by decide +kernel
theorem dX9_number_48 : decode cX9_number 48 = .ok (.iconst (-1), 1) := by decide +kernel
theorem dX9_number_49 : decode cX9_number 49 = .ok (.ireturn, 1) := by decide +kernel
theorem dX9_number_50 : decode cX9_number 50 = .ok (.iload_n 2, 1) := by decide +kernel
theorem dX9_number_51 : decode cX9_number 51 = .ok (.bipush 10, 2) := by decide +kernel
theorem dX9_number_53 : decode cX9_number 53 = .ok (.imul, 1) := by decide +kernel
theorem dX9_number_54 : decode cX9_number 54 = .ok (.aload_n 0, 1) := by decide +kernel
theorem dX9_number_55 : decode cX9_number 55 = .ok (.getfield 9, 3) := by decide +kernel
theorem dX9_number_58 : decode cX9_number 58 = .ok (.aload_n 0, 1) := by decide +kernel
theorem dX9_number_59 : decode cX9_number 59 = .ok (.getfield 19, 3) := by decide +kernel
theorem dX9_number_62 : decode cX9_number 62 = .ok (.iaload, 1) := by decide +kernel
theorem dX9_number_63 : decode cX9_number 63 = .ok (.iadd, 1) := by decide +kernel
theorem dX9_number_64 : decode cX9_number 64 = .ok (.bipush 48, 2) := by decide +kernel
theorem dX9_number_66 : decode cX9_number 66 = .ok (.isub, 1) := by decide +kernel
theorem dX9_number_67 : decode cX9_number 67 = .ok (.istore_n 2, 1) := by decide +kernel
theorem dX9_number_68 : decode cX9_number 68 = .ok (.iinc 3 1, 3) := by decide +kernel
theorem dX9_number_71 : decode cX9_number 71 = .ok (.aload_n 0, 1) := by decide +kernel
theorem dX9_number_72 : decode cX9_number 72 = .ok (.dup, 1) := by decide +kernel
theorem dX9_number_73 : decode cX9_number 73 = .ok (.getfield 19, 3) := by decide +kernel
theorem dX9_number_76 : decode cX9_number 76 = .ok (.iconst 1, 1) := by decide +kernel
theorem dX9_number_77 : decode cX9_number 77 = .ok (.iadd, 1) := by decide +kernel
theorem dX9_number_78 : decode cX9_number 78 = .ok (.putfield 19, 3) := by decide +kernel
theorem dX9_number_81 : decode cX9_number 81 = .ok (.goto (-77), 3) := by decide +kernel
theorem dX9_number_84 : decode cX9_number 84 = .ok (.iload_n 3, 1) := by decide +kernel
theorem dX9_number_85 : decode cX9_number 85 = .ok (.ifCond .ne 7, 3) := by decide +kernel
theorem dX9_number_88 : decode cX9_number 88 = .ok (.iconst (-1), 1) := by decide +kernel
theorem dX9_number_89 : decode cX9_number 89 = .ok (.goto 4, 3) := by decide +kernel
theorem dX9_number_92 : decode cX9_number 92 = .ok (.iload_n 2, 1) := by decide +kernel
theorem dX9_number_93 : decode cX9_number 93 = .ok (.ireturn, 1) := by decide +kernel
def x_Tape_number_93 (N : Nat) (s0 : Int) (w : aw_W) : Option (Int × aw_W) :=
  some (s0, w)
theorem w_x_Tape_number_93 {l : Launch} {K : aw_K} (N d : Nat) : ∀ (s0 : Int) (w : aw_W) (y : Int) (v : aw_W), x_Tape_number_93 N s0 w = some (y, v) → aw_AW l K MX9_number (d) 93 [] [.inl s0] w (some (.inl y), v) := by
  intro s0 w y v h
  unfold x_Tape_number_93 at h
  cases h
  exact aw_iret (pc := 93) rfl dX9_number_93
def x_Tape_number_84 (N : Nat) (x2 x3 : Int) (w : aw_W) : Option (Int × aw_W) :=
  if x3 = 0 then
    x_Tape_number_93 N (-1) w
  else
    x_Tape_number_93 N x2 w
theorem w_x_Tape_number_84 {l : Launch} {K : aw_K} (N d : Nat) : ∀ (x2 x3 : Int) (w : aw_W) (y : Int) (v : aw_W), x_Tape_number_84 N x2 x3 w = some (y, v) → aw_AW l K MX9_number (d) 84 [(2, .inl x2), (3, .inl x3)] [] w (some (.inl y), v) := by
  intro x2 x3 w y v h
  unfold x_Tape_number_84 at h
  refine aw_iload_n (pc := 84) (q := 1) dX9_number_84 rfl ?_
  refine aw_if_ne (pc := 85) (tgt := 92) dX9_number_85 (by decide) (fun hc => ?_) (fun hc => ?_)
  · rw [if_neg hc] at h
    refine aw_iload_n (pc := 92) (q := 0) dX9_number_92 rfl ?_
    exact aw_sel [] rfl (w_x_Tape_number_93 N d  _ _ _ _ h)
  · rw [if_pos hc] at h
    refine aw_iconst (pc := 88) dX9_number_88 ⟨by decide, by decide⟩ ?_
    refine aw_goto (pc := 89) (tgt := 93) dX9_number_89 (by decide) ?_
    exact aw_sel [] rfl (w_x_Tape_number_93 N d  _ _ _ _ h)
def x_Tape_number_48 (N : Nat) (w : aw_W) : Option (Int × aw_W) :=
  some ((-1), w)
theorem w_x_Tape_number_48 {l : Launch} {K : aw_K} (N d : Nat) : ∀ (w : aw_W) (y : Int) (v : aw_W), x_Tape_number_48 N w = some (y, v) → aw_AW l K MX9_number (d) 48 [] [] w (some (.inl y), v) := by
  intro w y v h
  unfold x_Tape_number_48 at h
  refine aw_iconst (pc := 48) dX9_number_48 ⟨by decide, by decide⟩ ?_
  cases h
  exact aw_iret (pc := 49) rfl dX9_number_49
def x_Tape_number_4 (N : Nat) : Nat → Int → Int → Int → aw_W → Option (Int × aw_W)
  | 0, _, _, _, _ => none
  | n + 1, x1, x2, x3, w =>
    if (w 1 1) ≤ (w 1 2) then
      x_Tape_number_84 N x2 x3 w
    else
      if 0 ≤ (w 1 2) ∧ (w 1 2) < 160 then
        if (w 2 ((w 1 2).toNat)) < 48 then
          x_Tape_number_84 N x2 x3 w
        else
          if 0 ≤ (w 1 2) ∧ (w 1 2) < 160 then
            if 57 < (w 2 ((w 1 2).toNat)) then
              x_Tape_number_84 N x2 x3 w
            else
              if x3 = x1 then
                x_Tape_number_48 N w
              else
                if 0 ≤ (w 1 2) ∧ (w 1 2) < 160 then
                  x_Tape_number_4 N n x1 (aw_w ((aw_w ((aw_w (x2 * 10)) + (w 2 ((w 1 2).toNat)))) - 48)) (aw_w (x3 + 1)) (aw_up w 1 2 (aw_w ((w 1 2) + 1)))
                else none
          else none
      else none
theorem w_x_Tape_number_4 {l : Launch} {K : aw_K} (N d : Nat) : ∀ (n : Nat) (x1 x2 x3 : Int) (w : aw_W) (y : Int) (v : aw_W), x_Tape_number_4 N n x1 x2 x3 w = some (y, v) → aw_AW l K MX9_number (d) 4 [(0, .inr (.inr 1)), (1, .inl x1), (2, .inl x2), (3, .inl x3)] [] w (some (.inl y), v) := by
  intro n
  induction n with
  | zero => intro x1 x2 x3 w y v h; rw [x_Tape_number_4] at h; cases h
  | succ n ih =>
    intro x1 x2 x3 w y v h
    rw [x_Tape_number_4] at h
    refine aw_aload_n (pc := 4) (q := 0) dX9_number_4 rfl ?_
    refine aw_getf (pc := 5) (v := .inl (w 1 2)) dX9_number_5 fl_RX9_19 (by decide) rfl rfl rfl ?_
    refine aw_aload_n (pc := 8) (q := 0) dX9_number_8 rfl ?_
    refine aw_getf (pc := 9) (v := .inl (w 1 1)) dX9_number_9 fl_RX9_15 (by decide) rfl rfl rfl ?_
    refine aw_icmp_ge (pc := 12) (tgt := 84) dX9_number_12 (by decide) (fun hc => ?_) (fun hc => ?_)
    · rw [if_pos hc] at h
      exact aw_sel [2, 3] rfl (w_x_Tape_number_84 N d  _ _ _ _ _ h)
    · rw [if_neg hc] at h
      refine aw_aload_n (pc := 15) (q := 0) dX9_number_15 rfl ?_
      refine aw_getf (pc := 16) (v := .inr (.inr 2)) dX9_number_16 fl_RX9_9 (by decide) rfl rfl rfl ?_
      refine aw_aload_n (pc := 19) (q := 0) dX9_number_19 rfl ?_
      refine aw_getf (pc := 20) (v := .inl (w 1 2)) dX9_number_20 fl_RX9_19 (by decide) rfl rfl rfl ?_
      obtain ⟨hb, h⟩ := aw_cks h
      refine aw_ialdv (pc := 23) (v := w 2 ((w 1 2).toNat)) dX9_number_23 rfl hb.1 hb.2 rfl ?_
      refine aw_bipush (pc := 24) dX9_number_24 (by decide) ⟨by decide, by decide⟩ ?_
      refine aw_icmp_lt (pc := 26) (tgt := 84) dX9_number_26 (by decide) (fun hc => ?_) (fun hc => ?_)
      · rw [if_pos hc] at h
        exact aw_sel [2, 3] rfl (w_x_Tape_number_84 N d  _ _ _ _ _ h)
      · rw [if_neg hc] at h
        refine aw_aload_n (pc := 29) (q := 0) dX9_number_29 rfl ?_
        refine aw_getf (pc := 30) (v := .inr (.inr 2)) dX9_number_30 fl_RX9_9 (by decide) rfl rfl rfl ?_
        refine aw_aload_n (pc := 33) (q := 0) dX9_number_33 rfl ?_
        refine aw_getf (pc := 34) (v := .inl (w 1 2)) dX9_number_34 fl_RX9_19 (by decide) rfl rfl rfl ?_
        obtain ⟨hb, h⟩ := aw_cks h
        refine aw_ialdv (pc := 37) (v := w 2 ((w 1 2).toNat)) dX9_number_37 rfl hb.1 hb.2 rfl ?_
        refine aw_bipush (pc := 38) dX9_number_38 (by decide) ⟨by decide, by decide⟩ ?_
        refine aw_icmp_gt (pc := 40) (tgt := 84) dX9_number_40 (by decide) (fun hc => ?_) (fun hc => ?_)
        · rw [if_pos hc] at h
          exact aw_sel [2, 3] rfl (w_x_Tape_number_84 N d  _ _ _ _ _ h)
        · rw [if_neg hc] at h
          refine aw_iload_n (pc := 43) (q := 3) dX9_number_43 rfl ?_
          refine aw_iload_n (pc := 44) (q := 1) dX9_number_44 rfl ?_
          refine aw_icmp_ne (pc := 45) (tgt := 50) dX9_number_45 (by decide) (fun hc => ?_) (fun hc => ?_)
          · rw [if_neg hc] at h
            refine aw_iload_n (pc := 50) (q := 2) dX9_number_50 rfl ?_
            refine aw_bipush (pc := 51) dX9_number_51 (by decide) ⟨by decide, by decide⟩ ?_
            refine aw_imul (pc := 53) dX9_number_53 ?_
            refine aw_aload_n (pc := 54) (q := 0) dX9_number_54 rfl ?_
            refine aw_getf (pc := 55) (v := .inr (.inr 2)) dX9_number_55 fl_RX9_9 (by decide) rfl rfl rfl ?_
            refine aw_aload_n (pc := 58) (q := 0) dX9_number_58 rfl ?_
            refine aw_getf (pc := 59) (v := .inl (w 1 2)) dX9_number_59 fl_RX9_19 (by decide) rfl rfl rfl ?_
            obtain ⟨hb, h⟩ := aw_cks h
            refine aw_ialdv (pc := 62) (v := w 2 ((w 1 2).toNat)) dX9_number_62 rfl hb.1 hb.2 rfl ?_
            refine aw_iadd (pc := 63) dX9_number_63 ?_
            refine aw_bipush (pc := 64) dX9_number_64 (by decide) ⟨by decide, by decide⟩ ?_
            refine aw_isub (pc := 66) dX9_number_66 ?_
            refine aw_istore_n (pc := 67) (ls' := [(2, .inl (aw_w ((aw_w ((aw_w (x2 * 10)) + (w 2 ((w 1 2).toNat)))) - 48))), (0, .inr (.inr 1)), (1, .inl x1), (3, .inl x3)]) dX9_number_67 (by decide) rfl ?_
            refine aw_iinc (pc := 68) (q := 3) (ls' := [(3, .inl (aw_w (x3 + 1))), (2, .inl (aw_w ((aw_w ((aw_w (x2 * 10)) + (w 2 ((w 1 2).toNat)))) - 48))), (0, .inr (.inr 1)), (1, .inl x1)]) dX9_number_68 rfl (by decide) rfl ?_
            refine aw_aload_n (pc := 71) (q := 2) dX9_number_71 rfl ?_
            refine aw_dup (pc := 72) dX9_number_72 rfl ?_
            refine aw_getf (pc := 73) (v := .inl (w 1 2)) dX9_number_73 fl_RX9_19 (by decide) rfl rfl rfl ?_
            refine aw_iconst (pc := 76) dX9_number_76 ⟨by decide, by decide⟩ ?_
            refine aw_iadd (pc := 77) dX9_number_77 ?_
            refine aw_puti (pc := 78) dX9_number_78 fp_RX9_19 (by decide) rfl rfl ?_
            refine aw_goto (pc := 81) (tgt := 4) dX9_number_81 (by decide) ?_
            exact aw_sel [2, 3, 1, 0] rfl (ih _ _ _ _ _ _ h)
          · rw [if_pos hc] at h
            exact aw_sel [] rfl (w_x_Tape_number_48 N d  _ _ _ h)
def x_Tape_number (N : Nat) (x1 : Int) (w : aw_W) : Option (Int × aw_W) :=
  x_Tape_number_4 N N x1 0 0 w
theorem w_x_Tape_number {l : Launch} {K : aw_K} (N d : Nat) (hd : 0 ≤ d) : ∀ (x1 : Int) (w : aw_W) (y : Int) (v : aw_W), x_Tape_number N x1 w = some (y, v) → aw_Met l K MX9_number (d) [.inr (.inr 1), .inl x1] w (some (.inl y), v) := by
  intro x1 w y v h
  unfold x_Tape_number at h
  refine aw_enter rfl (Nat.le_of_ble_eq_true rfl) ?_
  show aw_AW l K MX9_number (d) 0 [(0, .inr (.inr 1)), (1, .inl x1)] [] w (some (.inl y), v)
  refine aw_iconst (pc := 0) dX9_number_0 ⟨by decide, by decide⟩ ?_
  refine aw_istore_n (pc := 1) (ls' := [(2, .inl 0), (0, .inr (.inr 1)), (1, .inl x1)]) dX9_number_1 (by decide) rfl ?_
  refine aw_iconst (pc := 2) dX9_number_2 ⟨by decide, by decide⟩ ?_
  refine aw_istore_n (pc := 3) (ls' := [(3, .inl 0), (2, .inl 0), (0, .inr (.inr 1)), (1, .inl x1)]) dX9_number_3 (by decide) rfl ?_
  exact aw_sel [2, 3, 1, 0] rfl (w_x_Tape_number_4 N d  N _ _ _ _ _ _ h)
theorem dX7_put_0 : decode cX7_put 0 = .ok (.aload_n 0, 1) := by decide +kernel
theorem dX7_put_1 : decode cX7_put 1 = .ok (.getfield 34, 3) := by decide +kernel
theorem dX7_put_4 : decode cX7_put 4 = .ok (.aload_n 0, 1) := by decide +kernel
theorem dX7_put_5 : decode cX7_put 5 = .ok (.getfield 18, 3) := by decide +kernel
theorem dX7_put_8 : decode cX7_put 8 = .ok (.arraylength, 1) := by decide +kernel
theorem dX7_put_9 : decode cX7_put 9 = .ok (.if_icmp .ge 23, 3) := by decide +kernel
theorem dX7_put_12 : decode cX7_put 12 = .ok (.aload_n 0, 1) := by decide +kernel
theorem dX7_put_13 : decode cX7_put 13 = .ok (.getfield 18, 3) := by decide +kernel
theorem dX7_put_16 : decode cX7_put 16 = .ok (.aload_n 0, 1) := by decide +kernel
theorem dX7_put_17 : decode cX7_put 17 = .ok (.getfield 34, 3) := by decide +kernel
theorem dX7_put_20 : decode cX7_put 20 = .ok (.iload_n 1, 1) := by decide +kernel
theorem dX7_put_21 : decode cX7_put 21 = .ok (.iastore, 1) := by decide +kernel
theorem dX7_put_22 : decode cX7_put 22 = .ok (.aload_n 0, 1) := by decide +kernel
theorem dX7_put_23 : decode cX7_put 23 = .ok (.dup, 1) := by decide +kernel
theorem dX7_put_24 : decode cX7_put 24 = .ok (.getfield 34, 3) := by decide +kernel
theorem dX7_put_27 : decode cX7_put 27 = .ok (.iconst 1, 1) := by decide +kernel
theorem dX7_put_28 : decode cX7_put 28 = .ok (.iadd, 1) := by decide +kernel
theorem dX7_put_29 : decode cX7_put 29 = .ok (.putfield 34, 3) := by decide +kernel
theorem dX7_put_32 : decode cX7_put 32 = .ok (.return_, 1) := by decide +kernel
def x_Rules_put_32 (N : Nat) (w : aw_W) : Option (aw_W) :=
  some w
theorem w_x_Rules_put_32 {l : Launch} {K : aw_K} (N d : Nat) : ∀ (w v : aw_W), x_Rules_put_32 N w = some v → aw_AW l K MX7_put (d) 32 [] [] w (none, v) := by
  intro w v h
  unfold x_Rules_put_32 at h
  cases h
  exact aw_vret (pc := 32) rfl dX7_put_32
def x_Rules_put (N : Nat) (x1 : Int) (w : aw_W) : Option (aw_W) :=
  if 160 ≤ (w 11 5) then
    x_Rules_put_32 N w
  else
    if 0 ≤ (w 11 5) ∧ (w 11 5) < 160 then
      x_Rules_put_32 N (aw_up (aw_up w 14 ((w 11 5).toNat) x1) 11 5 (aw_w ((w 11 5) + 1)))
    else none
theorem w_x_Rules_put {l : Launch} {K : aw_K} (N d : Nat) (hd : 0 ≤ d) : ∀ (x1 : Int) (w v : aw_W), x_Rules_put N x1 w = some v → aw_Met l K MX7_put (d) [.inr (.inr 11), .inl x1] w (none, v) := by
  intro x1 w v h
  unfold x_Rules_put at h
  refine aw_enter rfl (Nat.le_of_ble_eq_true rfl) ?_
  show aw_AW l K MX7_put (d) 0 [(0, .inr (.inr 11)), (1, .inl x1)] [] w (none, v)
  refine aw_aload_n (pc := 0) (q := 0) dX7_put_0 rfl ?_
  refine aw_getf (pc := 1) (v := .inl (w 11 5)) dX7_put_1 fl_RX7_34 (by decide) rfl rfl rfl ?_
  refine aw_aload_n (pc := 4) (q := 0) dX7_put_4 rfl ?_
  refine aw_getf (pc := 5) (v := .inr (.inr 14)) dX7_put_5 fl_RX7_18 (by decide) rfl rfl rfl ?_
  refine aw_alenv (pc := 8) (x := 160) dX7_put_8 (by decide) rfl (by decide) rfl ⟨by decide, by decide⟩ ?_
  refine aw_icmp_ge (pc := 9) (tgt := 32) dX7_put_9 (by decide) (fun hc => ?_) (fun hc => ?_)
  · rw [if_pos hc] at h
    exact aw_sel [] rfl (w_x_Rules_put_32 N d  _ _ h)
  · rw [if_neg hc] at h
    refine aw_aload_n (pc := 12) (q := 0) dX7_put_12 rfl ?_
    refine aw_getf (pc := 13) (v := .inr (.inr 14)) dX7_put_13 fl_RX7_18 (by decide) rfl rfl rfl ?_
    refine aw_aload_n (pc := 16) (q := 0) dX7_put_16 rfl ?_
    refine aw_getf (pc := 17) (v := .inl (w 11 5)) dX7_put_17 fl_RX7_34 (by decide) rfl rfl rfl ?_
    refine aw_iload_n (pc := 20) (q := 1) dX7_put_20 rfl ?_
    obtain ⟨hb, h⟩ := aw_cks h
    refine aw_iast (pc := 21) dX7_put_21 rfl hb.1 hb.2 ?_
    refine aw_aload_n (pc := 22) (q := 0) dX7_put_22 rfl ?_
    refine aw_dup (pc := 23) dX7_put_23 rfl ?_
    refine aw_getf (pc := 24) (v := .inl (w 11 5)) dX7_put_24 fl_RX7_34 (by decide) rfl rfl rfl ?_
    refine aw_iconst (pc := 27) dX7_put_27 ⟨by decide, by decide⟩ ?_
    refine aw_iadd (pc := 28) dX7_put_28 ?_
    refine aw_puti (pc := 29) dX7_put_29 fp_RX7_34 (by decide) rfl rfl ?_
    exact aw_sel [] rfl (w_x_Rules_put_32 N d  _ _ h)
theorem dX7_readAtom_0 : decode cX7_readAtom 0 = .ok (.aload_n 1, 1) := by decide +kernel
theorem dX7_readAtom_1 : decode cX7_readAtom 1 = .ok (.invokevirtual 56, 3) := by decide +kernel
theorem dX7_readAtom_4 : decode cX7_readAtom 4 = .ok (.istore_n 3, 1) := by decide +kernel
theorem dX7_readAtom_5 : decode cX7_readAtom 5 = .ok (.iload_n 3, 1) := by decide +kernel
theorem dX7_readAtom_6 : decode cX7_readAtom 6 = .ok (.bipush 91, 2) := by decide +kernel
theorem dX7_readAtom_8 : decode cX7_readAtom 8 = .ok (.if_icmp .ne 47, 3) := by decide +kernel
theorem dX7_readAtom_11 : decode cX7_readAtom 11 = .ok (.iload_n 2, 1) := by decide +kernel
theorem dX7_readAtom_12 : decode cX7_readAtom 12 = .ok (.bipush 6, 2) := by decide +kernel
theorem dX7_readAtom_14 : decode cX7_readAtom 14 = .ok (.if_icmp .lt 5, 3) := by decide +kernel
theorem dX7_readAtom_17 : decode cX7_readAtom 17 = .ok (.iconst 0, 1) := by decide +kernel
theorem dX7_readAtom_18 : decode cX7_readAtom 18 = .ok (.ireturn, 1) := by decide +kernel
theorem dX7_readAtom_19 : decode cX7_readAtom 19 = .ok (.aload_n 1, 1) := by decide +kernel
theorem dX7_readAtom_20 : decode cX7_readAtom 20 = .ok (.dup, 1) := by decide +kernel
theorem dX7_readAtom_21 : decode cX7_readAtom 21 = .ok (.getfield 43, 3) := by decide +kernel
theorem dX7_readAtom_24 : decode cX7_readAtom 24 = .ok (.iconst 1, 1) := by decide +kernel
theorem dX7_readAtom_25 : decode cX7_readAtom 25 = .ok (.iadd, 1) := by decide +kernel
theorem dX7_readAtom_26 : decode cX7_readAtom 26 = .ok (.putfield 43, 3) := by decide +kernel
theorem dX7_readAtom_29 : decode cX7_readAtom 29 = .ok (.aload_n 0, 1) := by decide +kernel
theorem dX7_readAtom_30 : decode cX7_readAtom 30 = .ok (.aload_n 1, 1) := by decide +kernel
theorem dX7_readAtom_31 : decode cX7_readAtom 31 = .ok (.iload_n 2, 1) := by decide +kernel
theorem dX7_readAtom_32 : decode cX7_readAtom 32 = .ok (.iconst 1, 1) := by decide +kernel
theorem dX7_readAtom_33 : decode cX7_readAtom 33 = .ok (.iadd, 1) := by decide +kernel
theorem dX7_readAtom_34 : decode cX7_readAtom 34 = .ok (.invokevirtual 60, 3) := by decide +kernel
theorem dX7_readAtom_37 : decode cX7_readAtom 37 = .ok (.ifCond .eq 16, 3) := by decide +kernel
theorem dX7_readAtom_40 : decode cX7_readAtom 40 = .ok (.aload_n 1, 1) := by decide +kernel
theorem dX7_readAtom_41 : decode cX7_readAtom 41 = .ok (.bipush 93, 2) := by decide +kernel
theorem dX7_readAtom_43 : decode cX7_readAtom 43 = .ok (.invokevirtual 52, 3) := by decide +kernel
theorem dX7_readAtom_46 : decode cX7_readAtom 46 = .ok (.ifCond .eq 7, 3) := by decide +kernel
theorem dX7_readAtom_49 : decode cX7_readAtom 49 = .ok (.iconst 1, 1) := by decide +kernel
theorem dX7_readAtom_50 : decode cX7_readAtom 50 = .ok (.goto 4, 3) := by decide +kernel
theorem dX7_readAtom_53 : decode cX7_readAtom 53 = .ok (.iconst 0, 1) := by decide +kernel
theorem dX7_readAtom_54 : decode cX7_readAtom 54 = .ok (.ireturn, 1) := by decide +kernel
theorem dX7_readAtom_55 : decode cX7_readAtom 55 = .ok (.getstatic 24, 3) := by decide +kernel
theorem dX7_readAtom_58 : decode cX7_readAtom 58 = .ok (.iload_n 3, 1) := by decide +kernel
theorem dX7_readAtom_59 : decode cX7_readAtom 59 = .ok (.invokestatic 85, 3) := by decide +kernel
theorem dX7_readAtom_62 : decode cX7_readAtom 62 = .ok (.istore 4, 2) := by decide +kernel
theorem dX7_readAtom_64 : decode cX7_readAtom 64 = .ok (.iload 4, 2) := by decide +kernel
theorem dX7_readAtom_66 : decode cX7_readAtom 66 = .ok (.iconst (-1), 1) := by decide +kernel
theorem dX7_readAtom_67 : decode cX7_readAtom 67 = .ok (.if_icmp .eq 23, 3) := by decide +kernel
theorem dX7_readAtom_70 : decode cX7_readAtom 70 = .ok (.aload_n 1, 1) := by decide +kernel
theorem dX7_readAtom_71 : decode cX7_readAtom 71 = .ok (.dup, 1) := by decide +kernel
theorem dX7_readAtom_72 : decode cX7_readAtom 72 = .ok (.getfield 43, 3) := by decide +kernel
theorem dX7_readAtom_75 : decode cX7_readAtom 75 = .ok (.iconst 1, 1) := by decide +kernel
theorem dX7_readAtom_76 : decode cX7_readAtom 76 = .ok (.iadd, 1) := by decide +kernel
theorem dX7_readAtom_77 : decode cX7_readAtom 77 = .ok (.putfield 43, 3) := by decide +kernel
theorem dX7_readAtom_80 : decode cX7_readAtom 80 = .ok (.aload_n 0, 1) := by decide +kernel
theorem dX7_readAtom_81 : decode cX7_readAtom 81 = .ok (.iconst (-1), 1) := by decide +kernel
theorem dX7_readAtom_82 : decode cX7_readAtom 82 = .ok (.iload 4, 2) := by decide +kernel
theorem dX7_readAtom_84 : decode cX7_readAtom 84 = .ok (.isub, 1) := by decide +kernel
theorem dX7_readAtom_85 : decode cX7_readAtom 85 = .ok (.invokevirtual 71, 3) := by decide +kernel
theorem dX7_readAtom_88 : decode cX7_readAtom 88 = .ok (.iconst 1, 1) := by decide +kernel
theorem dX7_readAtom_89 : decode cX7_readAtom 89 = .ok (.ireturn, 1) := by decide +kernel
theorem dX7_readAtom_90 : decode cX7_readAtom 90 = .ok (.aload_n 1, 1) := by decide +kernel
theorem dX7_readAtom_91 : decode cX7_readAtom 91 = .ok (.iconst 4, 1) := by decide +kernel
theorem dX7_readAtom_92 : decode cX7_readAtom 92 = .ok (.invokevirtual 89, 3) := by decide +kernel
theorem dX7_readAtom_95 : decode cX7_readAtom 95 = .ok (.istore 5, 2) := by decide +kernel
theorem dX7_readAtom_97 : decode cX7_readAtom 97 = .ok (.iload 5, 2) := by decide +kernel
theorem dX7_readAtom_99 : decode cX7_readAtom 99 = .ok (.iconst (-1), 1) := by decide +kernel
theorem dX7_readAtom_100 : decode cX7_readAtom 100 = .ok (.if_icmp .ne 5, 3) := by decide +kernel
theorem dX7_readAtom_103 : decode cX7_readAtom 103 = .ok (.iconst 0, 1) := by decide +kernel
theorem dX7_readAtom_104 : decode cX7_readAtom 104 = .ok (.ireturn, 1) := by decide +kernel
theorem dX7_readAtom_105 : decode cX7_readAtom 105 = .ok (.aload_n 0, 1) := by decide +kernel
theorem dX7_readAtom_106 : decode cX7_readAtom 106 = .ok (.iload 5, 2) := by decide +kernel
theorem dX7_readAtom_108 : decode cX7_readAtom 108 = .ok (.invokevirtual 71, 3) := by decide +kernel
theorem dX7_readAtom_111 : decode cX7_readAtom 111 = .ok (.iconst 1, 1) := by decide +kernel
theorem dX7_readAtom_112 : decode cX7_readAtom 112 = .ok (.ireturn, 1) := by decide +kernel
theorem dX7_readSum_0 : decode cX7_readSum 0 = .ok (.aload_n 0, 1) := by decide +kernel
theorem dX7_readSum_1 : decode cX7_readSum 1 = .ok (.aload_n 1, 1) := by decide +kernel
theorem dX7_readSum_2 : decode cX7_readSum 2 = .ok (.iload_n 2, 1) := by decide +kernel
theorem dX7_readSum_3 : decode cX7_readSum 3 = .ok (.invokevirtual 82, 3) := by decide +kernel
theorem dX7_readSum_6 : decode cX7_readSum 6 = .ok (.ifCond .ne 5, 3) := by decide +kernel
theorem dX7_readSum_9 : decode cX7_readSum 9 = .ok (.iconst 0, 1) := by decide +kernel
theorem dX7_readSum_10 : decode cX7_readSum 10 = .ok (.ireturn, 1) := by decide +kernel
theorem dX7_readSum_11 : decode cX7_readSum 11 = .ok (.iconst 0, 1) := by decide +kernel
theorem dX7_readSum_12 : decode cX7_readSum 12 = .ok (.istore_n 3, 1) := by decide +kernel
theorem dX7_readSum_13 : decode cX7_readSum 13 = .ok (.iconst 0, 1) := by decide +kernel
theorem dX7_readSum_14 : decode cX7_readSum 14 = .ok (.istore 4, 2) := by decide +kernel
theorem dX7_readSum_16 : decode cX7_readSum 16 = .ok (.iload 4, 2) := by decide +kernel
theorem dX7_readSum_18 : decode cX7_readSum 18 = .ok (.sipush 160, 3) := by decide +kernel
theorem dX7_readSum_21 : decode cX7_readSum 21 = .ok (.if_icmp .ge 109, 3) := by decide +kernel
theorem dX7_readSum_24 : decode cX7_readSum 24 = .ok (.aload_n 1, 1) := by decide +kernel
theorem dX7_readSum_25 : decode cX7_readSum 25 = .ok (.invokevirtual 56, 3) := by decide +kernel
theorem dX7_readSum_28 : decode cX7_readSum 28 = .ok (.istore 5, 2) := by decide +kernel
theorem dX7_readSum_30 : decode cX7_readSum 30 = .ok (.iload 5, 2) := by decide +kernel
theorem dX7_readSum_32 : decode cX7_readSum 32 = .ok (.bipush 43, 2) := by decide +kernel
theorem dX7_readSum_34 : decode cX7_readSum 34 = .ok (.if_icmp .eq 10, 3) := by decide +kernel
theorem dX7_readSum_37 : decode cX7_readSum 37 = .ok (.iload 5, 2) := by decide +kernel
theorem dX7_readSum_39 : decode cX7_readSum 39 = .ok (.bipush 45, 2) := by decide +kernel
theorem dX7_readSum_41 : decode cX7_readSum 41 = .ok (.if_icmp .ne 7, 3) := by decide +kernel
theorem dX7_readSum_44 : decode cX7_readSum 44 = .ok (.iconst 1, 1) := by decide +kernel
theorem dX7_readSum_45 : decode cX7_readSum 45 = .ok (.goto 4, 3) := by decide +kernel
theorem dX7_readSum_48 : decode cX7_readSum 48 = .ok (.iconst 0, 1) := by decide +kernel
theorem dX7_readSum_49 : decode cX7_readSum 49 = .ok (.istore 6, 2) := by decide +kernel
theorem dX7_readSum_51 : decode cX7_readSum 51 = .ok (.iload 6, 2) := by decide +kernel
theorem dX7_readSum_53 : decode cX7_readSum 53 = .ok (.ifCond .ne 20, 3) := by decide +kernel
theorem dX7_readSum_56 : decode cX7_readSum 56 = .ok (.iload 5, 2) := by decide +kernel
theorem dX7_readSum_58 : decode cX7_readSum 58 = .ok (.bipush 42, 2) := by decide +kernel
theorem dX7_readSum_60 : decode cX7_readSum 60 = .ok (.if_icmp .eq 13, 3) := by decide +kernel
theorem dX7_readSum_63 : decode cX7_readSum 63 = .ok (.iload 5, 2) := by decide +kernel
theorem dX7_readSum_65 : decode cX7_readSum 65 = .ok (.bipush 47, 2) := by decide +kernel
theorem dX7_readSum_67 : decode cX7_readSum 67 = .ok (.if_icmp .eq 6, 3) := by decide +kernel
theorem dX7_readSum_70 : decode cX7_readSum 70 = .ok (.goto 60, 3) := by decide +kernel
theorem dX7_readSum_73 : decode cX7_readSum 73 = .ok (.aload_n 1, 1) := by decide +kernel
theorem dX7_readSum_74 : decode cX7_readSum 74 = .ok (.dup, 1) := by decide +kernel
theorem dX7_readSum_75 : decode cX7_readSum 75 = .ok (.getfield 43, 3) := by decide +kernel
theorem dX7_readSum_78 : decode cX7_readSum 78 = .ok (.iconst 1, 1) := by decide +kernel
theorem dX7_readSum_79 : decode cX7_readSum 79 = .ok (.iadd, 1) := by decide +kernel
theorem dX7_readSum_80 : decode cX7_readSum 80 = .ok (.putfield 43, 3) := by decide +kernel
theorem dX7_readSum_83 : decode cX7_readSum 83 = .ok (.iload 6, 2) := by decide +kernel
theorem dX7_readSum_85 : decode cX7_readSum 85 = .ok (.ifCond .eq 16, 3) := by decide +kernel
theorem dX7_readSum_88 : decode cX7_readSum 88 = .ok (.iload_n 3, 1) := by decide +kernel
theorem dX7_readSum_89 : decode cX7_readSum 89 = .ok (.ifCond .eq 9, 3) := by decide +kernel
theorem dX7_readSum_92 : decode cX7_readSum 92 = .ok (.aload_n 0, 1) := by decide +kernel
theorem dX7_readSum_93 : decode cX7_readSum 93 = .ok (.iload_n 3, 1) := by decide +kernel
theorem dX7_readSum_94 : decode cX7_readSum 94 = .ok (.ineg, 1) := by decide +kernel
theorem dX7_readSum_95 : decode cX7_readSum 95 = .ok (.invokevirtual 71, 3) := by decide +kernel
theorem dX7_readSum_98 : decode cX7_readSum 98 = .ok (.iload 5, 2) := by decide +kernel
theorem dX7_readSum_100 : decode cX7_readSum 100 = .ok (.istore_n 3, 1) := by decide +kernel
theorem dX7_readSum_101 : decode cX7_readSum 101 = .ok (.aload_n 0, 1) := by decide +kernel
theorem dX7_readSum_102 : decode cX7_readSum 102 = .ok (.aload_n 1, 1) := by decide +kernel
theorem dX7_readSum_103 : decode cX7_readSum 103 = .ok (.iload_n 2, 1) := by decide +kernel
theorem dX7_readSum_104 : decode cX7_readSum 104 = .ok (.invokevirtual 82, 3) := by decide +kernel
theorem dX7_readSum_107 : decode cX7_readSum 107 = .ok (.ifCond .ne 5, 3) := by decide +kernel
theorem dX7_readSum_110 : decode cX7_readSum 110 = .ok (.iconst 0, 1) := by decide +kernel
theorem dX7_readSum_111 : decode cX7_readSum 111 = .ok (.ireturn, 1) := by decide +kernel
theorem dX7_readSum_112 : decode cX7_readSum 112 = .ok (.iload 6, 2) := by decide +kernel
theorem dX7_readSum_114 : decode cX7_readSum 114 = .ok (.ifCond .ne 10, 3) := by decide +kernel
theorem dX7_readSum_117 : decode cX7_readSum 117 = .ok (.aload_n 0, 1) := by decide +kernel
theorem dX7_readSum_118 : decode cX7_readSum 118 = .ok (.iload 5, 2) := by decide +kernel
theorem dX7_readSum_120 : decode cX7_readSum 120 = .ok (.ineg, 1) := by decide +kernel
theorem dX7_readSum_121 : decode cX7_readSum 121 = .ok (.invokevirtual 71, 3) := by decide +kernel
theorem dX7_readSum_124 : decode cX7_readSum 124 = .ok (.iinc 4 1, 3) := by decide +kernel
theorem dX7_readSum_127 : decode cX7_readSum 127 = .ok (.goto (-111), 3) := by decide +kernel
theorem dX7_readSum_130 : decode cX7_readSum 130 = .ok (.iload_n 3, 1) := by decide +kernel
theorem dX7_readSum_131 : decode cX7_readSum 131 = .ok (.ifCond .eq 9, 3) := by decide +kernel
theorem dX7_readSum_134 : decode cX7_readSum 134 = .ok (.aload_n 0, 1) := by decide +kernel
theorem dX7_readSum_135 : decode cX7_readSum 135 = .ok (.iload_n 3, 1) := by decide +kernel
theorem dX7_readSum_136 : decode cX7_readSum 136 = .ok (.ineg, 1) := by decide +kernel
theorem dX7_readSum_137 : decode cX7_readSum 137 = .ok (.invokevirtual 71, 3) := by decide +kernel
theorem dX7_readSum_140 : decode cX7_readSum 140 = .ok (.iconst 1, 1) := by decide +kernel
theorem dX7_readSum_141 : decode cX7_readSum 141 = .ok (.ireturn, 1) := by decide +kernel
def x_Rules_readAtom_54 (c_x_Rules_readAtom : Int → aw_W → Option (Int × aw_W)) (c_x_Rules_readSum : Int → aw_W → Option (Int × aw_W)) (N : Nat) (s0 : Int) (w : aw_W) : Option (Int × aw_W) :=
  if s0 = 0 ∨ s0 = 1 then
    some (s0, w)
  else none
theorem w_x_Rules_readAtom_54 {l : Launch} {K : aw_K} (N d : Nat) (hd : 1 ≤ d) (c_x_Rules_readAtom : Int → aw_W → Option (Int × aw_W)) (c_x_Rules_readSum : Int → aw_W → Option (Int × aw_W)) (hc_x_Rules_readAtom : ∀ (x2 : Int) (w : aw_W) (y : Int) (v : aw_W), c_x_Rules_readAtom x2 w = some (y, v) → aw_Met l K MX7_readAtom (d) [.inr (.inr 11), .inr (.inr 1), .inl x2] w (some (.inl y), v)) (hc_x_Rules_readSum : ∀ (x2 : Int) (w : aw_W) (y : Int) (v : aw_W), c_x_Rules_readSum x2 w = some (y, v) → aw_Met l K MX7_readSum (d) [.inr (.inr 11), .inr (.inr 1), .inl x2] w (some (.inl y), v)) : ∀ (s0 : Int) (w : aw_W) (y : Int) (v : aw_W), x_Rules_readAtom_54 c_x_Rules_readAtom c_x_Rules_readSum N s0 w = some (y, v) → aw_AW l K MX7_readAtom (d + 1) 54 [] [.inl s0] w (some (.inl y), v) := by
  intro s0 w y v h
  unfold x_Rules_readAtom_54 at h
  obtain ⟨hz, h⟩ := aw_cks h
  cases h
  exact aw_zret (pc := 54) rfl hz dX7_readAtom_54
def x_Rules_readAtom_53 (c_x_Rules_readAtom : Int → aw_W → Option (Int × aw_W)) (c_x_Rules_readSum : Int → aw_W → Option (Int × aw_W)) (N : Nat) (w : aw_W) : Option (Int × aw_W) :=
  x_Rules_readAtom_54 c_x_Rules_readAtom c_x_Rules_readSum N 0 w
theorem w_x_Rules_readAtom_53 {l : Launch} {K : aw_K} (N d : Nat) (hd : 1 ≤ d) (c_x_Rules_readAtom : Int → aw_W → Option (Int × aw_W)) (c_x_Rules_readSum : Int → aw_W → Option (Int × aw_W)) (hc_x_Rules_readAtom : ∀ (x2 : Int) (w : aw_W) (y : Int) (v : aw_W), c_x_Rules_readAtom x2 w = some (y, v) → aw_Met l K MX7_readAtom (d) [.inr (.inr 11), .inr (.inr 1), .inl x2] w (some (.inl y), v)) (hc_x_Rules_readSum : ∀ (x2 : Int) (w : aw_W) (y : Int) (v : aw_W), c_x_Rules_readSum x2 w = some (y, v) → aw_Met l K MX7_readSum (d) [.inr (.inr 11), .inr (.inr 1), .inl x2] w (some (.inl y), v)) : ∀ (w : aw_W) (y : Int) (v : aw_W), x_Rules_readAtom_53 c_x_Rules_readAtom c_x_Rules_readSum N w = some (y, v) → aw_AW l K MX7_readAtom (d + 1) 53 [] [] w (some (.inl y), v) := by
  intro w y v h
  unfold x_Rules_readAtom_53 at h
  refine aw_iconst (pc := 53) dX7_readAtom_53 ⟨by decide, by decide⟩ ?_
  exact aw_sel [] rfl (w_x_Rules_readAtom_54 N d hd c_x_Rules_readAtom c_x_Rules_readSum hc_x_Rules_readAtom hc_x_Rules_readSum  _ _ _ _ h)
def x_Rules_readAtom_b (c_x_Rules_readAtom : Int → aw_W → Option (Int × aw_W)) (c_x_Rules_readSum : Int → aw_W → Option (Int × aw_W)) (N : Nat) (x2 : Int) (w : aw_W) : Option (Int × aw_W) :=
  aw_b2 (x_Tape_sign N w) fun r1 w1 =>
    if r1 = 91 then
      if x2 < 6 then
        aw_b2 (c_x_Rules_readSum (aw_w (x2 + 1)) (aw_up w1 1 2 (aw_w ((w1 1 2) + 1)))) fun r6 w6 =>
          if r6 = 0 then
            x_Rules_readAtom_53 c_x_Rules_readAtom c_x_Rules_readSum N w6
          else
            aw_b2 (x_Tape_take N 93 w6) fun r7 w7 =>
              if r7 = 0 then
                x_Rules_readAtom_53 c_x_Rules_readAtom c_x_Rules_readSum N w7
              else
                x_Rules_readAtom_54 c_x_Rules_readAtom c_x_Rules_readSum N 1 w7
      else
        some (0, w1)
    else
      aw_b2 (x_indexIn N r1 w1) fun r2 w2 =>
        if r2 = (-1) then
          aw_b2 (x_Tape_number N 4 w2) fun r3 w3 =>
            if r3 = (-1) then
              some (0, w3)
            else
              aw_b1 (x_Rules_put N r3 w3) fun w4 =>
                some (1, w4)
        else
          aw_b1 (x_Rules_put N (aw_w ((-1) - r2)) (aw_up w2 1 2 (aw_w ((w2 1 2) + 1)))) fun w5 =>
            some (1, w5)
theorem w_x_Rules_readAtom_b {l : Launch} {K : aw_K} (N d : Nat) (hd : 1 ≤ d) (c_x_Rules_readAtom : Int → aw_W → Option (Int × aw_W)) (c_x_Rules_readSum : Int → aw_W → Option (Int × aw_W)) (hc_x_Rules_readAtom : ∀ (x2 : Int) (w : aw_W) (y : Int) (v : aw_W), c_x_Rules_readAtom x2 w = some (y, v) → aw_Met l K MX7_readAtom (d) [.inr (.inr 11), .inr (.inr 1), .inl x2] w (some (.inl y), v)) (hc_x_Rules_readSum : ∀ (x2 : Int) (w : aw_W) (y : Int) (v : aw_W), c_x_Rules_readSum x2 w = some (y, v) → aw_Met l K MX7_readSum (d) [.inr (.inr 11), .inr (.inr 1), .inl x2] w (some (.inl y), v)) : ∀ (x2 : Int) (w : aw_W) (y : Int) (v : aw_W), x_Rules_readAtom_b c_x_Rules_readAtom c_x_Rules_readSum N x2 w = some (y, v) → aw_Met l K MX7_readAtom (d + 1) [.inr (.inr 11), .inr (.inr 1), .inl x2] w (some (.inl y), v) := by
  intro x2 w y v h
  unfold x_Rules_readAtom_b at h
  refine aw_enter rfl (Nat.le_of_ble_eq_true rfl) ?_
  show aw_AW l K MX7_readAtom (d + 1) 0 [(0, .inr (.inr 11)), (1, .inr (.inr 1)), (2, .inl x2)] [] w (some (.inl y), v)
  refine aw_aload_n (pc := 0) (q := 1) dX7_readAtom_0 rfl ?_
  obtain ⟨r1, w1, h1, h⟩ := aw_b2s h
  refine aw_callV (pc := 1) (as := []) (st := []) (st' := [.inl r1]) dX7_readAtom_1 cv_RX7_56 (by decide) rfl rfl rfl rfl (Nat.le_of_ble_eq_true rfl) (w_x_Tape_sign N d (by omega) _ _ _ h1) rfl ?_
  refine aw_istore_n (pc := 4) (ls' := [(3, .inl r1), (0, .inr (.inr 11)), (1, .inr (.inr 1)), (2, .inl x2)]) dX7_readAtom_4 (by decide) rfl ?_
  refine aw_iload_n (pc := 5) (q := 0) dX7_readAtom_5 rfl ?_
  refine aw_bipush (pc := 6) dX7_readAtom_6 (by decide) ⟨by decide, by decide⟩ ?_
  refine aw_icmp_ne (pc := 8) (tgt := 55) dX7_readAtom_8 (by decide) (fun hc => ?_) (fun hc => ?_)
  · rw [if_neg hc] at h
    refine aw_gets (pc := 55) (j := 8) dX7_readAtom_55 rfl fs_RX7_24 ?_
    refine aw_iload_n (pc := 58) (q := 0) dX7_readAtom_58 rfl ?_
    obtain ⟨r2, w2, h2, h⟩ := aw_b2s h
    refine aw_callN (pc := 59) (as := [.inr (.inr 208), .inl r1]) (st := []) (st' := [.inl r2]) dX7_readAtom_59 cn_RX7_85 rfl rfl (Nat.le_of_ble_eq_true rfl) (w_x_indexIn N d (by omega) _ _ _ _ h2) rfl ?_
    refine aw_istore (pc := 62) (ls' := [(4, .inl r2), (3, .inl r1), (0, .inr (.inr 11)), (1, .inr (.inr 1)), (2, .inl x2)]) dX7_readAtom_62 (by decide) rfl ?_
    refine aw_iload (pc := 64) (q := 0) dX7_readAtom_64 rfl ?_
    refine aw_iconst (pc := 66) dX7_readAtom_66 ⟨by decide, by decide⟩ ?_
    refine aw_icmp_eq (pc := 67) (tgt := 90) dX7_readAtom_67 (by decide) (fun hc => ?_) (fun hc => ?_)
    · rw [if_pos hc] at h
      refine aw_aload_n (pc := 90) (q := 3) dX7_readAtom_90 rfl ?_
      refine aw_iconst (pc := 91) dX7_readAtom_91 ⟨by decide, by decide⟩ ?_
      obtain ⟨r3, w3, h3, h⟩ := aw_b2s h
      refine aw_callV (pc := 92) (as := [.inl 4]) (st := []) (st' := [.inl r3]) dX7_readAtom_92 cv_RX7_89 (by decide) rfl rfl rfl rfl (Nat.le_of_ble_eq_true rfl) (w_x_Tape_number N d (by omega) _ _ _ _ h3) rfl ?_
      refine aw_istore (pc := 95) (ls' := [(5, .inl r3), (4, .inl r2), (3, .inl r1), (0, .inr (.inr 11)), (1, .inr (.inr 1)), (2, .inl x2)]) dX7_readAtom_95 (by decide) rfl ?_
      refine aw_iload (pc := 97) (q := 0) dX7_readAtom_97 rfl ?_
      refine aw_iconst (pc := 99) dX7_readAtom_99 ⟨by decide, by decide⟩ ?_
      refine aw_icmp_ne (pc := 100) (tgt := 105) dX7_readAtom_100 (by decide) (fun hc => ?_) (fun hc => ?_)
      · rw [if_neg hc] at h
        refine aw_aload_n (pc := 105) (q := 3) dX7_readAtom_105 rfl ?_
        refine aw_iload (pc := 106) (q := 0) dX7_readAtom_106 rfl ?_
        obtain ⟨w4, h4, h⟩ := aw_b1s h
        refine aw_callV (pc := 108) (as := [.inl r3]) (st := []) (st' := []) dX7_readAtom_108 cv_RX7_71 (by decide) rfl rfl rfl rfl (Nat.le_of_ble_eq_true rfl) (w_x_Rules_put N d (by omega) _ _ _ h4) rfl ?_
        refine aw_iconst (pc := 111) dX7_readAtom_111 ⟨by decide, by decide⟩ ?_
        cases h
        exact aw_zret (pc := 112) rfl (by decide) dX7_readAtom_112
      · rw [if_pos hc] at h
        refine aw_iconst (pc := 103) dX7_readAtom_103 ⟨by decide, by decide⟩ ?_
        cases h
        exact aw_zret (pc := 104) rfl (by decide) dX7_readAtom_104
    · rw [if_neg hc] at h
      refine aw_aload_n (pc := 70) (q := 3) dX7_readAtom_70 rfl ?_
      refine aw_dup (pc := 71) dX7_readAtom_71 rfl ?_
      refine aw_getf (pc := 72) (v := .inl (w2 1 2)) dX7_readAtom_72 fl_RX7_43 (by decide) rfl rfl rfl ?_
      refine aw_iconst (pc := 75) dX7_readAtom_75 ⟨by decide, by decide⟩ ?_
      refine aw_iadd (pc := 76) dX7_readAtom_76 ?_
      refine aw_puti (pc := 77) dX7_readAtom_77 fp_RX7_43 (by decide) rfl rfl ?_
      refine aw_aload_n (pc := 80) (q := 2) dX7_readAtom_80 rfl ?_
      refine aw_iconst (pc := 81) dX7_readAtom_81 ⟨by decide, by decide⟩ ?_
      refine aw_iload (pc := 82) (q := 0) dX7_readAtom_82 rfl ?_
      refine aw_isub (pc := 84) dX7_readAtom_84 ?_
      obtain ⟨w5, h5, h⟩ := aw_b1s h
      refine aw_callV (pc := 85) (as := [.inl (aw_w ((-1) - r2))]) (st := []) (st' := []) dX7_readAtom_85 cv_RX7_71 (by decide) rfl rfl rfl rfl (Nat.le_of_ble_eq_true rfl) (w_x_Rules_put N d (by omega) _ _ _ h5) rfl ?_
      refine aw_iconst (pc := 88) dX7_readAtom_88 ⟨by decide, by decide⟩ ?_
      cases h
      exact aw_zret (pc := 89) rfl (by decide) dX7_readAtom_89
  · rw [if_pos hc] at h
    refine aw_iload_n (pc := 11) (q := 3) dX7_readAtom_11 rfl ?_
    refine aw_bipush (pc := 12) dX7_readAtom_12 (by decide) ⟨by decide, by decide⟩ ?_
    refine aw_icmp_lt (pc := 14) (tgt := 19) dX7_readAtom_14 (by decide) (fun hc => ?_) (fun hc => ?_)
    · rw [if_pos hc] at h
      refine aw_aload_n (pc := 19) (q := 2) dX7_readAtom_19 rfl ?_
      refine aw_dup (pc := 20) dX7_readAtom_20 rfl ?_
      refine aw_getf (pc := 21) (v := .inl (w1 1 2)) dX7_readAtom_21 fl_RX7_43 (by decide) rfl rfl rfl ?_
      refine aw_iconst (pc := 24) dX7_readAtom_24 ⟨by decide, by decide⟩ ?_
      refine aw_iadd (pc := 25) dX7_readAtom_25 ?_
      refine aw_puti (pc := 26) dX7_readAtom_26 fp_RX7_43 (by decide) rfl rfl ?_
      refine aw_aload_n (pc := 29) (q := 1) dX7_readAtom_29 rfl ?_
      refine aw_aload_n (pc := 30) (q := 2) dX7_readAtom_30 rfl ?_
      refine aw_iload_n (pc := 31) (q := 3) dX7_readAtom_31 rfl ?_
      refine aw_iconst (pc := 32) dX7_readAtom_32 ⟨by decide, by decide⟩ ?_
      refine aw_iadd (pc := 33) dX7_readAtom_33 ?_
      obtain ⟨r6, w6, h6, h⟩ := aw_b2s h
      refine aw_callV (pc := 34) (as := [.inr (.inr 1), .inl (aw_w (x2 + 1))]) (st := []) (st' := [.inl r6]) dX7_readAtom_34 cv_RX7_60 (by decide) rfl rfl rfl rfl (Nat.le_of_ble_eq_true rfl) (hc_x_Rules_readSum _ _ _ _ h6) rfl ?_
      refine aw_if_eq (pc := 37) (tgt := 53) dX7_readAtom_37 (by decide) (fun hc => ?_) (fun hc => ?_)
      · rw [if_pos hc] at h
        exact aw_sel [] rfl (w_x_Rules_readAtom_53 N d hd c_x_Rules_readAtom c_x_Rules_readSum hc_x_Rules_readAtom hc_x_Rules_readSum  _ _ _ h)
      · rw [if_neg hc] at h
        refine aw_aload_n (pc := 40) (q := 2) dX7_readAtom_40 rfl ?_
        refine aw_bipush (pc := 41) dX7_readAtom_41 (by decide) ⟨by decide, by decide⟩ ?_
        obtain ⟨r7, w7, h7, h⟩ := aw_b2s h
        refine aw_callV (pc := 43) (as := [.inl 93]) (st := []) (st' := [.inl r7]) dX7_readAtom_43 cv_RX7_52 (by decide) rfl rfl rfl rfl (Nat.le_of_ble_eq_true rfl) (w_x_Tape_take N d (by omega) _ _ _ _ h7) rfl ?_
        refine aw_if_eq (pc := 46) (tgt := 53) dX7_readAtom_46 (by decide) (fun hc => ?_) (fun hc => ?_)
        · rw [if_pos hc] at h
          exact aw_sel [] rfl (w_x_Rules_readAtom_53 N d hd c_x_Rules_readAtom c_x_Rules_readSum hc_x_Rules_readAtom hc_x_Rules_readSum  _ _ _ h)
        · rw [if_neg hc] at h
          refine aw_iconst (pc := 49) dX7_readAtom_49 ⟨by decide, by decide⟩ ?_
          refine aw_goto (pc := 50) (tgt := 54) dX7_readAtom_50 (by decide) ?_
          exact aw_sel [] rfl (w_x_Rules_readAtom_54 N d hd c_x_Rules_readAtom c_x_Rules_readSum hc_x_Rules_readAtom hc_x_Rules_readSum  _ _ _ _ h)
    · rw [if_neg hc] at h
      refine aw_iconst (pc := 17) dX7_readAtom_17 ⟨by decide, by decide⟩ ?_
      cases h
      exact aw_zret (pc := 18) rfl (by decide) dX7_readAtom_18
def x_Rules_readSum_140 (c_x_Rules_readAtom : Int → aw_W → Option (Int × aw_W)) (c_x_Rules_readSum : Int → aw_W → Option (Int × aw_W)) (N : Nat) (w : aw_W) : Option (Int × aw_W) :=
  some (1, w)
theorem w_x_Rules_readSum_140 {l : Launch} {K : aw_K} (N d : Nat) (hd : 1 ≤ d) (c_x_Rules_readAtom : Int → aw_W → Option (Int × aw_W)) (c_x_Rules_readSum : Int → aw_W → Option (Int × aw_W)) (hc_x_Rules_readAtom : ∀ (x2 : Int) (w : aw_W) (y : Int) (v : aw_W), c_x_Rules_readAtom x2 w = some (y, v) → aw_Met l K MX7_readAtom (d) [.inr (.inr 11), .inr (.inr 1), .inl x2] w (some (.inl y), v)) (hc_x_Rules_readSum : ∀ (x2 : Int) (w : aw_W) (y : Int) (v : aw_W), c_x_Rules_readSum x2 w = some (y, v) → aw_Met l K MX7_readSum (d) [.inr (.inr 11), .inr (.inr 1), .inl x2] w (some (.inl y), v)) : ∀ (w : aw_W) (y : Int) (v : aw_W), x_Rules_readSum_140 c_x_Rules_readAtom c_x_Rules_readSum N w = some (y, v) → aw_AW l K MX7_readSum (d + 1) 140 [] [] w (some (.inl y), v) := by
  intro w y v h
  unfold x_Rules_readSum_140 at h
  refine aw_iconst (pc := 140) dX7_readSum_140 ⟨by decide, by decide⟩ ?_
  cases h
  exact aw_zret (pc := 141) rfl (by decide) dX7_readSum_141
def x_Rules_readSum_130 (c_x_Rules_readAtom : Int → aw_W → Option (Int × aw_W)) (c_x_Rules_readSum : Int → aw_W → Option (Int × aw_W)) (N : Nat) (x3 : Int) (w : aw_W) : Option (Int × aw_W) :=
  if x3 = 0 then
    x_Rules_readSum_140 c_x_Rules_readAtom c_x_Rules_readSum N w
  else
    aw_b1 (x_Rules_put N (aw_w (-x3)) w) fun w1 =>
      x_Rules_readSum_140 c_x_Rules_readAtom c_x_Rules_readSum N w1
theorem w_x_Rules_readSum_130 {l : Launch} {K : aw_K} (N d : Nat) (hd : 1 ≤ d) (c_x_Rules_readAtom : Int → aw_W → Option (Int × aw_W)) (c_x_Rules_readSum : Int → aw_W → Option (Int × aw_W)) (hc_x_Rules_readAtom : ∀ (x2 : Int) (w : aw_W) (y : Int) (v : aw_W), c_x_Rules_readAtom x2 w = some (y, v) → aw_Met l K MX7_readAtom (d) [.inr (.inr 11), .inr (.inr 1), .inl x2] w (some (.inl y), v)) (hc_x_Rules_readSum : ∀ (x2 : Int) (w : aw_W) (y : Int) (v : aw_W), c_x_Rules_readSum x2 w = some (y, v) → aw_Met l K MX7_readSum (d) [.inr (.inr 11), .inr (.inr 1), .inl x2] w (some (.inl y), v)) : ∀ (x3 : Int) (w : aw_W) (y : Int) (v : aw_W), x_Rules_readSum_130 c_x_Rules_readAtom c_x_Rules_readSum N x3 w = some (y, v) → aw_AW l K MX7_readSum (d + 1) 130 [(0, .inr (.inr 11)), (3, .inl x3)] [] w (some (.inl y), v) := by
  intro x3 w y v h
  unfold x_Rules_readSum_130 at h
  refine aw_iload_n (pc := 130) (q := 1) dX7_readSum_130 rfl ?_
  refine aw_if_eq (pc := 131) (tgt := 140) dX7_readSum_131 (by decide) (fun hc => ?_) (fun hc => ?_)
  · rw [if_pos hc] at h
    exact aw_sel [] rfl (w_x_Rules_readSum_140 N d hd c_x_Rules_readAtom c_x_Rules_readSum hc_x_Rules_readAtom hc_x_Rules_readSum  _ _ _ h)
  · rw [if_neg hc] at h
    refine aw_aload_n (pc := 134) (q := 0) dX7_readSum_134 rfl ?_
    refine aw_iload_n (pc := 135) (q := 1) dX7_readSum_135 rfl ?_
    refine aw_ineg (pc := 136) dX7_readSum_136 ?_
    obtain ⟨w1, h1, h⟩ := aw_b1s h
    refine aw_callV (pc := 137) (as := [.inl (aw_w (-x3))]) (st := []) (st' := []) dX7_readSum_137 cv_RX7_71 (by decide) rfl rfl rfl rfl (Nat.le_of_ble_eq_true rfl) (w_x_Rules_put N d (by omega) _ _ _ h1) rfl ?_
    exact aw_sel [] rfl (w_x_Rules_readSum_140 N d hd c_x_Rules_readAtom c_x_Rules_readSum hc_x_Rules_readAtom hc_x_Rules_readSum  _ _ _ h)
def x_Rules_readSum_124 (c_x_Rules_readAtom : Int → aw_W → Option (Int × aw_W)) (c_x_Rules_readSum : Int → aw_W → Option (Int × aw_W)) (N : Nat) (k16 : Int → Int → Int → aw_W → Option (Int × aw_W)) (x2 x3 x4 : Int) (w : aw_W) : Option (Int × aw_W) :=
  k16 x2 x3 (aw_w (x4 + 1)) w
theorem w_x_Rules_readSum_124 {l : Launch} {K : aw_K} (N d : Nat) (hd : 1 ≤ d) (c_x_Rules_readAtom : Int → aw_W → Option (Int × aw_W)) (c_x_Rules_readSum : Int → aw_W → Option (Int × aw_W)) (hc_x_Rules_readAtom : ∀ (x2 : Int) (w : aw_W) (y : Int) (v : aw_W), c_x_Rules_readAtom x2 w = some (y, v) → aw_Met l K MX7_readAtom (d) [.inr (.inr 11), .inr (.inr 1), .inl x2] w (some (.inl y), v)) (hc_x_Rules_readSum : ∀ (x2 : Int) (w : aw_W) (y : Int) (v : aw_W), c_x_Rules_readSum x2 w = some (y, v) → aw_Met l K MX7_readSum (d) [.inr (.inr 11), .inr (.inr 1), .inl x2] w (some (.inl y), v)) (k16 : Int → Int → Int → aw_W → Option (Int × aw_W)) (hk16 : ∀ (x2 x3 x4 : Int) (w : aw_W) (y : Int) (v : aw_W), k16 x2 x3 x4 w = some (y, v) → aw_AW l K MX7_readSum (d + 1) 16 [(0, .inr (.inr 11)), (1, .inr (.inr 1)), (2, .inl x2), (3, .inl x3), (4, .inl x4)] [] w (some (.inl y), v)) : ∀ (x2 x3 x4 : Int) (w : aw_W) (y : Int) (v : aw_W), x_Rules_readSum_124 c_x_Rules_readAtom c_x_Rules_readSum N k16 x2 x3 x4 w = some (y, v) → aw_AW l K MX7_readSum (d + 1) 124 [(0, .inr (.inr 11)), (1, .inr (.inr 1)), (2, .inl x2), (3, .inl x3), (4, .inl x4)] [] w (some (.inl y), v) := by
  intro x2 x3 x4 w y v h
  unfold x_Rules_readSum_124 at h
  refine aw_iinc (pc := 124) (q := 4) (ls' := [(4, .inl (aw_w (x4 + 1))), (0, .inr (.inr 11)), (1, .inr (.inr 1)), (2, .inl x2), (3, .inl x3)]) dX7_readSum_124 rfl (by decide) rfl ?_
  refine aw_goto (pc := 127) (tgt := 16) dX7_readSum_127 (by decide) ?_
  exact aw_sel [1, 2, 3, 4, 0] rfl (hk16 _ _ _ _ _ _ h)
def x_Rules_readSum_110 (c_x_Rules_readAtom : Int → aw_W → Option (Int × aw_W)) (c_x_Rules_readSum : Int → aw_W → Option (Int × aw_W)) (N : Nat) (w : aw_W) : Option (Int × aw_W) :=
  some (0, w)
theorem w_x_Rules_readSum_110 {l : Launch} {K : aw_K} (N d : Nat) (hd : 1 ≤ d) (c_x_Rules_readAtom : Int → aw_W → Option (Int × aw_W)) (c_x_Rules_readSum : Int → aw_W → Option (Int × aw_W)) (hc_x_Rules_readAtom : ∀ (x2 : Int) (w : aw_W) (y : Int) (v : aw_W), c_x_Rules_readAtom x2 w = some (y, v) → aw_Met l K MX7_readAtom (d) [.inr (.inr 11), .inr (.inr 1), .inl x2] w (some (.inl y), v)) (hc_x_Rules_readSum : ∀ (x2 : Int) (w : aw_W) (y : Int) (v : aw_W), c_x_Rules_readSum x2 w = some (y, v) → aw_Met l K MX7_readSum (d) [.inr (.inr 11), .inr (.inr 1), .inl x2] w (some (.inl y), v)) : ∀ (w : aw_W) (y : Int) (v : aw_W), x_Rules_readSum_110 c_x_Rules_readAtom c_x_Rules_readSum N w = some (y, v) → aw_AW l K MX7_readSum (d + 1) 110 [] [] w (some (.inl y), v) := by
  intro w y v h
  unfold x_Rules_readSum_110 at h
  refine aw_iconst (pc := 110) dX7_readSum_110 ⟨by decide, by decide⟩ ?_
  cases h
  exact aw_zret (pc := 111) rfl (by decide) dX7_readSum_111
def x_Rules_readSum_101 (c_x_Rules_readAtom : Int → aw_W → Option (Int × aw_W)) (c_x_Rules_readSum : Int → aw_W → Option (Int × aw_W)) (N : Nat) (k16 : Int → Int → Int → aw_W → Option (Int × aw_W)) (x2 x3 x4 x5 x6 : Int) (w : aw_W) : Option (Int × aw_W) :=
  aw_b2 (c_x_Rules_readAtom x2 w) fun r1 w1 =>
    if r1 = 0 then
      x_Rules_readSum_110 c_x_Rules_readAtom c_x_Rules_readSum N w1
    else
      if x6 = 0 then
        aw_b1 (x_Rules_put N (aw_w (-x5)) w1) fun w2 =>
          x_Rules_readSum_124 c_x_Rules_readAtom c_x_Rules_readSum N k16 x2 x3 x4 w2
      else
        x_Rules_readSum_124 c_x_Rules_readAtom c_x_Rules_readSum N k16 x2 x3 x4 w1
theorem w_x_Rules_readSum_101 {l : Launch} {K : aw_K} (N d : Nat) (hd : 1 ≤ d) (c_x_Rules_readAtom : Int → aw_W → Option (Int × aw_W)) (c_x_Rules_readSum : Int → aw_W → Option (Int × aw_W)) (hc_x_Rules_readAtom : ∀ (x2 : Int) (w : aw_W) (y : Int) (v : aw_W), c_x_Rules_readAtom x2 w = some (y, v) → aw_Met l K MX7_readAtom (d) [.inr (.inr 11), .inr (.inr 1), .inl x2] w (some (.inl y), v)) (hc_x_Rules_readSum : ∀ (x2 : Int) (w : aw_W) (y : Int) (v : aw_W), c_x_Rules_readSum x2 w = some (y, v) → aw_Met l K MX7_readSum (d) [.inr (.inr 11), .inr (.inr 1), .inl x2] w (some (.inl y), v)) (k16 : Int → Int → Int → aw_W → Option (Int × aw_W)) (hk16 : ∀ (x2 x3 x4 : Int) (w : aw_W) (y : Int) (v : aw_W), k16 x2 x3 x4 w = some (y, v) → aw_AW l K MX7_readSum (d + 1) 16 [(0, .inr (.inr 11)), (1, .inr (.inr 1)), (2, .inl x2), (3, .inl x3), (4, .inl x4)] [] w (some (.inl y), v)) : ∀ (x2 x3 x4 x5 x6 : Int) (w : aw_W) (y : Int) (v : aw_W), x_Rules_readSum_101 c_x_Rules_readAtom c_x_Rules_readSum N k16 x2 x3 x4 x5 x6 w = some (y, v) → aw_AW l K MX7_readSum (d + 1) 101 [(0, .inr (.inr 11)), (1, .inr (.inr 1)), (2, .inl x2), (3, .inl x3), (4, .inl x4), (5, .inl x5), (6, .inl x6)] [] w (some (.inl y), v) := by
  intro x2 x3 x4 x5 x6 w y v h
  unfold x_Rules_readSum_101 at h
  refine aw_aload_n (pc := 101) (q := 0) dX7_readSum_101 rfl ?_
  refine aw_aload_n (pc := 102) (q := 1) dX7_readSum_102 rfl ?_
  refine aw_iload_n (pc := 103) (q := 2) dX7_readSum_103 rfl ?_
  obtain ⟨r1, w1, h1, h⟩ := aw_b2s h
  refine aw_callV (pc := 104) (as := [.inr (.inr 1), .inl x2]) (st := []) (st' := [.inl r1]) dX7_readSum_104 cv_RX7_82 (by decide) rfl rfl rfl rfl (Nat.le_of_ble_eq_true rfl) (hc_x_Rules_readAtom _ _ _ _ h1) rfl ?_
  refine aw_if_ne (pc := 107) (tgt := 112) dX7_readSum_107 (by decide) (fun hc => ?_) (fun hc => ?_)
  · rw [if_neg hc] at h
    refine aw_iload (pc := 112) (q := 6) dX7_readSum_112 rfl ?_
    refine aw_if_ne (pc := 114) (tgt := 124) dX7_readSum_114 (by decide) (fun hc => ?_) (fun hc => ?_)
    · rw [if_neg hc] at h
      exact aw_sel [0, 1, 2, 3, 4] rfl (w_x_Rules_readSum_124 N d hd c_x_Rules_readAtom c_x_Rules_readSum hc_x_Rules_readAtom hc_x_Rules_readSum  _ hk16 _ _ _ _ _ _ h)
    · rw [if_pos hc] at h
      refine aw_aload_n (pc := 117) (q := 0) dX7_readSum_117 rfl ?_
      refine aw_iload (pc := 118) (q := 5) dX7_readSum_118 rfl ?_
      refine aw_ineg (pc := 120) dX7_readSum_120 ?_
      obtain ⟨w2, h2, h⟩ := aw_b1s h
      refine aw_callV (pc := 121) (as := [.inl (aw_w (-x5))]) (st := []) (st' := []) dX7_readSum_121 cv_RX7_71 (by decide) rfl rfl rfl rfl (Nat.le_of_ble_eq_true rfl) (w_x_Rules_put N d (by omega) _ _ _ h2) rfl ?_
      exact aw_sel [0, 1, 2, 3, 4] rfl (w_x_Rules_readSum_124 N d hd c_x_Rules_readAtom c_x_Rules_readSum hc_x_Rules_readAtom hc_x_Rules_readSum  _ hk16 _ _ _ _ _ _ h)
  · rw [if_pos hc] at h
    exact aw_sel [] rfl (w_x_Rules_readSum_110 N d hd c_x_Rules_readAtom c_x_Rules_readSum hc_x_Rules_readAtom hc_x_Rules_readSum  _ _ _ h)
def x_Rules_readSum_98 (c_x_Rules_readAtom : Int → aw_W → Option (Int × aw_W)) (c_x_Rules_readSum : Int → aw_W → Option (Int × aw_W)) (N : Nat) (k16 : Int → Int → Int → aw_W → Option (Int × aw_W)) (x2 x4 x5 x6 : Int) (w : aw_W) : Option (Int × aw_W) :=
  x_Rules_readSum_101 c_x_Rules_readAtom c_x_Rules_readSum N k16 x2 x5 x4 x5 x6 w
theorem w_x_Rules_readSum_98 {l : Launch} {K : aw_K} (N d : Nat) (hd : 1 ≤ d) (c_x_Rules_readAtom : Int → aw_W → Option (Int × aw_W)) (c_x_Rules_readSum : Int → aw_W → Option (Int × aw_W)) (hc_x_Rules_readAtom : ∀ (x2 : Int) (w : aw_W) (y : Int) (v : aw_W), c_x_Rules_readAtom x2 w = some (y, v) → aw_Met l K MX7_readAtom (d) [.inr (.inr 11), .inr (.inr 1), .inl x2] w (some (.inl y), v)) (hc_x_Rules_readSum : ∀ (x2 : Int) (w : aw_W) (y : Int) (v : aw_W), c_x_Rules_readSum x2 w = some (y, v) → aw_Met l K MX7_readSum (d) [.inr (.inr 11), .inr (.inr 1), .inl x2] w (some (.inl y), v)) (k16 : Int → Int → Int → aw_W → Option (Int × aw_W)) (hk16 : ∀ (x2 x3 x4 : Int) (w : aw_W) (y : Int) (v : aw_W), k16 x2 x3 x4 w = some (y, v) → aw_AW l K MX7_readSum (d + 1) 16 [(0, .inr (.inr 11)), (1, .inr (.inr 1)), (2, .inl x2), (3, .inl x3), (4, .inl x4)] [] w (some (.inl y), v)) : ∀ (x2 x4 x5 x6 : Int) (w : aw_W) (y : Int) (v : aw_W), x_Rules_readSum_98 c_x_Rules_readAtom c_x_Rules_readSum N k16 x2 x4 x5 x6 w = some (y, v) → aw_AW l K MX7_readSum (d + 1) 98 [(0, .inr (.inr 11)), (1, .inr (.inr 1)), (2, .inl x2), (4, .inl x4), (5, .inl x5), (6, .inl x6)] [] w (some (.inl y), v) := by
  intro x2 x4 x5 x6 w y v h
  unfold x_Rules_readSum_98 at h
  refine aw_iload (pc := 98) (q := 4) dX7_readSum_98 rfl ?_
  refine aw_istore_n (pc := 100) (ls' := [(3, .inl x5), (0, .inr (.inr 11)), (1, .inr (.inr 1)), (2, .inl x2), (4, .inl x4), (5, .inl x5), (6, .inl x6)]) dX7_readSum_100 (by decide) rfl ?_
  exact aw_sel [1, 2, 3, 0, 4, 5, 6] rfl (w_x_Rules_readSum_101 N d hd c_x_Rules_readAtom c_x_Rules_readSum hc_x_Rules_readAtom hc_x_Rules_readSum  _ hk16 _ _ _ _ _ _ _ _ h)
def x_Rules_readSum_73 (c_x_Rules_readAtom : Int → aw_W → Option (Int × aw_W)) (c_x_Rules_readSum : Int → aw_W → Option (Int × aw_W)) (N : Nat) (k16 : Int → Int → Int → aw_W → Option (Int × aw_W)) (x2 x3 x4 x5 x6 : Int) (w : aw_W) : Option (Int × aw_W) :=
  if x6 = 0 then
    x_Rules_readSum_101 c_x_Rules_readAtom c_x_Rules_readSum N k16 x2 x3 x4 x5 x6 (aw_up w 1 2 (aw_w ((w 1 2) + 1)))
  else
    if x3 = 0 then
      x_Rules_readSum_98 c_x_Rules_readAtom c_x_Rules_readSum N k16 x2 x4 x5 x6 (aw_up w 1 2 (aw_w ((w 1 2) + 1)))
    else
      aw_b1 (x_Rules_put N (aw_w (-x3)) (aw_up w 1 2 (aw_w ((w 1 2) + 1)))) fun w1 =>
        x_Rules_readSum_98 c_x_Rules_readAtom c_x_Rules_readSum N k16 x2 x4 x5 x6 w1
theorem w_x_Rules_readSum_73 {l : Launch} {K : aw_K} (N d : Nat) (hd : 1 ≤ d) (c_x_Rules_readAtom : Int → aw_W → Option (Int × aw_W)) (c_x_Rules_readSum : Int → aw_W → Option (Int × aw_W)) (hc_x_Rules_readAtom : ∀ (x2 : Int) (w : aw_W) (y : Int) (v : aw_W), c_x_Rules_readAtom x2 w = some (y, v) → aw_Met l K MX7_readAtom (d) [.inr (.inr 11), .inr (.inr 1), .inl x2] w (some (.inl y), v)) (hc_x_Rules_readSum : ∀ (x2 : Int) (w : aw_W) (y : Int) (v : aw_W), c_x_Rules_readSum x2 w = some (y, v) → aw_Met l K MX7_readSum (d) [.inr (.inr 11), .inr (.inr 1), .inl x2] w (some (.inl y), v)) (k16 : Int → Int → Int → aw_W → Option (Int × aw_W)) (hk16 : ∀ (x2 x3 x4 : Int) (w : aw_W) (y : Int) (v : aw_W), k16 x2 x3 x4 w = some (y, v) → aw_AW l K MX7_readSum (d + 1) 16 [(0, .inr (.inr 11)), (1, .inr (.inr 1)), (2, .inl x2), (3, .inl x3), (4, .inl x4)] [] w (some (.inl y), v)) : ∀ (x2 x3 x4 x5 x6 : Int) (w : aw_W) (y : Int) (v : aw_W), x_Rules_readSum_73 c_x_Rules_readAtom c_x_Rules_readSum N k16 x2 x3 x4 x5 x6 w = some (y, v) → aw_AW l K MX7_readSum (d + 1) 73 [(0, .inr (.inr 11)), (1, .inr (.inr 1)), (2, .inl x2), (3, .inl x3), (4, .inl x4), (5, .inl x5), (6, .inl x6)] [] w (some (.inl y), v) := by
  intro x2 x3 x4 x5 x6 w y v h
  unfold x_Rules_readSum_73 at h
  refine aw_aload_n (pc := 73) (q := 1) dX7_readSum_73 rfl ?_
  refine aw_dup (pc := 74) dX7_readSum_74 rfl ?_
  refine aw_getf (pc := 75) (v := .inl (w 1 2)) dX7_readSum_75 fl_RX7_43 (by decide) rfl rfl rfl ?_
  refine aw_iconst (pc := 78) dX7_readSum_78 ⟨by decide, by decide⟩ ?_
  refine aw_iadd (pc := 79) dX7_readSum_79 ?_
  refine aw_puti (pc := 80) dX7_readSum_80 fp_RX7_43 (by decide) rfl rfl ?_
  refine aw_iload (pc := 83) (q := 6) dX7_readSum_83 rfl ?_
  refine aw_if_eq (pc := 85) (tgt := 101) dX7_readSum_85 (by decide) (fun hc => ?_) (fun hc => ?_)
  · rw [if_pos hc] at h
    exact aw_sel [0, 1, 2, 3, 4, 5, 6] rfl (w_x_Rules_readSum_101 N d hd c_x_Rules_readAtom c_x_Rules_readSum hc_x_Rules_readAtom hc_x_Rules_readSum  _ hk16 _ _ _ _ _ _ _ _ h)
  · rw [if_neg hc] at h
    refine aw_iload_n (pc := 88) (q := 3) dX7_readSum_88 rfl ?_
    refine aw_if_eq (pc := 89) (tgt := 98) dX7_readSum_89 (by decide) (fun hc => ?_) (fun hc => ?_)
    · rw [if_pos hc] at h
      exact aw_sel [0, 1, 2, 4, 5, 6] rfl (w_x_Rules_readSum_98 N d hd c_x_Rules_readAtom c_x_Rules_readSum hc_x_Rules_readAtom hc_x_Rules_readSum  _ hk16 _ _ _ _ _ _ _ h)
    · rw [if_neg hc] at h
      refine aw_aload_n (pc := 92) (q := 0) dX7_readSum_92 rfl ?_
      refine aw_iload_n (pc := 93) (q := 3) dX7_readSum_93 rfl ?_
      refine aw_ineg (pc := 94) dX7_readSum_94 ?_
      obtain ⟨w1, h1, h⟩ := aw_b1s h
      refine aw_callV (pc := 95) (as := [.inl (aw_w (-x3))]) (st := []) (st' := []) dX7_readSum_95 cv_RX7_71 (by decide) rfl rfl rfl rfl (Nat.le_of_ble_eq_true rfl) (w_x_Rules_put N d (by omega) _ _ _ h1) rfl ?_
      exact aw_sel [0, 1, 2, 4, 5, 6] rfl (w_x_Rules_readSum_98 N d hd c_x_Rules_readAtom c_x_Rules_readSum hc_x_Rules_readAtom hc_x_Rules_readSum  _ hk16 _ _ _ _ _ _ _ h)
def x_Rules_readSum_70 (c_x_Rules_readAtom : Int → aw_W → Option (Int × aw_W)) (c_x_Rules_readSum : Int → aw_W → Option (Int × aw_W)) (N : Nat) (x3 : Int) (w : aw_W) : Option (Int × aw_W) :=
  x_Rules_readSum_130 c_x_Rules_readAtom c_x_Rules_readSum N x3 w
theorem w_x_Rules_readSum_70 {l : Launch} {K : aw_K} (N d : Nat) (hd : 1 ≤ d) (c_x_Rules_readAtom : Int → aw_W → Option (Int × aw_W)) (c_x_Rules_readSum : Int → aw_W → Option (Int × aw_W)) (hc_x_Rules_readAtom : ∀ (x2 : Int) (w : aw_W) (y : Int) (v : aw_W), c_x_Rules_readAtom x2 w = some (y, v) → aw_Met l K MX7_readAtom (d) [.inr (.inr 11), .inr (.inr 1), .inl x2] w (some (.inl y), v)) (hc_x_Rules_readSum : ∀ (x2 : Int) (w : aw_W) (y : Int) (v : aw_W), c_x_Rules_readSum x2 w = some (y, v) → aw_Met l K MX7_readSum (d) [.inr (.inr 11), .inr (.inr 1), .inl x2] w (some (.inl y), v)) : ∀ (x3 : Int) (w : aw_W) (y : Int) (v : aw_W), x_Rules_readSum_70 c_x_Rules_readAtom c_x_Rules_readSum N x3 w = some (y, v) → aw_AW l K MX7_readSum (d + 1) 70 [(0, .inr (.inr 11)), (3, .inl x3)] [] w (some (.inl y), v) := by
  intro x3 w y v h
  unfold x_Rules_readSum_70 at h
  refine aw_goto (pc := 70) (tgt := 130) dX7_readSum_70 (by decide) ?_
  exact aw_sel [0, 1] rfl (w_x_Rules_readSum_130 N d hd c_x_Rules_readAtom c_x_Rules_readSum hc_x_Rules_readAtom hc_x_Rules_readSum  _ _ _ _ h)
def x_Rules_readSum_49 (c_x_Rules_readAtom : Int → aw_W → Option (Int × aw_W)) (c_x_Rules_readSum : Int → aw_W → Option (Int × aw_W)) (N : Nat) (k16 : Int → Int → Int → aw_W → Option (Int × aw_W)) (x2 x3 x4 x5 s0 : Int) (w : aw_W) : Option (Int × aw_W) :=
  if s0 = 0 then
    if x5 = 42 then
      x_Rules_readSum_73 c_x_Rules_readAtom c_x_Rules_readSum N k16 x2 x3 x4 x5 s0 w
    else
      if x5 = 47 then
        x_Rules_readSum_73 c_x_Rules_readAtom c_x_Rules_readSum N k16 x2 x3 x4 x5 s0 w
      else
        x_Rules_readSum_70 c_x_Rules_readAtom c_x_Rules_readSum N x3 w
  else
    x_Rules_readSum_73 c_x_Rules_readAtom c_x_Rules_readSum N k16 x2 x3 x4 x5 s0 w
theorem w_x_Rules_readSum_49 {l : Launch} {K : aw_K} (N d : Nat) (hd : 1 ≤ d) (c_x_Rules_readAtom : Int → aw_W → Option (Int × aw_W)) (c_x_Rules_readSum : Int → aw_W → Option (Int × aw_W)) (hc_x_Rules_readAtom : ∀ (x2 : Int) (w : aw_W) (y : Int) (v : aw_W), c_x_Rules_readAtom x2 w = some (y, v) → aw_Met l K MX7_readAtom (d) [.inr (.inr 11), .inr (.inr 1), .inl x2] w (some (.inl y), v)) (hc_x_Rules_readSum : ∀ (x2 : Int) (w : aw_W) (y : Int) (v : aw_W), c_x_Rules_readSum x2 w = some (y, v) → aw_Met l K MX7_readSum (d) [.inr (.inr 11), .inr (.inr 1), .inl x2] w (some (.inl y), v)) (k16 : Int → Int → Int → aw_W → Option (Int × aw_W)) (hk16 : ∀ (x2 x3 x4 : Int) (w : aw_W) (y : Int) (v : aw_W), k16 x2 x3 x4 w = some (y, v) → aw_AW l K MX7_readSum (d + 1) 16 [(0, .inr (.inr 11)), (1, .inr (.inr 1)), (2, .inl x2), (3, .inl x3), (4, .inl x4)] [] w (some (.inl y), v)) : ∀ (x2 x3 x4 x5 s0 : Int) (w : aw_W) (y : Int) (v : aw_W), x_Rules_readSum_49 c_x_Rules_readAtom c_x_Rules_readSum N k16 x2 x3 x4 x5 s0 w = some (y, v) → aw_AW l K MX7_readSum (d + 1) 49 [(0, .inr (.inr 11)), (1, .inr (.inr 1)), (2, .inl x2), (3, .inl x3), (4, .inl x4), (5, .inl x5)] [.inl s0] w (some (.inl y), v) := by
  intro x2 x3 x4 x5 s0 w y v h
  unfold x_Rules_readSum_49 at h
  refine aw_istore (pc := 49) (ls' := [(6, .inl s0), (0, .inr (.inr 11)), (1, .inr (.inr 1)), (2, .inl x2), (3, .inl x3), (4, .inl x4), (5, .inl x5)]) dX7_readSum_49 (by decide) rfl ?_
  refine aw_iload (pc := 51) (q := 0) dX7_readSum_51 rfl ?_
  refine aw_if_ne (pc := 53) (tgt := 73) dX7_readSum_53 (by decide) (fun hc => ?_) (fun hc => ?_)
  · rw [if_neg hc] at h
    exact aw_sel [1, 2, 3, 4, 5, 6, 0] rfl (w_x_Rules_readSum_73 N d hd c_x_Rules_readAtom c_x_Rules_readSum hc_x_Rules_readAtom hc_x_Rules_readSum  _ hk16 _ _ _ _ _ _ _ _ h)
  · rw [if_pos hc] at h
    refine aw_iload (pc := 56) (q := 6) dX7_readSum_56 rfl ?_
    refine aw_bipush (pc := 58) dX7_readSum_58 (by decide) ⟨by decide, by decide⟩ ?_
    refine aw_icmp_eq (pc := 60) (tgt := 73) dX7_readSum_60 (by decide) (fun hc => ?_) (fun hc => ?_)
    · rw [if_pos hc] at h
      exact aw_sel [1, 2, 3, 4, 5, 6, 0] rfl (w_x_Rules_readSum_73 N d hd c_x_Rules_readAtom c_x_Rules_readSum hc_x_Rules_readAtom hc_x_Rules_readSum  _ hk16 _ _ _ _ _ _ _ _ h)
    · rw [if_neg hc] at h
      refine aw_iload (pc := 63) (q := 6) dX7_readSum_63 rfl ?_
      refine aw_bipush (pc := 65) dX7_readSum_65 (by decide) ⟨by decide, by decide⟩ ?_
      refine aw_icmp_eq (pc := 67) (tgt := 73) dX7_readSum_67 (by decide) (fun hc => ?_) (fun hc => ?_)
      · rw [if_pos hc] at h
        exact aw_sel [1, 2, 3, 4, 5, 6, 0] rfl (w_x_Rules_readSum_73 N d hd c_x_Rules_readAtom c_x_Rules_readSum hc_x_Rules_readAtom hc_x_Rules_readSum  _ hk16 _ _ _ _ _ _ _ _ h)
      · rw [if_neg hc] at h
        exact aw_sel [1, 4] rfl (w_x_Rules_readSum_70 N d hd c_x_Rules_readAtom c_x_Rules_readSum hc_x_Rules_readAtom hc_x_Rules_readSum  _ _ _ _ h)
def x_Rules_readSum_44 (c_x_Rules_readAtom : Int → aw_W → Option (Int × aw_W)) (c_x_Rules_readSum : Int → aw_W → Option (Int × aw_W)) (N : Nat) (k16 : Int → Int → Int → aw_W → Option (Int × aw_W)) (x2 x3 x4 x5 : Int) (w : aw_W) : Option (Int × aw_W) :=
  x_Rules_readSum_49 c_x_Rules_readAtom c_x_Rules_readSum N k16 x2 x3 x4 x5 1 w
theorem w_x_Rules_readSum_44 {l : Launch} {K : aw_K} (N d : Nat) (hd : 1 ≤ d) (c_x_Rules_readAtom : Int → aw_W → Option (Int × aw_W)) (c_x_Rules_readSum : Int → aw_W → Option (Int × aw_W)) (hc_x_Rules_readAtom : ∀ (x2 : Int) (w : aw_W) (y : Int) (v : aw_W), c_x_Rules_readAtom x2 w = some (y, v) → aw_Met l K MX7_readAtom (d) [.inr (.inr 11), .inr (.inr 1), .inl x2] w (some (.inl y), v)) (hc_x_Rules_readSum : ∀ (x2 : Int) (w : aw_W) (y : Int) (v : aw_W), c_x_Rules_readSum x2 w = some (y, v) → aw_Met l K MX7_readSum (d) [.inr (.inr 11), .inr (.inr 1), .inl x2] w (some (.inl y), v)) (k16 : Int → Int → Int → aw_W → Option (Int × aw_W)) (hk16 : ∀ (x2 x3 x4 : Int) (w : aw_W) (y : Int) (v : aw_W), k16 x2 x3 x4 w = some (y, v) → aw_AW l K MX7_readSum (d + 1) 16 [(0, .inr (.inr 11)), (1, .inr (.inr 1)), (2, .inl x2), (3, .inl x3), (4, .inl x4)] [] w (some (.inl y), v)) : ∀ (x2 x3 x4 x5 : Int) (w : aw_W) (y : Int) (v : aw_W), x_Rules_readSum_44 c_x_Rules_readAtom c_x_Rules_readSum N k16 x2 x3 x4 x5 w = some (y, v) → aw_AW l K MX7_readSum (d + 1) 44 [(0, .inr (.inr 11)), (1, .inr (.inr 1)), (2, .inl x2), (3, .inl x3), (4, .inl x4), (5, .inl x5)] [] w (some (.inl y), v) := by
  intro x2 x3 x4 x5 w y v h
  unfold x_Rules_readSum_44 at h
  refine aw_iconst (pc := 44) dX7_readSum_44 ⟨by decide, by decide⟩ ?_
  refine aw_goto (pc := 45) (tgt := 49) dX7_readSum_45 (by decide) ?_
  exact aw_sel [0, 1, 2, 3, 4, 5] rfl (w_x_Rules_readSum_49 N d hd c_x_Rules_readAtom c_x_Rules_readSum hc_x_Rules_readAtom hc_x_Rules_readSum  _ hk16 _ _ _ _ _ _ _ _ h)
def x_Rules_readSum_16 (c_x_Rules_readAtom : Int → aw_W → Option (Int × aw_W)) (c_x_Rules_readSum : Int → aw_W → Option (Int × aw_W)) (N : Nat) : Nat → Int → Int → Int → aw_W → Option (Int × aw_W)
  | 0, _, _, _, _ => none
  | n + 1, x2, x3, x4, w =>
    if 160 ≤ x4 then
      x_Rules_readSum_130 c_x_Rules_readAtom c_x_Rules_readSum N x3 w
    else
      aw_b2 (x_Tape_sign N w) fun r1 w1 =>
        if r1 = 43 then
          x_Rules_readSum_44 c_x_Rules_readAtom c_x_Rules_readSum N (x_Rules_readSum_16 c_x_Rules_readAtom c_x_Rules_readSum N n) x2 x3 x4 r1 w1
        else
          if r1 = 45 then
            x_Rules_readSum_44 c_x_Rules_readAtom c_x_Rules_readSum N (x_Rules_readSum_16 c_x_Rules_readAtom c_x_Rules_readSum N n) x2 x3 x4 r1 w1
          else
            x_Rules_readSum_49 c_x_Rules_readAtom c_x_Rules_readSum N (x_Rules_readSum_16 c_x_Rules_readAtom c_x_Rules_readSum N n) x2 x3 x4 r1 0 w1
theorem w_x_Rules_readSum_16 {l : Launch} {K : aw_K} (N d : Nat) (hd : 1 ≤ d) (c_x_Rules_readAtom : Int → aw_W → Option (Int × aw_W)) (c_x_Rules_readSum : Int → aw_W → Option (Int × aw_W)) (hc_x_Rules_readAtom : ∀ (x2 : Int) (w : aw_W) (y : Int) (v : aw_W), c_x_Rules_readAtom x2 w = some (y, v) → aw_Met l K MX7_readAtom (d) [.inr (.inr 11), .inr (.inr 1), .inl x2] w (some (.inl y), v)) (hc_x_Rules_readSum : ∀ (x2 : Int) (w : aw_W) (y : Int) (v : aw_W), c_x_Rules_readSum x2 w = some (y, v) → aw_Met l K MX7_readSum (d) [.inr (.inr 11), .inr (.inr 1), .inl x2] w (some (.inl y), v)) : ∀ (n : Nat) (x2 x3 x4 : Int) (w : aw_W) (y : Int) (v : aw_W), x_Rules_readSum_16 c_x_Rules_readAtom c_x_Rules_readSum N n x2 x3 x4 w = some (y, v) → aw_AW l K MX7_readSum (d + 1) 16 [(0, .inr (.inr 11)), (1, .inr (.inr 1)), (2, .inl x2), (3, .inl x3), (4, .inl x4)] [] w (some (.inl y), v) := by
  intro n
  induction n with
  | zero => intro x2 x3 x4 w y v h; rw [x_Rules_readSum_16] at h; cases h
  | succ n ih =>
    intro x2 x3 x4 w y v h
    rw [x_Rules_readSum_16] at h
    refine aw_iload (pc := 16) (q := 4) dX7_readSum_16 rfl ?_
    refine aw_sipush (pc := 18) dX7_readSum_18 (by decide) ⟨by decide, by decide⟩ ?_
    refine aw_icmp_ge (pc := 21) (tgt := 130) dX7_readSum_21 (by decide) (fun hc => ?_) (fun hc => ?_)
    · rw [if_pos hc] at h
      exact aw_sel [0, 3] rfl (w_x_Rules_readSum_130 N d hd c_x_Rules_readAtom c_x_Rules_readSum hc_x_Rules_readAtom hc_x_Rules_readSum  _ _ _ _ h)
    · rw [if_neg hc] at h
      refine aw_aload_n (pc := 24) (q := 1) dX7_readSum_24 rfl ?_
      obtain ⟨r1, w1, h1, h⟩ := aw_b2s h
      refine aw_callV (pc := 25) (as := []) (st := []) (st' := [.inl r1]) dX7_readSum_25 cv_RX7_56 (by decide) rfl rfl rfl rfl (Nat.le_of_ble_eq_true rfl) (w_x_Tape_sign N d (by omega) _ _ _ h1) rfl ?_
      refine aw_istore (pc := 28) (ls' := [(5, .inl r1), (0, .inr (.inr 11)), (1, .inr (.inr 1)), (2, .inl x2), (3, .inl x3), (4, .inl x4)]) dX7_readSum_28 (by decide) rfl ?_
      refine aw_iload (pc := 30) (q := 0) dX7_readSum_30 rfl ?_
      refine aw_bipush (pc := 32) dX7_readSum_32 (by decide) ⟨by decide, by decide⟩ ?_
      refine aw_icmp_eq (pc := 34) (tgt := 44) dX7_readSum_34 (by decide) (fun hc => ?_) (fun hc => ?_)
      · rw [if_pos hc] at h
        exact aw_sel [1, 2, 3, 4, 5, 0] rfl (w_x_Rules_readSum_44 N d hd c_x_Rules_readAtom c_x_Rules_readSum hc_x_Rules_readAtom hc_x_Rules_readSum  _ ih _ _ _ _ _ _ _ h)
      · rw [if_neg hc] at h
        refine aw_iload (pc := 37) (q := 0) dX7_readSum_37 rfl ?_
        refine aw_bipush (pc := 39) dX7_readSum_39 (by decide) ⟨by decide, by decide⟩ ?_
        refine aw_icmp_ne (pc := 41) (tgt := 48) dX7_readSum_41 (by decide) (fun hc => ?_) (fun hc => ?_)
        · rw [if_neg hc] at h
          refine aw_iconst (pc := 48) dX7_readSum_48 ⟨by decide, by decide⟩ ?_
          exact aw_sel [1, 2, 3, 4, 5, 0] rfl (w_x_Rules_readSum_49 N d hd c_x_Rules_readAtom c_x_Rules_readSum hc_x_Rules_readAtom hc_x_Rules_readSum  _ ih _ _ _ _ _ _ _ _ h)
        · rw [if_pos hc] at h
          exact aw_sel [1, 2, 3, 4, 5, 0] rfl (w_x_Rules_readSum_44 N d hd c_x_Rules_readAtom c_x_Rules_readSum hc_x_Rules_readAtom hc_x_Rules_readSum  _ ih _ _ _ _ _ _ _ h)
def x_Rules_readSum_b (c_x_Rules_readAtom : Int → aw_W → Option (Int × aw_W)) (c_x_Rules_readSum : Int → aw_W → Option (Int × aw_W)) (N : Nat) (x2 : Int) (w : aw_W) : Option (Int × aw_W) :=
  aw_b2 (c_x_Rules_readAtom x2 w) fun r1 w1 =>
    if r1 = 0 then
      some (0, w1)
    else
      x_Rules_readSum_16 c_x_Rules_readAtom c_x_Rules_readSum N N x2 0 0 w1
theorem w_x_Rules_readSum_b {l : Launch} {K : aw_K} (N d : Nat) (hd : 1 ≤ d) (c_x_Rules_readAtom : Int → aw_W → Option (Int × aw_W)) (c_x_Rules_readSum : Int → aw_W → Option (Int × aw_W)) (hc_x_Rules_readAtom : ∀ (x2 : Int) (w : aw_W) (y : Int) (v : aw_W), c_x_Rules_readAtom x2 w = some (y, v) → aw_Met l K MX7_readAtom (d) [.inr (.inr 11), .inr (.inr 1), .inl x2] w (some (.inl y), v)) (hc_x_Rules_readSum : ∀ (x2 : Int) (w : aw_W) (y : Int) (v : aw_W), c_x_Rules_readSum x2 w = some (y, v) → aw_Met l K MX7_readSum (d) [.inr (.inr 11), .inr (.inr 1), .inl x2] w (some (.inl y), v)) : ∀ (x2 : Int) (w : aw_W) (y : Int) (v : aw_W), x_Rules_readSum_b c_x_Rules_readAtom c_x_Rules_readSum N x2 w = some (y, v) → aw_Met l K MX7_readSum (d + 1) [.inr (.inr 11), .inr (.inr 1), .inl x2] w (some (.inl y), v) := by
  intro x2 w y v h
  unfold x_Rules_readSum_b at h
  refine aw_enter rfl (Nat.le_of_ble_eq_true rfl) ?_
  show aw_AW l K MX7_readSum (d + 1) 0 [(0, .inr (.inr 11)), (1, .inr (.inr 1)), (2, .inl x2)] [] w (some (.inl y), v)
  refine aw_aload_n (pc := 0) (q := 0) dX7_readSum_0 rfl ?_
  refine aw_aload_n (pc := 1) (q := 1) dX7_readSum_1 rfl ?_
  refine aw_iload_n (pc := 2) (q := 2) dX7_readSum_2 rfl ?_
  obtain ⟨r1, w1, h1, h⟩ := aw_b2s h
  refine aw_callV (pc := 3) (as := [.inr (.inr 1), .inl x2]) (st := []) (st' := [.inl r1]) dX7_readSum_3 cv_RX7_82 (by decide) rfl rfl rfl rfl (Nat.le_of_ble_eq_true rfl) (hc_x_Rules_readAtom _ _ _ _ h1) rfl ?_
  refine aw_if_ne (pc := 6) (tgt := 11) dX7_readSum_6 (by decide) (fun hc => ?_) (fun hc => ?_)
  · rw [if_neg hc] at h
    refine aw_iconst (pc := 11) dX7_readSum_11 ⟨by decide, by decide⟩ ?_
    refine aw_istore_n (pc := 12) (ls' := [(3, .inl 0), (0, .inr (.inr 11)), (1, .inr (.inr 1)), (2, .inl x2)]) dX7_readSum_12 (by decide) rfl ?_
    refine aw_iconst (pc := 13) dX7_readSum_13 ⟨by decide, by decide⟩ ?_
    refine aw_istore (pc := 14) (ls' := [(4, .inl 0), (3, .inl 0), (0, .inr (.inr 11)), (1, .inr (.inr 1)), (2, .inl x2)]) dX7_readSum_14 (by decide) rfl ?_
    exact aw_sel [2, 3, 4, 1, 0] rfl (w_x_Rules_readSum_16 N d hd c_x_Rules_readAtom c_x_Rules_readSum hc_x_Rules_readAtom hc_x_Rules_readSum  N _ _ _ _ _ _ h)
  · rw [if_pos hc] at h
    refine aw_iconst (pc := 9) dX7_readSum_9 ⟨by decide, by decide⟩ ?_
    cases h
    exact aw_zret (pc := 10) rfl (by decide) dX7_readSum_10
def g_x_Rules_readAtom (N : Nat) : Nat → (Int → aw_W → Option (Int × aw_W)) × (Int → aw_W → Option (Int × aw_W))
  | 0 => ((fun _ _ => none), (fun _ _ => none))
  | D + 1 => (x_Rules_readAtom_b (g_x_Rules_readAtom N D).1 (g_x_Rules_readAtom N D).2 N, x_Rules_readSum_b (g_x_Rules_readAtom N D).1 (g_x_Rules_readAtom N D).2 N)
def x_Rules_readAtom (N : Nat) : Int → aw_W → Option (Int × aw_W) := (g_x_Rules_readAtom N 60).1
def x_Rules_readSum (N : Nat) : Int → aw_W → Option (Int × aw_W) := (g_x_Rules_readAtom N 60).2
theorem w_g_x_Rules_readAtom {l : Launch} {K : aw_K} (N : Nat) : ∀ D d : Nat, 1 + D ≤ d → (∀ (x2 : Int) (w : aw_W) (y : Int) (v : aw_W), (g_x_Rules_readAtom N D).1 x2 w = some (y, v) → aw_Met l K MX7_readAtom (d) [.inr (.inr 11), .inr (.inr 1), .inl x2] w (some (.inl y), v)) ∧ (∀ (x2 : Int) (w : aw_W) (y : Int) (v : aw_W), (g_x_Rules_readAtom N D).2 x2 w = some (y, v) → aw_Met l K MX7_readSum (d) [.inr (.inr 11), .inr (.inr 1), .inl x2] w (some (.inl y), v))
  | 0, d, _ => ⟨fun _ _ _ _ h => (by cases h), fun _ _ _ _ h => (by cases h)⟩
  | D + 1, 0, h => absurd h (by omega)
  | D + 1, d + 1, h => by
    have ih := w_g_x_Rules_readAtom (l := l) (K := K) N D d (by omega)
    exact ⟨w_x_Rules_readAtom_b N d (by omega) _ _ ih.1 ih.2, w_x_Rules_readSum_b N d (by omega) _ _ ih.1 ih.2⟩
theorem w_x_Rules_readAtom {l : Launch} {K : aw_K} (N d : Nat) (hd : 61 ≤ d) : ∀ (x2 : Int) (w : aw_W) (y : Int) (v : aw_W), x_Rules_readAtom N x2 w = some (y, v) → aw_Met l K MX7_readAtom (d) [.inr (.inr 11), .inr (.inr 1), .inl x2] w (some (.inl y), v) := (w_g_x_Rules_readAtom N 60 d (by omega)).1
theorem w_x_Rules_readSum {l : Launch} {K : aw_K} (N d : Nat) (hd : 61 ≤ d) : ∀ (x2 : Int) (w : aw_W) (y : Int) (v : aw_W), x_Rules_readSum N x2 w = some (y, v) → aw_Met l K MX7_readSum (d) [.inr (.inr 11), .inr (.inr 1), .inl x2] w (some (.inl y), v) := (w_g_x_Rules_readAtom N 60 d (by omega)).2
