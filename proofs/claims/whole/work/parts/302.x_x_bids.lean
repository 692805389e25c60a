theorem dX11_bids_0 : decode cX11_bids 0 = .ok (.iload_n 2, 1) := by decide +kernel
theorem dX11_bids_1 : decode cX11_bids 1 = .ok (.ifCond .lt 19, 3) := by decide +kernel
theorem dX11_bids_4 : decode cX11_bids 4 = .ok (.iload_n 2, 1) := by decide +kernel
theorem dX11_bids_5 : decode cX11_bids 5 = .ok (.iconst 3, 1) := by decide +kernel
theorem dX11_bids_6 : decode cX11_bids 6 = .ok (.if_icmp .gt 14, 3) := by decide +kernel
theorem dX11_bids_9 : decode cX11_bids 9 = .ok (.aload_n 0, 1) := by decide +kernel
theorem dX11_bids_10 : decode cX11_bids 10 = .ok (.getfield 38, 3) := by decide +kernel
theorem dX11_bids_13 : decode cX11_bids 13 = .ok (.iload_n 1, 1) := by decide +kernel
theorem dX11_bids_14 : decode cX11_bids 14 = .ok (.invokevirtual 188, 3) := by decide +kernel
theorem dX11_bids_17 : decode cX11_bids 17 = .ok (.ifCond .ne 6, 3) := by decide +kernel
theorem dX11_bids_20 : decode cX11_bids 20 = .ok (.ldc 165, 2) := by decide +kernel
theorem dX11_bids_22 : decode cX11_bids 22 = .ok (.ireturn, 1) := by decide +kernel
theorem dX11_bids_23 : decode cX11_bids 23 = .ok (.aload_n 0, 1) := by decide +kernel
theorem dX11_bids_24 : decode cX11_bids 24 = .ok (.getfield 38, 3) := by decide +kernel
theorem dX11_bids_27 : decode cX11_bids 27 = .ok (.invokevirtual 191, 3) := by decide +kernel
theorem dX11_bids_30 : decode cX11_bids 30 = .ok (.iload_n 2, 1) := by decide +kernel
theorem dX11_bids_31 : decode cX11_bids 31 = .ok (.ifCond .ne 11, 3) := by decide +kernel
theorem dX11_bids_34 : decode cX11_bids 34 = .ok (.aload_n 0, 1) := by decide +kernel
theorem dX11_bids_35 : decode cX11_bids 35 = .ok (.getfield 38, 3) := by decide +kernel
theorem dX11_bids_38 : decode cX11_bids 38 = .ok (.getfield 194, 3) := by decide +kernel
theorem dX11_bids_41 : decode cX11_bids 41 = .ok (.ireturn, 1) := by decide +kernel
theorem dX11_bids_42 : decode cX11_bids 42 = .ok (.iload_n 2, 1) := by decide +kernel
theorem dX11_bids_43 : decode cX11_bids 43 = .ok (.iconst 1, 1) := by decide +kernel
theorem dX11_bids_44 : decode cX11_bids 44 = .ok (.if_icmp .ne 11, 3) := by decide +kernel
theorem dX11_bids_47 : decode cX11_bids 47 = .ok (.aload_n 0, 1) := by decide +kernel
theorem dX11_bids_48 : decode cX11_bids 48 = .ok (.getfield 38, 3) := by decide +kernel
theorem dX11_bids_51 : decode cX11_bids 51 = .ok (.getfield 196, 3) := by decide +kernel
theorem dX11_bids_54 : decode cX11_bids 54 = .ok (.ireturn, 1) := by decide +kernel
theorem dX11_bids_55 : decode cX11_bids 55 = .ok (.iload_n 2, 1) := by decide +kernel
theorem dX11_bids_56 : decode cX11_bids 56 = .ok (.iconst 2, 1) := by decide +kernel
theorem dX11_bids_57 : decode cX11_bids 57 = .ok (.if_icmp .ne 13, 3) := by decide +kernel
theorem dX11_bids_60 : decode cX11_bids 60 = .ok (.aload_n 0, 1) := by decide +kernel
theorem dX11_bids_61 : decode cX11_bids 61 = .ok (.getfield 38, 3) := by decide +kernel
theorem dX11_bids_64 : decode cX11_bids 64 = .ok (.getfield 199, 3) := by decide +kernel
theorem dX11_bids_67 : decode cX11_bids 67 = .ok (.goto 10, 3) := by decide +kernel
theorem dX11_bids_70 : decode cX11_bids 70 = .ok (.aload_n 0, 1) := by decide +kernel
theorem dX11_bids_71 : decode cX11_bids 71 = .ok (.getfield 38, 3) := by decide +kernel
theorem dX11_bids_74 : decode cX11_bids 74 = .ok (.invokevirtual 202, 3) := by decide +kernel
theorem dX11_bids_77 : decode cX11_bids 77 = .ok (.ireturn, 1) := by decide +kernel
def x_bids_20 (N : Nat) (w : aw_W) : Option (Int × aw_W) :=
  some ((-1000000), w)
theorem w_x_bids_20 {l : Launch} {K : aw_K} (N d : Nat) (hd : 2 ≤ d) : ∀ (w : aw_W) (y : Int) (v : aw_W), x_bids_20 N w = some (y, v) → aw_AW l K MX11_bids (d + 1) 20 [] [] w (some (.inl y), v) := by
  intro w y v h
  unfold x_bids_20 at h
  refine aw_ldc (pc := 20) (x := (-1000000)) dX11_bids_20 cn_RX11_165 ⟨by decide, by decide⟩ ?_
  cases h
  exact aw_iret (pc := 22) rfl dX11_bids_22
def x_bids_77 (N : Nat) (s0 : Int) (w : aw_W) : Option (Int × aw_W) :=
  some (s0, w)
theorem w_x_bids_77 {l : Launch} {K : aw_K} (N d : Nat) (hd : 2 ≤ d) : ∀ (s0 : Int) (w : aw_W) (y : Int) (v : aw_W), x_bids_77 N s0 w = some (y, v) → aw_AW l K MX11_bids (d + 1) 77 [] [.inl s0] w (some (.inl y), v) := by
  intro s0 w y v h
  unfold x_bids_77 at h
  cases h
  exact aw_iret (pc := 77) rfl dX11_bids_77
def x_bids (N : Nat) (x1 x2 : Int) (w : aw_W) : Option (Int × aw_W) :=
  if x2 < 0 then
    x_bids_20 N w
  else
    if 3 < x2 then
      x_bids_20 N w
    else
      aw_b2 (x_Sale_take N x1 w) fun r1 w1 =>
        if r1 = 0 then
          x_bids_20 N w1
        else
          aw_b1 (x_Sale_settle N w1) fun w2 =>
            if x2 = 0 then
              some (w2 17 3, w2)
            else
              if x2 = 1 then
                some (w2 17 4, w2)
              else
                if x2 = 2 then
                  x_bids_77 N (w2 17 5) w2
                else
                  aw_b2 (x_Sale_takings N w2) fun r3 w3 =>
                    x_bids_77 N r3 w3
theorem w_x_bids_d {l : Launch} {K : aw_K} (N d : Nat) (hd : 2 ≤ d) : ∀ (x1 x2 : Int) (w : aw_W) (y : Int) (v : aw_W), x_bids N x1 x2 w = some (y, v) → aw_Met l K MX11_bids (d + 1) [.inr (.inr 0), .inl x1, .inl x2] w (some (.inl y), v) := by
  intro x1 x2 w y v h
  unfold x_bids at h
  refine aw_enter rfl (Nat.le_of_ble_eq_true rfl) ?_
  show aw_AW l K MX11_bids (d + 1) 0 [(0, .inr (.inr 0)), (1, .inl x1), (2, .inl x2)] [] w (some (.inl y), v)
  refine aw_iload_n (pc := 0) (q := 2) dX11_bids_0 rfl ?_
  refine aw_if_lt (pc := 1) (tgt := 20) dX11_bids_1 (by decide) (fun hc => ?_) (fun hc => ?_)
  · rw [if_pos hc] at h
    exact aw_sel [] rfl (w_x_bids_20 N d hd  _ _ _ h)
  · rw [if_neg hc] at h
    refine aw_iload_n (pc := 4) (q := 2) dX11_bids_4 rfl ?_
    refine aw_iconst (pc := 5) dX11_bids_5 ⟨by decide, by decide⟩ ?_
    refine aw_icmp_gt (pc := 6) (tgt := 20) dX11_bids_6 (by decide) (fun hc => ?_) (fun hc => ?_)
    · rw [if_pos hc] at h
      exact aw_sel [] rfl (w_x_bids_20 N d hd  _ _ _ h)
    · rw [if_neg hc] at h
      refine aw_aload_n (pc := 9) (q := 0) dX11_bids_9 rfl ?_
      refine aw_getf (pc := 10) (v := .inr (.inr 17)) dX11_bids_10 fl_RX11_38 (by decide) rfl rfl rfl ?_
      refine aw_iload_n (pc := 13) (q := 1) dX11_bids_13 rfl ?_
      obtain ⟨r1, w1, h1, h⟩ := aw_b2s h
      refine aw_callV (pc := 14) (as := [.inl x1]) (st := []) (st' := [.inl r1]) dX11_bids_14 cv_RX11_188 (by decide) rfl rfl rfl rfl (Nat.le_of_ble_eq_true rfl) (w_x_Sale_take N d (by omega) _ _ _ _ h1) rfl ?_
      refine aw_if_ne (pc := 17) (tgt := 23) dX11_bids_17 (by decide) (fun hc => ?_) (fun hc => ?_)
      · rw [if_neg hc] at h
        refine aw_aload_n (pc := 23) (q := 0) dX11_bids_23 rfl ?_
        refine aw_getf (pc := 24) (v := .inr (.inr 17)) dX11_bids_24 fl_RX11_38 (by decide) rfl rfl rfl ?_
        obtain ⟨w2, h2, h⟩ := aw_b1s h
        refine aw_callV (pc := 27) (as := []) (st := []) (st' := []) dX11_bids_27 cv_RX11_191 (by decide) rfl rfl rfl rfl (Nat.le_of_ble_eq_true rfl) (w_x_Sale_settle N d (by omega) _ _ h2) rfl ?_
        refine aw_iload_n (pc := 30) (q := 2) dX11_bids_30 rfl ?_
        refine aw_if_ne (pc := 31) (tgt := 42) dX11_bids_31 (by decide) (fun hc => ?_) (fun hc => ?_)
        · rw [if_neg hc] at h
          refine aw_iload_n (pc := 42) (q := 2) dX11_bids_42 rfl ?_
          refine aw_iconst (pc := 43) dX11_bids_43 ⟨by decide, by decide⟩ ?_
          refine aw_icmp_ne (pc := 44) (tgt := 55) dX11_bids_44 (by decide) (fun hc => ?_) (fun hc => ?_)
          · rw [if_neg hc] at h
            refine aw_iload_n (pc := 55) (q := 2) dX11_bids_55 rfl ?_
            refine aw_iconst (pc := 56) dX11_bids_56 ⟨by decide, by decide⟩ ?_
            refine aw_icmp_ne (pc := 57) (tgt := 70) dX11_bids_57 (by decide) (fun hc => ?_) (fun hc => ?_)
            · rw [if_neg hc] at h
              refine aw_aload_n (pc := 70) (q := 0) dX11_bids_70 rfl ?_
              refine aw_getf (pc := 71) (v := .inr (.inr 17)) dX11_bids_71 fl_RX11_38 (by decide) rfl rfl rfl ?_
              obtain ⟨r3, w3, h3, h⟩ := aw_b2s h
              refine aw_callV (pc := 74) (as := []) (st := []) (st' := [.inl r3]) dX11_bids_74 cv_RX11_202 (by decide) rfl rfl rfl rfl (Nat.le_of_ble_eq_true rfl) (w_x_Sale_takings N d (by omega) _ _ _ h3) rfl ?_
              exact aw_sel [] rfl (w_x_bids_77 N d hd  _ _ _ _ h)
            · rw [if_pos hc] at h
              refine aw_aload_n (pc := 60) (q := 0) dX11_bids_60 rfl ?_
              refine aw_getf (pc := 61) (v := .inr (.inr 17)) dX11_bids_61 fl_RX11_38 (by decide) rfl rfl rfl ?_
              refine aw_getf (pc := 64) (v := .inl (w2 17 5)) dX11_bids_64 fl_RX11_199 (by decide) rfl rfl rfl ?_
              refine aw_goto (pc := 67) (tgt := 77) dX11_bids_67 (by decide) ?_
              exact aw_sel [] rfl (w_x_bids_77 N d hd  _ _ _ _ h)
          · rw [if_pos hc] at h
            refine aw_aload_n (pc := 47) (q := 0) dX11_bids_47 rfl ?_
            refine aw_getf (pc := 48) (v := .inr (.inr 17)) dX11_bids_48 fl_RX11_38 (by decide) rfl rfl rfl ?_
            refine aw_getf (pc := 51) (v := .inl (w2 17 4)) dX11_bids_51 fl_RX11_196 (by decide) rfl rfl rfl ?_
            cases h
            exact aw_iret (pc := 54) rfl dX11_bids_54
        · rw [if_pos hc] at h
          refine aw_aload_n (pc := 34) (q := 0) dX11_bids_34 rfl ?_
          refine aw_getf (pc := 35) (v := .inr (.inr 17)) dX11_bids_35 fl_RX11_38 (by decide) rfl rfl rfl ?_
          refine aw_getf (pc := 38) (v := .inl (w2 17 3)) dX11_bids_38 fl_RX11_194 (by decide) rfl rfl rfl ?_
          cases h
          exact aw_iret (pc := 41) rfl dX11_bids_41
      · rw [if_pos hc] at h
        exact aw_sel [] rfl (w_x_bids_20 N d hd  _ _ _ h)
theorem w_x_bids {l : Launch} {K : aw_K} (N d : Nat) (hd : 3 ≤ d) : ∀ (x1 x2 : Int) (w : aw_W) (y : Int) (v : aw_W), x_bids N x1 x2 w = some (y, v) → aw_Met l K MX11_bids (d) [.inr (.inr 0), .inl x1, .inl x2] w (some (.inl y), v) := by
  obtain ⟨e, rfl⟩ : ∃ e, d = e + 1 := ⟨d - 1, by omega⟩
  exact w_x_bids_d N e (by omega)
theorem dX11_isSmall_0 : decode cX11_isSmall 0 = .ok (.aload_n 0, 1) := by decide +kernel
theorem dX11_isSmall_1 : decode cX11_isSmall 1 = .ok (.getfield 19, 3) := by decide +kernel
theorem dX11_isSmall_4 : decode cX11_isSmall 4 = .ok (.getfield 136, 3) := by decide +kernel
theorem dX11_isSmall_7 : decode cX11_isSmall 7 = .ok (.ifCond .le 18, 3) := by decide +kernel
theorem dX11_isSmall_10 : decode cX11_isSmall 10 = .ok (.aload_n 0, 1) := by decide +kernel
theorem dX11_isSmall_11 : decode cX11_isSmall 11 = .ok (.getfield 19, 3) := by decide +kernel
theorem dX11_isSmall_14 : decode cX11_isSmall 14 = .ok (.getfield 136, 3) := by decide +kernel
theorem dX11_isSmall_17 : decode cX11_isSmall 17 = .ok (.iconst 4, 1) := by decide +kernel
theorem dX11_isSmall_18 : decode cX11_isSmall 18 = .ok (.if_icmp .gt 7, 3) := by decide +kernel
theorem dX11_isSmall_21 : decode cX11_isSmall 21 = .ok (.iconst 1, 1) := by decide +kernel
theorem dX11_isSmall_22 : decode cX11_isSmall 22 = .ok (.goto 4, 3) := by decide +kernel
theorem dX11_isSmall_25 : decode cX11_isSmall 25 = .ok (.iconst 0, 1) := by decide +kernel
theorem dX11_isSmall_26 : decode cX11_isSmall 26 = .ok (.ireturn, 1) := by decide +kernel
def x_isSmall_26 (N : Nat) (s0 : Int) (w : aw_W) : Option (Int × aw_W) :=
  if s0 = 0 ∨ s0 = 1 then
    some (s0, w)
  else none
theorem w_x_isSmall_26 {l : Launch} {K : aw_K} (N d : Nat) : ∀ (s0 : Int) (w : aw_W) (y : Int) (v : aw_W), x_isSmall_26 N s0 w = some (y, v) → aw_AW l K MX11_isSmall (d) 26 [] [.inl s0] w (some (.inl y), v) := by
  intro s0 w y v h
  unfold x_isSmall_26 at h
  obtain ⟨hz, h⟩ := aw_cks h
  cases h
  exact aw_zret (pc := 26) rfl hz dX11_isSmall_26
def x_isSmall_25 (N : Nat) (w : aw_W) : Option (Int × aw_W) :=
  x_isSmall_26 N 0 w
theorem w_x_isSmall_25 {l : Launch} {K : aw_K} (N d : Nat) : ∀ (w : aw_W) (y : Int) (v : aw_W), x_isSmall_25 N w = some (y, v) → aw_AW l K MX11_isSmall (d) 25 [] [] w (some (.inl y), v) := by
  intro w y v h
  unfold x_isSmall_25 at h
  refine aw_iconst (pc := 25) dX11_isSmall_25 ⟨by decide, by decide⟩ ?_
  exact aw_sel [] rfl (w_x_isSmall_26 N d  _ _ _ _ h)
def x_isSmall (N : Nat) (w : aw_W) : Option (Int × aw_W) :=
  if (w 3 4) ≤ 0 then
    x_isSmall_25 N w
  else
    if 4 < (w 3 4) then
      x_isSmall_25 N w
    else
      x_isSmall_26 N 1 w
theorem w_x_isSmall {l : Launch} {K : aw_K} (N d : Nat) (hd : 0 ≤ d) : ∀ (w : aw_W) (y : Int) (v : aw_W), x_isSmall N w = some (y, v) → aw_Met l K MX11_isSmall (d) [.inr (.inr 0)] w (some (.inl y), v) := by
  intro w y v h
  unfold x_isSmall at h
  refine aw_enter rfl (Nat.le_of_ble_eq_true rfl) ?_
  show aw_AW l K MX11_isSmall (d) 0 [(0, .inr (.inr 0))] [] w (some (.inl y), v)
  refine aw_aload_n (pc := 0) (q := 0) dX11_isSmall_0 rfl ?_
  refine aw_getf (pc := 1) (v := .inr (.inr 3)) dX11_isSmall_1 fl_RX11_19 (by decide) rfl rfl rfl ?_
  refine aw_getf (pc := 4) (v := .inl (w 3 4)) dX11_isSmall_4 fl_RX11_136 (by decide) rfl rfl rfl ?_
  refine aw_if_le (pc := 7) (tgt := 25) dX11_isSmall_7 (by decide) (fun hc => ?_) (fun hc => ?_)
  · rw [if_pos hc] at h
    exact aw_sel [] rfl (w_x_isSmall_25 N d  _ _ _ h)
  · rw [if_neg hc] at h
    refine aw_aload_n (pc := 10) (q := 0) dX11_isSmall_10 rfl ?_
    refine aw_getf (pc := 11) (v := .inr (.inr 3)) dX11_isSmall_11 fl_RX11_19 (by decide) rfl rfl rfl ?_
    refine aw_getf (pc := 14) (v := .inl (w 3 4)) dX11_isSmall_14 fl_RX11_136 (by decide) rfl rfl rfl ?_
    refine aw_iconst (pc := 17) dX11_isSmall_17 ⟨by decide, by decide⟩ ?_
    refine aw_icmp_gt (pc := 18) (tgt := 25) dX11_isSmall_18 (by decide) (fun hc => ?_) (fun hc => ?_)
    · rw [if_pos hc] at h
      exact aw_sel [] rfl (w_x_isSmall_25 N d  _ _ _ h)
    · rw [if_neg hc] at h
      refine aw_iconst (pc := 21) dX11_isSmall_21 ⟨by decide, by decide⟩ ?_
      refine aw_goto (pc := 22) (tgt := 26) dX11_isSmall_22 (by decide) ?_
      exact aw_sel [] rfl (w_x_isSmall_26 N d  _ _ _ _ h)
theorem dX1_holds_0 : decode cX1_holds 0 = .ok (.iload_n 1, 1) := by decide +kernel
theorem dX1_holds_1 : decode cX1_holds 1 = .ok (.ifCond .lt 15, 3) := by decide +kernel
theorem dX1_holds_4 : decode cX1_holds 4 = .ok (.iload_n 1, 1) := by decide +kernel
theorem dX1_holds_5 : decode cX1_holds 5 = .ok (.aload_n 0, 1) := by decide +kernel
theorem dX1_holds_6 : decode cX1_holds 6 = .ok (.getfield 21, 3) := by decide +kernel
theorem dX1_holds_9 : decode cX1_holds 9 = .ok (.if_icmp .ge 7, 3) := by decide +kernel
theorem dX1_holds_12 : decode cX1_holds 12 = .ok (.iconst 1, 1) := by decide +kernel
theorem dX1_holds_13 : decode cX1_holds 13 = .ok (.goto 4, 3) := by decide +kernel
theorem dX1_holds_16 : decode cX1_holds 16 = .ok (.iconst 0, 1) := by decide +kernel
theorem dX1_holds_17 : decode cX1_holds 17 = .ok (.ireturn, 1) := by decide +kernel
def x_Land_holds_17 (N : Nat) (s0 : Int) (w : aw_W) : Option (Int × aw_W) :=
  if s0 = 0 ∨ s0 = 1 then
    some (s0, w)
  else none
theorem w_x_Land_holds_17 {l : Launch} {K : aw_K} (N d : Nat) : ∀ (s0 : Int) (w : aw_W) (y : Int) (v : aw_W), x_Land_holds_17 N s0 w = some (y, v) → aw_AW l K MX1_holds (d) 17 [] [.inl s0] w (some (.inl y), v) := by
  intro s0 w y v h
  unfold x_Land_holds_17 at h
  obtain ⟨hz, h⟩ := aw_cks h
  cases h
  exact aw_zret (pc := 17) rfl hz dX1_holds_17
def x_Land_holds_16 (N : Nat) (w : aw_W) : Option (Int × aw_W) :=
  x_Land_holds_17 N 0 w
theorem w_x_Land_holds_16 {l : Launch} {K : aw_K} (N d : Nat) : ∀ (w : aw_W) (y : Int) (v : aw_W), x_Land_holds_16 N w = some (y, v) → aw_AW l K MX1_holds (d) 16 [] [] w (some (.inl y), v) := by
  intro w y v h
  unfold x_Land_holds_16 at h
  refine aw_iconst (pc := 16) dX1_holds_16 ⟨by decide, by decide⟩ ?_
  exact aw_sel [] rfl (w_x_Land_holds_17 N d  _ _ _ _ h)
def x_Land_holds (N : Nat) (x1 : Int) (w : aw_W) : Option (Int × aw_W) :=
  if x1 < 0 then
    x_Land_holds_16 N w
  else
    if (w 3 4) ≤ x1 then
      x_Land_holds_16 N w
    else
      x_Land_holds_17 N 1 w
theorem w_x_Land_holds {l : Launch} {K : aw_K} (N d : Nat) (hd : 0 ≤ d) : ∀ (x1 : Int) (w : aw_W) (y : Int) (v : aw_W), x_Land_holds N x1 w = some (y, v) → aw_Met l K MX1_holds (d) [.inr (.inr 3), .inl x1] w (some (.inl y), v) := by
  intro x1 w y v h
  unfold x_Land_holds at h
  refine aw_enter rfl (Nat.le_of_ble_eq_true rfl) ?_
  show aw_AW l K MX1_holds (d) 0 [(0, .inr (.inr 3)), (1, .inl x1)] [] w (some (.inl y), v)
  refine aw_iload_n (pc := 0) (q := 1) dX1_holds_0 rfl ?_
  refine aw_if_lt (pc := 1) (tgt := 16) dX1_holds_1 (by decide) (fun hc => ?_) (fun hc => ?_)
  · rw [if_pos hc] at h
    exact aw_sel [] rfl (w_x_Land_holds_16 N d  _ _ _ h)
  · rw [if_neg hc] at h
    refine aw_iload_n (pc := 4) (q := 1) dX1_holds_4 rfl ?_
    refine aw_aload_n (pc := 5) (q := 0) dX1_holds_5 rfl ?_
    refine aw_getf (pc := 6) (v := .inl (w 3 4)) dX1_holds_6 fl_RX1_21 (by decide) rfl rfl rfl ?_
    refine aw_icmp_ge (pc := 9) (tgt := 16) dX1_holds_9 (by decide) (fun hc => ?_) (fun hc => ?_)
    · rw [if_pos hc] at h
      exact aw_sel [] rfl (w_x_Land_holds_16 N d  _ _ _ h)
    · rw [if_neg hc] at h
      refine aw_iconst (pc := 12) dX1_holds_12 ⟨by decide, by decide⟩ ?_
      refine aw_goto (pc := 13) (tgt := 17) dX1_holds_13 (by decide) ?_
      exact aw_sel [] rfl (w_x_Land_holds_17 N d  _ _ _ _ h)
theorem dX1_all_0 : decode cX1_all 0 = .ok (.iconst 1, 1) := by decide +kernel
theorem dX1_all_1 : decode cX1_all 1 = .ok (.aload_n 0, 1) := by decide +kernel
theorem dX1_all_2 : decode cX1_all 2 = .ok (.getfield 21, 3) := by decide +kernel
theorem dX1_all_5 : decode cX1_all 5 = .ok (.ishl, 1) := by decide +kernel
theorem dX1_all_6 : decode cX1_all 6 = .ok (.iconst 1, 1) := by decide +kernel
theorem dX1_all_7 : decode cX1_all 7 = .ok (.isub, 1) := by decide +kernel
theorem dX1_all_8 : decode cX1_all 8 = .ok (.ireturn, 1) := by decide +kernel
def x_Land_all (N : Nat) (w : aw_W) : Option (Int × aw_W) :=
  some (aw_w ((aw_shl 1 (w 3 4)) - 1), w)
theorem w_x_Land_all {l : Launch} {K : aw_K} (N d : Nat) (hd : 0 ≤ d) : ∀ (w : aw_W) (y : Int) (v : aw_W), x_Land_all N w = some (y, v) → aw_Met l K MX1_all (d) [.inr (.inr 3)] w (some (.inl y), v) := by
  intro w y v h
  unfold x_Land_all at h
  refine aw_enter rfl (Nat.le_of_ble_eq_true rfl) ?_
  show aw_AW l K MX1_all (d) 0 [(0, .inr (.inr 3))] [] w (some (.inl y), v)
  refine aw_iconst (pc := 0) dX1_all_0 ⟨by decide, by decide⟩ ?_
  refine aw_aload_n (pc := 1) (q := 0) dX1_all_1 rfl ?_
  refine aw_getf (pc := 2) (v := .inl (w 3 4)) dX1_all_2 fl_RX1_21 (by decide) rfl rfl rfl ?_
  refine aw_ishl (pc := 5) dX1_all_5 ?_
  refine aw_iconst (pc := 6) dX1_all_6 ⟨by decide, by decide⟩ ?_
  refine aw_isub (pc := 7) dX1_all_7 ?_
  cases h
  exact aw_iret (pc := 8) rfl dX1_all_8
theorem dX8_lowest_0 : decode cX8_lowest 0 = .ok (.iconst 0, 1) := by decide +kernel
theorem dX8_lowest_1 : decode cX8_lowest 1 = .ok (.istore_n 2, 1) := by decide +kernel
theorem dX8_lowest_2 : decode cX8_lowest 2 = .ok (.iload_n 2, 1) := by decide +kernel
theorem dX8_lowest_3 : decode cX8_lowest 3 = .ok (.aload_n 0, 1) := by decide +kernel
theorem dX8_lowest_4 : decode cX8_lowest 4 = .ok (.getfield 22, 3) := by decide +kernel
theorem dX8_lowest_7 : decode cX8_lowest 7 = .ok (.getfield 26, 3) := by decide +kernel
theorem dX8_lowest_10 : decode cX8_lowest 10 = .ok (.if_icmp .ge 24, 3) := by decide +kernel
theorem dX8_lowest_13 : decode cX8_lowest 13 = .ok (.iload_n 1, 1) := by decide +kernel
theorem dX8_lowest_14 : decode cX8_lowest 14 = .ok (.iload_n 2, 1) := by decide +kernel
theorem dX8_lowest_15 : decode cX8_lowest 15 = .ok (.ishr, 1) := by decide +kernel
theorem dX8_lowest_16 : decode cX8_lowest 16 = .ok (.iconst 1, 1) := by decide +kernel
theorem dX8_lowest_17 : decode cX8_lowest 17 = .ok (.iand, 1) := by decide +kernel
theorem dX8_lowest_18 : decode cX8_lowest 18 = .ok (.ifCond .eq 10, 3) := by decide +kernel
theorem dX8_lowest_21 : decode cX8_lowest 21 = .ok (.aload_n 0, 1) := by decide +kernel
theorem dX8_lowest_22 : decode cX8_lowest 22 = .ok (.getfield 18, 3) := by decide +kernel
theorem dX8_lowest_25 : decode cX8_lowest 25 = .ok (.iload_n 2, 1) := by decide +kernel
theorem dX8_lowest_26 : decode cX8_lowest 26 = .ok (.iconst 0, 1) := by decide +kernel
theorem dX8_lowest_27 : decode cX8_lowest 27 = .ok (.iastore, 1) := by decide +kernel
theorem dX8_lowest_28 : decode cX8_lowest 28 = .ok (.iinc 2 1, 3) := by decide +kernel
theorem dX8_lowest_31 : decode cX8_lowest 31 = .ok (.goto (-29), 3) := by decide +kernel
theorem dX8_lowest_34 : decode cX8_lowest 34 = .ok (.return_, 1) := by decide +kernel
def x_Sale_lowest_34 (N : Nat) (w : aw_W) : Option (aw_W) :=
  some w
theorem w_x_Sale_lowest_34 {l : Launch} {K : aw_K} (N d : Nat) : ∀ (w v : aw_W), x_Sale_lowest_34 N w = some v → aw_AW l K MX8_lowest (d) 34 [] [] w (none, v) := by
  intro w v h
  unfold x_Sale_lowest_34 at h
  cases h
  exact aw_vret (pc := 34) rfl dX8_lowest_34
def x_Sale_lowest_28 (N : Nat) (k2 : Int → Int → aw_W → Option (aw_W)) (x1 x2 : Int) (w : aw_W) : Option (aw_W) :=
  k2 x1 (aw_w (x2 + 1)) w
theorem w_x_Sale_lowest_28 {l : Launch} {K : aw_K} (N d : Nat) (k2 : Int → Int → aw_W → Option (aw_W)) (hk2 : ∀ (x1 x2 : Int) (w v : aw_W), k2 x1 x2 w = some v → aw_AW l K MX8_lowest (d) 2 [(0, .inr (.inr 17)), (1, .inl x1), (2, .inl x2)] [] w (none, v)) : ∀ (x1 x2 : Int) (w v : aw_W), x_Sale_lowest_28 N k2 x1 x2 w = some v → aw_AW l K MX8_lowest (d) 28 [(0, .inr (.inr 17)), (1, .inl x1), (2, .inl x2)] [] w (none, v) := by
  intro x1 x2 w v h
  unfold x_Sale_lowest_28 at h
  refine aw_iinc (pc := 28) (q := 2) (ls' := [(2, .inl (aw_w (x2 + 1))), (0, .inr (.inr 17)), (1, .inl x1)]) dX8_lowest_28 rfl (by decide) rfl ?_
  refine aw_goto (pc := 31) (tgt := 2) dX8_lowest_31 (by decide) ?_
  exact aw_sel [1, 2, 0] rfl (hk2 _ _ _ _ h)
def x_Sale_lowest_2 (N : Nat) : Nat → Int → Int → aw_W → Option (aw_W)
  | 0, _, _, _ => none
  | n + 1, x1, x2, w =>
    if (w 3 4) ≤ x2 then
      x_Sale_lowest_34 N w
    else
      if (aw_and (aw_shr x1 x2) 1) = 0 then
        x_Sale_lowest_28 N (x_Sale_lowest_2 N n) x1 x2 w
      else
        if 0 ≤ x2 ∧ x2 < 6 then
          x_Sale_lowest_28 N (x_Sale_lowest_2 N n) x1 x2 (aw_up w 21 x2.toNat 0)
        else none
theorem w_x_Sale_lowest_2 {l : Launch} {K : aw_K} (N d : Nat) : ∀ (n : Nat) (x1 x2 : Int) (w v : aw_W), x_Sale_lowest_2 N n x1 x2 w = some v → aw_AW l K MX8_lowest (d) 2 [(0, .inr (.inr 17)), (1, .inl x1), (2, .inl x2)] [] w (none, v) := by
  intro n
  induction n with
  | zero => intro x1 x2 w v h; rw [x_Sale_lowest_2] at h; cases h
  | succ n ih =>
    intro x1 x2 w v h
    rw [x_Sale_lowest_2] at h
    refine aw_iload_n (pc := 2) (q := 2) dX8_lowest_2 rfl ?_
    refine aw_aload_n (pc := 3) (q := 0) dX8_lowest_3 rfl ?_
    refine aw_getf (pc := 4) (v := .inr (.inr 3)) dX8_lowest_4 fl_RX8_22 (by decide) rfl rfl rfl ?_
    refine aw_getf (pc := 7) (v := .inl (w 3 4)) dX8_lowest_7 fl_RX8_26 (by decide) rfl rfl rfl ?_
    refine aw_icmp_ge (pc := 10) (tgt := 34) dX8_lowest_10 (by decide) (fun hc => ?_) (fun hc => ?_)
    · rw [if_pos hc] at h
      exact aw_sel [] rfl (w_x_Sale_lowest_34 N d  _ _ h)
    · rw [if_neg hc] at h
      refine aw_iload_n (pc := 13) (q := 1) dX8_lowest_13 rfl ?_
      refine aw_iload_n (pc := 14) (q := 2) dX8_lowest_14 rfl ?_
      refine aw_ishr (pc := 15) dX8_lowest_15 ?_
      refine aw_iconst (pc := 16) dX8_lowest_16 ⟨by decide, by decide⟩ ?_
      refine aw_iand (pc := 17) dX8_lowest_17 ?_
      refine aw_if_eq (pc := 18) (tgt := 28) dX8_lowest_18 (by decide) (fun hc => ?_) (fun hc => ?_)
      · rw [if_pos hc] at h
        exact aw_sel [0, 1, 2] rfl (w_x_Sale_lowest_28 N d  _ ih _ _ _ _ h)
      · rw [if_neg hc] at h
        refine aw_aload_n (pc := 21) (q := 0) dX8_lowest_21 rfl ?_
        refine aw_getf (pc := 22) (v := .inr (.inr 21)) dX8_lowest_22 fl_RX8_18 (by decide) rfl rfl rfl ?_
        refine aw_iload_n (pc := 25) (q := 2) dX8_lowest_25 rfl ?_
        refine aw_iconst (pc := 26) dX8_lowest_26 ⟨by decide, by decide⟩ ?_
        obtain ⟨hb, h⟩ := aw_cks h
        refine aw_iast (pc := 27) dX8_lowest_27 rfl hb.1 hb.2 ?_
        exact aw_sel [0, 1, 2] rfl (w_x_Sale_lowest_28 N d  _ ih _ _ _ _ h)
def x_Sale_lowest (N : Nat) (x1 : Int) (w : aw_W) : Option (aw_W) :=
  x_Sale_lowest_2 N N x1 0 w
theorem w_x_Sale_lowest {l : Launch} {K : aw_K} (N d : Nat) (hd : 0 ≤ d) : ∀ (x1 : Int) (w v : aw_W), x_Sale_lowest N x1 w = some v → aw_Met l K MX8_lowest (d) [.inr (.inr 17), .inl x1] w (none, v) := by
  intro x1 w v h
  unfold x_Sale_lowest at h
  refine aw_enter rfl (Nat.le_of_ble_eq_true rfl) ?_
  show aw_AW l K MX8_lowest (d) 0 [(0, .inr (.inr 17)), (1, .inl x1)] [] w (none, v)
  refine aw_iconst (pc := 0) dX8_lowest_0 ⟨by decide, by decide⟩ ?_
  refine aw_istore_n (pc := 1) (ls' := [(2, .inl 0), (0, .inr (.inr 17)), (1, .inl x1)]) dX8_lowest_1 (by decide) rfl ?_
  exact aw_sel [1, 2, 0] rfl (w_x_Sale_lowest_2 N d  N _ _ _ _ h)
theorem dX8_rowsOf_0 : decode cX8_rowsOf 0 = .ok (.iconst 1, 1) := by decide +kernel
theorem dX8_rowsOf_1 : decode cX8_rowsOf 1 = .ok (.istore_n 2, 1) := by decide +kernel
theorem dX8_rowsOf_2 : decode cX8_rowsOf 2 = .ok (.iload_n 1, 1) := by decide +kernel
theorem dX8_rowsOf_3 : decode cX8_rowsOf 3 = .ok (.invokestatic 57, 3) := by decide +kernel
theorem dX8_rowsOf_6 : decode cX8_rowsOf 6 = .ok (.istore_n 3, 1) := by decide +kernel
theorem dX8_rowsOf_7 : decode cX8_rowsOf 7 = .ok (.iload_n 3, 1) := by decide +kernel
theorem dX8_rowsOf_8 : decode cX8_rowsOf 8 = .ok (.ifCond .le 23, 3) := by decide +kernel
theorem dX8_rowsOf_11 : decode cX8_rowsOf 11 = .ok (.iload_n 2, 1) := by decide +kernel
theorem dX8_rowsOf_12 : decode cX8_rowsOf 12 = .ok (.aload_n 0, 1) := by decide +kernel
theorem dX8_rowsOf_13 : decode cX8_rowsOf 13 = .ok (.getfield 22, 3) := by decide +kernel
theorem dX8_rowsOf_16 : decode cX8_rowsOf 16 = .ok (.getfield 36, 3) := by decide +kernel
theorem dX8_rowsOf_19 : decode cX8_rowsOf 19 = .ok (.iconst 4, 1) := by decide +kernel
theorem dX8_rowsOf_20 : decode cX8_rowsOf 20 = .ok (.iaload, 1) := by decide +kernel
theorem dX8_rowsOf_21 : decode cX8_rowsOf 21 = .ok (.iconst 1, 1) := by decide +kernel
theorem dX8_rowsOf_22 : decode cX8_rowsOf 22 = .ok (.iadd, 1) := by decide +kernel
theorem dX8_rowsOf_23 : decode cX8_rowsOf 23 = .ok (.imul, 1) := by decide +kernel
theorem dX8_rowsOf_24 : decode cX8_rowsOf 24 = .ok (.istore_n 2, 1) := by decide +kernel
theorem dX8_rowsOf_25 : decode cX8_rowsOf 25 = .ok (.iinc 3 (-1), 3) := by decide +kernel
theorem dX8_rowsOf_28 : decode cX8_rowsOf 28 = .ok (.goto (-21), 3) := by decide +kernel
theorem dX8_rowsOf_31 : decode cX8_rowsOf 31 = .ok (.iload_n 2, 1) := by decide +kernel
theorem dX8_rowsOf_32 : decode cX8_rowsOf 32 = .ok (.ireturn, 1) := by decide +kernel
def x_Sale_rowsOf_31 (N : Nat) (x2 : Int) (w : aw_W) : Option (Int × aw_W) :=
  some (x2, w)
theorem w_x_Sale_rowsOf_31 {l : Launch} {K : aw_K} (N d : Nat) (hd : 0 ≤ d) : ∀ (x2 : Int) (w : aw_W) (y : Int) (v : aw_W), x_Sale_rowsOf_31 N x2 w = some (y, v) → aw_AW l K MX8_rowsOf (d + 1) 31 [(2, .inl x2)] [] w (some (.inl y), v) := by
  intro x2 w y v h
  unfold x_Sale_rowsOf_31 at h
  refine aw_iload_n (pc := 31) (q := 0) dX8_rowsOf_31 rfl ?_
  cases h
  exact aw_iret (pc := 32) rfl dX8_rowsOf_32
def x_Sale_rowsOf_7 (N : Nat) : Nat → Int → Int → aw_W → Option (Int × aw_W)
  | 0, _, _, _ => none
  | n + 1, x2, x3, w =>
    if x3 ≤ 0 then
      x_Sale_rowsOf_31 N x2 w
    else
      x_Sale_rowsOf_7 N n (aw_w (x2 * (aw_w ((w 5 4) + 1)))) (aw_w (x3 + (-1))) w
theorem w_x_Sale_rowsOf_7 {l : Launch} {K : aw_K} (N d : Nat) (hd : 0 ≤ d) : ∀ (n : Nat) (x2 x3 : Int) (w : aw_W) (y : Int) (v : aw_W), x_Sale_rowsOf_7 N n x2 x3 w = some (y, v) → aw_AW l K MX8_rowsOf (d + 1) 7 [(0, .inr (.inr 17)), (2, .inl x2), (3, .inl x3)] [] w (some (.inl y), v) := by
  intro n
  induction n with
  | zero => intro x2 x3 w y v h; rw [x_Sale_rowsOf_7] at h; cases h
  | succ n ih =>
    intro x2 x3 w y v h
    rw [x_Sale_rowsOf_7] at h
    refine aw_iload_n (pc := 7) (q := 2) dX8_rowsOf_7 rfl ?_
    refine aw_if_le (pc := 8) (tgt := 31) dX8_rowsOf_8 (by decide) (fun hc => ?_) (fun hc => ?_)
    · rw [if_pos hc] at h
      exact aw_sel [1] rfl (w_x_Sale_rowsOf_31 N d hd  _ _ _ _ h)
    · rw [if_neg hc] at h
      refine aw_iload_n (pc := 11) (q := 1) dX8_rowsOf_11 rfl ?_
      refine aw_aload_n (pc := 12) (q := 0) dX8_rowsOf_12 rfl ?_
      refine aw_getf (pc := 13) (v := .inr (.inr 3)) dX8_rowsOf_13 fl_RX8_22 (by decide) rfl rfl rfl ?_
      refine aw_getf (pc := 16) (v := .inr (.inr 5)) dX8_rowsOf_16 fl_RX8_36 (by decide) rfl rfl rfl ?_
      refine aw_iconst (pc := 19) dX8_rowsOf_19 ⟨by decide, by decide⟩ ?_
      refine aw_ialdv (pc := 20) (v := w 5 4) dX8_rowsOf_20 rfl (by decide) (by decide) rfl ?_
      refine aw_iconst (pc := 21) dX8_rowsOf_21 ⟨by decide, by decide⟩ ?_
      refine aw_iadd (pc := 22) dX8_rowsOf_22 ?_
      refine aw_imul (pc := 23) dX8_rowsOf_23 ?_
      refine aw_istore_n (pc := 24) (ls' := [(2, .inl (aw_w (x2 * (aw_w ((w 5 4) + 1))))), (0, .inr (.inr 17)), (3, .inl x3)]) dX8_rowsOf_24 (by decide) rfl ?_
      refine aw_iinc (pc := 25) (q := 2) (ls' := [(3, .inl (aw_w (x3 + (-1)))), (2, .inl (aw_w (x2 * (aw_w ((w 5 4) + 1))))), (0, .inr (.inr 17))]) dX8_rowsOf_25 rfl (by decide) rfl ?_
      refine aw_goto (pc := 28) (tgt := 7) dX8_rowsOf_28 (by decide) ?_
      exact aw_sel [2, 1, 0] rfl (ih _ _ _ _ _ h)
def x_Sale_rowsOf (N : Nat) (x1 : Int) (w : aw_W) : Option (Int × aw_W) :=
  aw_b2 (j_Int_bitCount N x1 w) fun r1 w1 =>
    x_Sale_rowsOf_7 N N 1 r1 w1
theorem w_x_Sale_rowsOf_d {l : Launch} {K : aw_K} (N d : Nat) (hd : 0 ≤ d) : ∀ (x1 : Int) (w : aw_W) (y : Int) (v : aw_W), x_Sale_rowsOf N x1 w = some (y, v) → aw_Met l K MX8_rowsOf (d + 1) [.inr (.inr 17), .inl x1] w (some (.inl y), v) := by
  intro x1 w y v h
  unfold x_Sale_rowsOf at h
  refine aw_enter rfl (Nat.le_of_ble_eq_true rfl) ?_
  show aw_AW l K MX8_rowsOf (d + 1) 0 [(0, .inr (.inr 17)), (1, .inl x1)] [] w (some (.inl y), v)
  refine aw_iconst (pc := 0) dX8_rowsOf_0 ⟨by decide, by decide⟩ ?_
  refine aw_istore_n (pc := 1) (ls' := [(2, .inl 1), (0, .inr (.inr 17)), (1, .inl x1)]) dX8_rowsOf_1 (by decide) rfl ?_
  refine aw_iload_n (pc := 2) (q := 2) dX8_rowsOf_2 rfl ?_
  obtain ⟨r1, w1, h1, h⟩ := aw_b2s h
  refine aw_callS (pc := 3) (as := [.inl x1]) (st := []) (st' := [.inl r1]) dX8_rowsOf_3 cs_RX8_57 rfl rfl (Nat.le_of_ble_eq_true rfl) (w_j_Int_bitCount N d (by omega) _ _ _ _ h1) rfl ?_
  refine aw_istore_n (pc := 6) (ls' := [(3, .inl r1), (2, .inl 1), (0, .inr (.inr 17)), (1, .inl x1)]) dX8_rowsOf_6 (by decide) rfl ?_
  exact aw_sel [2, 1, 0] rfl (w_x_Sale_rowsOf_7 N d hd  N _ _ _ _ _ h)
theorem w_x_Sale_rowsOf {l : Launch} {K : aw_K} (N d : Nat) (hd : 1 ≤ d) : ∀ (x1 : Int) (w : aw_W) (y : Int) (v : aw_W), x_Sale_rowsOf N x1 w = some (y, v) → aw_Met l K MX8_rowsOf (d) [.inr (.inr 17), .inl x1] w (some (.inl y), v) := by
  obtain ⟨e, rfl⟩ : ∃ e, d = e + 1 := ⟨d - 1, by omega⟩
  exact w_x_Sale_rowsOf_d N e (by omega)
theorem dX1_item_0 : decode cX1_item 0 = .ok (.aload_n 0, 1) := by decide +kernel
theorem dX1_item_1 : decode cX1_item 1 = .ok (.iload_n 1, 1) := by decide +kernel
theorem dX1_item_2 : decode cX1_item 2 = .ok (.invokevirtual 29, 3) := by decide +kernel
theorem dX1_item_5 : decode cX1_item 5 = .ok (.ifCond .eq 25, 3) := by decide +kernel
theorem dX1_item_8 : decode cX1_item 8 = .ok (.iload_n 2, 1) := by decide +kernel
theorem dX1_item_9 : decode cX1_item 9 = .ok (.ifCond .lt 21, 3) := by decide +kernel
theorem dX1_item_12 : decode cX1_item 12 = .ok (.iload_n 2, 1) := by decide +kernel
theorem dX1_item_13 : decode cX1_item 13 = .ok (.iconst 4, 1) := by decide +kernel
theorem dX1_item_14 : decode cX1_item 14 = .ok (.if_icmp .ge 16, 3) := by decide +kernel
theorem dX1_item_17 : decode cX1_item 17 = .ok (.aload_n 0, 1) := by decide +kernel
theorem dX1_item_18 : decode cX1_item 18 = .ok (.getfield 9, 3) := by decide +kernel
theorem dX1_item_21 : decode cX1_item 21 = .ok (.iload_n 1, 1) := by decide +kernel
theorem dX1_item_22 : decode cX1_item 22 = .ok (.iconst 4, 1) := by decide +kernel
theorem dX1_item_23 : decode cX1_item 23 = .ok (.imul, 1) := by decide +kernel
theorem dX1_item_24 : decode cX1_item 24 = .ok (.iload_n 2, 1) := by decide +kernel
theorem dX1_item_25 : decode cX1_item 25 = .ok (.iadd, 1) := by decide +kernel
theorem dX1_item_26 : decode cX1_item 26 = .ok (.iaload, 1) := by decide +kernel
theorem dX1_item_27 : decode cX1_item 27 = .ok (.goto 4, 3) := by decide +kernel
theorem dX1_item_30 : decode cX1_item 30 = .ok (.iconst 0, 1) := by decide +kernel
theorem dX1_item_31 : decode cX1_item 31 = .ok (.ireturn, 1) := by decide +kernel
def x_Land_item_31 (N : Nat) (s0 : Int) (w : aw_W) : Option (Int × aw_W) :=
  some (s0, w)
theorem w_x_Land_item_31 {l : Launch} {K : aw_K} (N d : Nat) (hd : 0 ≤ d) : ∀ (s0 : Int) (w : aw_W) (y : Int) (v : aw_W), x_Land_item_31 N s0 w = some (y, v) → aw_AW l K MX1_item (d + 1) 31 [] [.inl s0] w (some (.inl y), v) := by
  intro s0 w y v h
  unfold x_Land_item_31 at h
  cases h
  exact aw_iret (pc := 31) rfl dX1_item_31
def x_Land_item_30 (N : Nat) (w : aw_W) : Option (Int × aw_W) :=
  x_Land_item_31 N 0 w
theorem w_x_Land_item_30 {l : Launch} {K : aw_K} (N d : Nat) (hd : 0 ≤ d) : ∀ (w : aw_W) (y : Int) (v : aw_W), x_Land_item_30 N w = some (y, v) → aw_AW l K MX1_item (d + 1) 30 [] [] w (some (.inl y), v) := by
  intro w y v h
  unfold x_Land_item_30 at h
  refine aw_iconst (pc := 30) dX1_item_30 ⟨by decide, by decide⟩ ?_
  exact aw_sel [] rfl (w_x_Land_item_31 N d hd  _ _ _ _ h)
def x_Land_item (N : Nat) (x1 x2 : Int) (w : aw_W) : Option (Int × aw_W) :=
  aw_b2 (x_Land_holds N x1 w) fun r1 w1 =>
    if r1 = 0 then
      x_Land_item_30 N w1
    else
      if x2 < 0 then
        x_Land_item_30 N w1
      else
        if 4 ≤ x2 then
          x_Land_item_30 N w1
        else
          if 0 ≤ (aw_w ((aw_w (x1 * 4)) + x2)) ∧ (aw_w ((aw_w (x1 * 4)) + x2)) < 24 then
            x_Land_item_31 N (w1 4 ((aw_w ((aw_w (x1 * 4)) + x2)).toNat)) w1
          else none
theorem w_x_Land_item_d {l : Launch} {K : aw_K} (N d : Nat) (hd : 0 ≤ d) : ∀ (x1 x2 : Int) (w : aw_W) (y : Int) (v : aw_W), x_Land_item N x1 x2 w = some (y, v) → aw_Met l K MX1_item (d + 1) [.inr (.inr 3), .inl x1, .inl x2] w (some (.inl y), v) := by
  intro x1 x2 w y v h
  unfold x_Land_item at h
  refine aw_enter rfl (Nat.le_of_ble_eq_true rfl) ?_
  show aw_AW l K MX1_item (d + 1) 0 [(0, .inr (.inr 3)), (1, .inl x1), (2, .inl x2)] [] w (some (.inl y), v)
  refine aw_aload_n (pc := 0) (q := 0) dX1_item_0 rfl ?_
  refine aw_iload_n (pc := 1) (q := 1) dX1_item_1 rfl ?_
  obtain ⟨r1, w1, h1, h⟩ := aw_b2s h
  refine aw_callV (pc := 2) (as := [.inl x1]) (st := []) (st' := [.inl r1]) dX1_item_2 cv_RX1_29 (by decide) rfl rfl rfl rfl (Nat.le_of_ble_eq_true rfl) (w_x_Land_holds N d (by omega) _ _ _ _ h1) rfl ?_
  refine aw_if_eq (pc := 5) (tgt := 30) dX1_item_5 (by decide) (fun hc => ?_) (fun hc => ?_)
  · rw [if_pos hc] at h
    exact aw_sel [] rfl (w_x_Land_item_30 N d hd  _ _ _ h)
  · rw [if_neg hc] at h
    refine aw_iload_n (pc := 8) (q := 2) dX1_item_8 rfl ?_
    refine aw_if_lt (pc := 9) (tgt := 30) dX1_item_9 (by decide) (fun hc => ?_) (fun hc => ?_)
    · rw [if_pos hc] at h
      exact aw_sel [] rfl (w_x_Land_item_30 N d hd  _ _ _ h)
    · rw [if_neg hc] at h
      refine aw_iload_n (pc := 12) (q := 2) dX1_item_12 rfl ?_
      refine aw_iconst (pc := 13) dX1_item_13 ⟨by decide, by decide⟩ ?_
      refine aw_icmp_ge (pc := 14) (tgt := 30) dX1_item_14 (by decide) (fun hc => ?_) (fun hc => ?_)
      · rw [if_pos hc] at h
        exact aw_sel [] rfl (w_x_Land_item_30 N d hd  _ _ _ h)
      · rw [if_neg hc] at h
        refine aw_aload_n (pc := 17) (q := 0) dX1_item_17 rfl ?_
        refine aw_getf (pc := 18) (v := .inr (.inr 4)) dX1_item_18 fl_RX1_9 (by decide) rfl rfl rfl ?_
        refine aw_iload_n (pc := 21) (q := 1) dX1_item_21 rfl ?_
        refine aw_iconst (pc := 22) dX1_item_22 ⟨by decide, by decide⟩ ?_
        refine aw_imul (pc := 23) dX1_item_23 ?_
        refine aw_iload_n (pc := 24) (q := 2) dX1_item_24 rfl ?_
        refine aw_iadd (pc := 25) dX1_item_25 ?_
        obtain ⟨hb, h⟩ := aw_cks h
        refine aw_ialdv (pc := 26) (v := w1 4 ((aw_w ((aw_w (x1 * 4)) + x2)).toNat)) dX1_item_26 rfl hb.1 hb.2 rfl ?_
        refine aw_goto (pc := 27) (tgt := 31) dX1_item_27 (by decide) ?_
        exact aw_sel [] rfl (w_x_Land_item_31 N d hd  _ _ _ _ h)
theorem w_x_Land_item {l : Launch} {K : aw_K} (N d : Nat) (hd : 1 ≤ d) : ∀ (x1 x2 : Int) (w : aw_W) (y : Int) (v : aw_W), x_Land_item N x1 x2 w = some (y, v) → aw_Met l K MX1_item (d) [.inr (.inr 3), .inl x1, .inl x2] w (some (.inl y), v) := by
  obtain ⟨e, rfl⟩ : ∃ e, d = e + 1 := ⟨d - 1, by omega⟩
  exact w_x_Land_item_d N e (by omega)
theorem dX8_gainOf_0 : decode cX8_gainOf 0 = .ok (.aload_n 0, 1) := by decide +kernel
theorem dX8_gainOf_1 : decode cX8_gainOf 1 = .ok (.getfield 50, 3) := by decide +kernel
theorem dX8_gainOf_4 : decode cX8_gainOf 4 = .ok (.iload_n 1, 1) := by decide +kernel
theorem dX8_gainOf_5 : decode cX8_gainOf 5 = .ok (.if_icmp .ne 20, 3) := by decide +kernel
theorem dX8_gainOf_8 : decode cX8_gainOf 8 = .ok (.aload_n 0, 1) := by decide +kernel
theorem dX8_gainOf_9 : decode cX8_gainOf 9 = .ok (.getfield 22, 3) := by decide +kernel
theorem dX8_gainOf_12 : decode cX8_gainOf 12 = .ok (.iload_n 1, 1) := by decide +kernel
theorem dX8_gainOf_13 : decode cX8_gainOf 13 = .ok (.iconst 1, 1) := by decide +kernel
theorem dX8_gainOf_14 : decode cX8_gainOf 14 = .ok (.invokevirtual 77, 3) := by decide +kernel
theorem dX8_gainOf_17 : decode cX8_gainOf 17 = .ok (.aload_n 0, 1) := by decide +kernel
theorem dX8_gainOf_18 : decode cX8_gainOf 18 = .ok (.getfield 71, 3) := by decide +kernel
theorem dX8_gainOf_21 : decode cX8_gainOf 21 = .ok (.isub, 1) := by decide +kernel
theorem dX8_gainOf_22 : decode cX8_gainOf 22 = .ok (.goto 4, 3) := by decide +kernel
theorem dX8_gainOf_25 : decode cX8_gainOf 25 = .ok (.iconst 0, 1) := by decide +kernel
theorem dX8_gainOf_26 : decode cX8_gainOf 26 = .ok (.istore_n 2, 1) := by decide +kernel
theorem dX8_gainOf_27 : decode cX8_gainOf 27 = .ok (.aload_n 0, 1) := by decide +kernel
theorem dX8_gainOf_28 : decode cX8_gainOf 28 = .ok (.getfield 55, 3) := by decide +kernel
theorem dX8_gainOf_31 : decode cX8_gainOf 31 = .ok (.iload_n 1, 1) := by decide +kernel
theorem dX8_gainOf_32 : decode cX8_gainOf 32 = .ok (.ishr, 1) := by decide +kernel
theorem dX8_gainOf_33 : decode cX8_gainOf 33 = .ok (.iconst 1, 1) := by decide +kernel
theorem dX8_gainOf_34 : decode cX8_gainOf 34 = .ok (.iand, 1) := by decide +kernel
theorem dX8_gainOf_35 : decode cX8_gainOf 35 = .ok (.ifCond .ne 7, 3) := by decide +kernel
theorem dX8_gainOf_38 : decode cX8_gainOf 38 = .ok (.iload_n 2, 1) := by decide +kernel
theorem dX8_gainOf_39 : decode cX8_gainOf 39 = .ok (.goto 14, 3) := by decide +kernel
theorem dX8_gainOf_42 : decode cX8_gainOf 42 = .ok (.iload_n 2, 1) := by decide +kernel
theorem dX8_gainOf_43 : decode cX8_gainOf 43 = .ok (.aload_n 0, 1) := by decide +kernel
theorem dX8_gainOf_44 : decode cX8_gainOf 44 = .ok (.getfield 22, 3) := by decide +kernel
theorem dX8_gainOf_47 : decode cX8_gainOf 47 = .ok (.getfield 36, 3) := by decide +kernel
theorem dX8_gainOf_50 : decode cX8_gainOf 50 = .ok (.iconst 3, 1) := by decide +kernel
theorem dX8_gainOf_51 : decode cX8_gainOf 51 = .ok (.iaload, 1) := by decide +kernel
theorem dX8_gainOf_52 : decode cX8_gainOf 52 = .ok (.isub, 1) := by decide +kernel
theorem dX8_gainOf_53 : decode cX8_gainOf 53 = .ok (.ireturn, 1) := by decide +kernel
def x_Sale_gainOf_53 (N : Nat) (s0 : Int) (w : aw_W) : Option (Int × aw_W) :=
  some (s0, w)
theorem w_x_Sale_gainOf_53 {l : Launch} {K : aw_K} (N d : Nat) (hd : 1 ≤ d) : ∀ (s0 : Int) (w : aw_W) (y : Int) (v : aw_W), x_Sale_gainOf_53 N s0 w = some (y, v) → aw_AW l K MX8_gainOf (d + 1) 53 [] [.inl s0] w (some (.inl y), v) := by
  intro s0 w y v h
  unfold x_Sale_gainOf_53 at h
  cases h
  exact aw_iret (pc := 53) rfl dX8_gainOf_53
def x_Sale_gainOf_26 (N : Nat) (x1 s0 : Int) (w : aw_W) : Option (Int × aw_W) :=
  if (aw_and (aw_shr (w 17 5) x1) 1) = 0 then
    x_Sale_gainOf_53 N s0 w
  else
    x_Sale_gainOf_53 N (aw_w (s0 - (w 5 3))) w
theorem w_x_Sale_gainOf_26 {l : Launch} {K : aw_K} (N d : Nat) (hd : 1 ≤ d) : ∀ (x1 s0 : Int) (w : aw_W) (y : Int) (v : aw_W), x_Sale_gainOf_26 N x1 s0 w = some (y, v) → aw_AW l K MX8_gainOf (d + 1) 26 [(0, .inr (.inr 17)), (1, .inl x1)] [.inl s0] w (some (.inl y), v) := by
  intro x1 s0 w y v h
  unfold x_Sale_gainOf_26 at h
  refine aw_istore_n (pc := 26) (ls' := [(2, .inl s0), (0, .inr (.inr 17)), (1, .inl x1)]) dX8_gainOf_26 (by decide) rfl ?_
  refine aw_aload_n (pc := 27) (q := 1) dX8_gainOf_27 rfl ?_
  refine aw_getf (pc := 28) (v := .inl (w 17 5)) dX8_gainOf_28 fl_RX8_55 (by decide) rfl rfl rfl ?_
  refine aw_iload_n (pc := 31) (q := 2) dX8_gainOf_31 rfl ?_
  refine aw_ishr (pc := 32) dX8_gainOf_32 ?_
  refine aw_iconst (pc := 33) dX8_gainOf_33 ⟨by decide, by decide⟩ ?_
  refine aw_iand (pc := 34) dX8_gainOf_34 ?_
  refine aw_if_ne (pc := 35) (tgt := 42) dX8_gainOf_35 (by decide) (fun hc => ?_) (fun hc => ?_)
  · rw [if_neg hc] at h
    refine aw_iload_n (pc := 42) (q := 0) dX8_gainOf_42 rfl ?_
    refine aw_aload_n (pc := 43) (q := 1) dX8_gainOf_43 rfl ?_
    refine aw_getf (pc := 44) (v := .inr (.inr 3)) dX8_gainOf_44 fl_RX8_22 (by decide) rfl rfl rfl ?_
    refine aw_getf (pc := 47) (v := .inr (.inr 5)) dX8_gainOf_47 fl_RX8_36 (by decide) rfl rfl rfl ?_
    refine aw_iconst (pc := 50) dX8_gainOf_50 ⟨by decide, by decide⟩ ?_
    refine aw_ialdv (pc := 51) (v := w 5 3) dX8_gainOf_51 rfl (by decide) (by decide) rfl ?_
    refine aw_isub (pc := 52) dX8_gainOf_52 ?_
    exact aw_sel [] rfl (w_x_Sale_gainOf_53 N d hd  _ _ _ _ h)
  · rw [if_pos hc] at h
    refine aw_iload_n (pc := 38) (q := 0) dX8_gainOf_38 rfl ?_
    refine aw_goto (pc := 39) (tgt := 53) dX8_gainOf_39 (by decide) ?_
    exact aw_sel [] rfl (w_x_Sale_gainOf_53 N d hd  _ _ _ _ h)
def x_Sale_gainOf (N : Nat) (x1 : Int) (w : aw_W) : Option (Int × aw_W) :=
  if (w 17 3) = x1 then
    aw_b2 (x_Land_item N x1 1 w) fun r1 w1 =>
      x_Sale_gainOf_26 N x1 (aw_w (r1 - (w1 17 4))) w1
  else
    x_Sale_gainOf_26 N x1 0 w
theorem w_x_Sale_gainOf_d {l : Launch} {K : aw_K} (N d : Nat) (hd : 1 ≤ d) : ∀ (x1 : Int) (w : aw_W) (y : Int) (v : aw_W), x_Sale_gainOf N x1 w = some (y, v) → aw_Met l K MX8_gainOf (d + 1) [.inr (.inr 17), .inl x1] w (some (.inl y), v) := by
  intro x1 w y v h
  unfold x_Sale_gainOf at h
  refine aw_enter rfl (Nat.le_of_ble_eq_true rfl) ?_
  show aw_AW l K MX8_gainOf (d + 1) 0 [(0, .inr (.inr 17)), (1, .inl x1)] [] w (some (.inl y), v)
  refine aw_aload_n (pc := 0) (q := 0) dX8_gainOf_0 rfl ?_
  refine aw_getf (pc := 1) (v := .inl (w 17 3)) dX8_gainOf_1 fl_RX8_50 (by decide) rfl rfl rfl ?_
  refine aw_iload_n (pc := 4) (q := 1) dX8_gainOf_4 rfl ?_
  refine aw_icmp_ne (pc := 5) (tgt := 25) dX8_gainOf_5 (by decide) (fun hc => ?_) (fun hc => ?_)
  · rw [if_neg hc] at h
    refine aw_iconst (pc := 25) dX8_gainOf_25 ⟨by decide, by decide⟩ ?_
    exact aw_sel [0, 1] rfl (w_x_Sale_gainOf_26 N d hd  _ _ _ _ _ h)
  · rw [if_pos hc] at h
    refine aw_aload_n (pc := 8) (q := 0) dX8_gainOf_8 rfl ?_
    refine aw_getf (pc := 9) (v := .inr (.inr 3)) dX8_gainOf_9 fl_RX8_22 (by decide) rfl rfl rfl ?_
    refine aw_iload_n (pc := 12) (q := 1) dX8_gainOf_12 rfl ?_
    refine aw_iconst (pc := 13) dX8_gainOf_13 ⟨by decide, by decide⟩ ?_
    obtain ⟨r1, w1, h1, h⟩ := aw_b2s h
    refine aw_callV (pc := 14) (as := [.inl x1, .inl 1]) (st := []) (st' := [.inl r1]) dX8_gainOf_14 cv_RX8_77 (by decide) rfl rfl rfl rfl (Nat.le_of_ble_eq_true rfl) (w_x_Land_item N d (by omega) _ _ _ _ _ h1) rfl ?_
    refine aw_aload_n (pc := 17) (q := 0) dX8_gainOf_17 rfl ?_
    refine aw_getf (pc := 18) (v := .inl (w1 17 4)) dX8_gainOf_18 fl_RX8_71 (by decide) rfl rfl rfl ?_
    refine aw_isub (pc := 21) dX8_gainOf_21 ?_
    refine aw_goto (pc := 22) (tgt := 26) dX8_gainOf_22 (by decide) ?_
    exact aw_sel [0, 1] rfl (w_x_Sale_gainOf_26 N d hd  _ _ _ _ _ h)
theorem w_x_Sale_gainOf {l : Launch} {K : aw_K} (N d : Nat) (hd : 2 ≤ d) : ∀ (x1 : Int) (w : aw_W) (y : Int) (v : aw_W), x_Sale_gainOf N x1 w = some (y, v) → aw_Met l K MX8_gainOf (d) [.inr (.inr 17), .inl x1] w (some (.inl y), v) := by
  obtain ⟨e, rfl⟩ : ∃ e, d = e + 1 := ⟨d - 1, by omega⟩
  exact w_x_Sale_gainOf_d N e (by omega)
theorem dX8_next_0 : decode cX8_next 0 = .ok (.aload_n 0, 1) := by decide +kernel
theorem dX8_next_1 : decode cX8_next 1 = .ok (.getfield 22, 3) := by decide +kernel
theorem dX8_next_4 : decode cX8_next 4 = .ok (.getfield 26, 3) := by decide +kernel
theorem dX8_next_7 : decode cX8_next 7 = .ok (.iconst 1, 1) := by decide +kernel
theorem dX8_next_8 : decode cX8_next 8 = .ok (.isub, 1) := by decide +kernel
theorem dX8_next_9 : decode cX8_next 9 = .ok (.istore_n 2, 1) := by decide +kernel
theorem dX8_next_10 : decode cX8_next 10 = .ok (.iload_n 2, 1) := by decide +kernel
theorem dX8_next_11 : decode cX8_next 11 = .ok (.ifCond .lt 56, 3) := by decide +kernel
theorem dX8_next_14 : decode cX8_next 14 = .ok (.iload_n 1, 1) := by decide +kernel
theorem dX8_next_15 : decode cX8_next 15 = .ok (.iload_n 2, 1) := by decide +kernel
theorem dX8_next_16 : decode cX8_next 16 = .ok (.ishr, 1) := by decide +kernel
theorem dX8_next_17 : decode cX8_next 17 = .ok (.iconst 1, 1) := by decide +kernel
theorem dX8_next_18 : decode cX8_next 18 = .ok (.iand, 1) := by decide +kernel
theorem dX8_next_19 : decode cX8_next 19 = .ok (.ifCond .ne 6, 3) := by decide +kernel
theorem dX8_next_22 : decode cX8_next 22 = .ok (.goto 39, 3) := by decide +kernel
theorem dX8_next_25 : decode cX8_next 25 = .ok (.aload_n 0, 1) := by decide +kernel
theorem dX8_next_26 : decode cX8_next 26 = .ok (.getfield 18, 3) := by decide +kernel
theorem dX8_next_29 : decode cX8_next 29 = .ok (.iload_n 2, 1) := by decide +kernel
theorem dX8_next_30 : decode cX8_next 30 = .ok (.iaload, 1) := by decide +kernel
theorem dX8_next_31 : decode cX8_next 31 = .ok (.aload_n 0, 1) := by decide +kernel
theorem dX8_next_32 : decode cX8_next 32 = .ok (.getfield 22, 3) := by decide +kernel
theorem dX8_next_35 : decode cX8_next 35 = .ok (.getfield 36, 3) := by decide +kernel
theorem dX8_next_38 : decode cX8_next 38 = .ok (.iconst 4, 1) := by decide +kernel
theorem dX8_next_39 : decode cX8_next 39 = .ok (.iaload, 1) := by decide +kernel
theorem dX8_next_40 : decode cX8_next 40 = .ok (.if_icmp .ge 14, 3) := by decide +kernel
theorem dX8_next_43 : decode cX8_next 43 = .ok (.aload_n 0, 1) := by decide +kernel
theorem dX8_next_44 : decode cX8_next 44 = .ok (.getfield 18, 3) := by decide +kernel
theorem dX8_next_47 : decode cX8_next 47 = .ok (.iload_n 2, 1) := by decide +kernel
theorem dX8_next_48 : decode cX8_next 48 = .ok (.dup2, 1) := by decide +kernel
theorem dX8_next_49 : decode cX8_next 49 = .ok (.iaload, 1) := by decide +kernel
theorem dX8_next_50 : decode cX8_next 50 = .ok (.iconst 1, 1) := by decide +kernel
theorem dX8_next_51 : decode cX8_next 51 = .ok (.iadd, 1) := by decide +kernel
theorem dX8_next_52 : decode cX8_next 52 = .ok (.iastore, 1) := by decide +kernel
theorem dX8_next_53 : decode cX8_next 53 = .ok (.return_, 1) := by decide +kernel
theorem dX8_next_54 : decode cX8_next 54 = .ok (.aload_n 0, 1) := by decide +kernel
theorem dX8_next_55 : decode cX8_next 55 = .ok (.getfield 18, 3) := by decide +kernel
theorem dX8_next_58 : decode cX8_next 58 = .ok (.iload_n 2, 1) := by decide +kernel
theorem dX8_next_59 : decode cX8_next 59 = .ok (.iconst 0, 1) := by decide +kernel
theorem dX8_next_60 : decode cX8_next 60 = .ok (.iastore, 1) := by decide +kernel
theorem dX8_next_61 : decode cX8_next 61 = .ok (.iinc 2 (-1), 3) := by decide +kernel
theorem dX8_next_64 : decode cX8_next 64 = .ok (.goto (-54), 3) := by decide +kernel
theorem dX8_next_67 : decode cX8_next 67 = .ok (.return_, 1) := by decide +kernel
def x_Sale_next_67 (N : Nat) (w : aw_W) : Option (aw_W) :=
  some w
theorem w_x_Sale_next_67 {l : Launch} {K : aw_K} (N d : Nat) : ∀ (w v : aw_W), x_Sale_next_67 N w = some v → aw_AW l K MX8_next (d) 67 [] [] w (none, v) := by
  intro w v h
  unfold x_Sale_next_67 at h
  cases h
  exact aw_vret (pc := 67) rfl dX8_next_67
def x_Sale_next_61 (N : Nat) (k10 : Int → Int → aw_W → Option (aw_W)) (x1 x2 : Int) (w : aw_W) : Option (aw_W) :=
  k10 x1 (aw_w (x2 + (-1))) w
theorem w_x_Sale_next_61 {l : Launch} {K : aw_K} (N d : Nat) (k10 : Int → Int → aw_W → Option (aw_W)) (hk10 : ∀ (x1 x2 : Int) (w v : aw_W), k10 x1 x2 w = some v → aw_AW l K MX8_next (d) 10 [(0, .inr (.inr 17)), (1, .inl x1), (2, .inl x2)] [] w (none, v)) : ∀ (x1 x2 : Int) (w v : aw_W), x_Sale_next_61 N k10 x1 x2 w = some v → aw_AW l K MX8_next (d) 61 [(0, .inr (.inr 17)), (1, .inl x1), (2, .inl x2)] [] w (none, v) := by
  intro x1 x2 w v h
  unfold x_Sale_next_61 at h
  refine aw_iinc (pc := 61) (q := 2) (ls' := [(2, .inl (aw_w (x2 + (-1)))), (0, .inr (.inr 17)), (1, .inl x1)]) dX8_next_61 rfl (by decide) rfl ?_
  refine aw_goto (pc := 64) (tgt := 10) dX8_next_64 (by decide) ?_
  exact aw_sel [1, 2, 0] rfl (hk10 _ _ _ _ h)
def x_Sale_next_43 (N : Nat) (x2 : Int) (w : aw_W) : Option (aw_W) :=
  if 0 ≤ x2 ∧ x2 < 6 then
    if 0 ≤ x2 ∧ x2 < 6 then
      some (aw_up w 21 x2.toNat (aw_w ((w 21 x2.toNat) + 1)))
    else none
  else none
theorem w_x_Sale_next_43 {l : Launch} {K : aw_K} (N d : Nat) : ∀ (x2 : Int) (w v : aw_W), x_Sale_next_43 N x2 w = some v → aw_AW l K MX8_next (d) 43 [(0, .inr (.inr 17)), (2, .inl x2)] [] w (none, v) := by
  intro x2 w v h
  unfold x_Sale_next_43 at h
  refine aw_aload_n (pc := 43) (q := 0) dX8_next_43 rfl ?_
  refine aw_getf (pc := 44) (v := .inr (.inr 21)) dX8_next_44 fl_RX8_18 (by decide) rfl rfl rfl ?_
  refine aw_iload_n (pc := 47) (q := 1) dX8_next_47 rfl ?_
  refine aw_dup2 (pc := 48) dX8_next_48 rfl rfl ?_
  obtain ⟨hb, h⟩ := aw_cks h
  refine aw_ialdv (pc := 49) (v := w 21 x2.toNat) dX8_next_49 rfl hb.1 hb.2 rfl ?_
  refine aw_iconst (pc := 50) dX8_next_50 ⟨by decide, by decide⟩ ?_
  refine aw_iadd (pc := 51) dX8_next_51 ?_
  obtain ⟨hb, h⟩ := aw_cks h
  refine aw_iast (pc := 52) dX8_next_52 rfl hb.1 hb.2 ?_
  cases h
  exact aw_vret (pc := 53) rfl dX8_next_53
def x_Sale_next_10 (N : Nat) : Nat → Int → Int → aw_W → Option (aw_W)
  | 0, _, _, _ => none
  | n + 1, x1, x2, w =>
    if x2 < 0 then
      x_Sale_next_67 N w
    else
      if (aw_and (aw_shr x1 x2) 1) = 0 then
        x_Sale_next_61 N (x_Sale_next_10 N n) x1 x2 w
      else
        if 0 ≤ x2 ∧ x2 < 6 then
          if (w 5 4) ≤ (w 21 x2.toNat) then
            if 0 ≤ x2 ∧ x2 < 6 then
              x_Sale_next_61 N (x_Sale_next_10 N n) x1 x2 (aw_up w 21 x2.toNat 0)
            else none
          else
            x_Sale_next_43 N x2 w
        else none
theorem w_x_Sale_next_10 {l : Launch} {K : aw_K} (N d : Nat) : ∀ (n : Nat) (x1 x2 : Int) (w v : aw_W), x_Sale_next_10 N n x1 x2 w = some v → aw_AW l K MX8_next (d) 10 [(0, .inr (.inr 17)), (1, .inl x1), (2, .inl x2)] [] w (none, v) := by
  intro n
  induction n with
  | zero => intro x1 x2 w v h; rw [x_Sale_next_10] at h; cases h
  | succ n ih =>
    intro x1 x2 w v h
    rw [x_Sale_next_10] at h
    refine aw_iload_n (pc := 10) (q := 2) dX8_next_10 rfl ?_
    refine aw_if_lt (pc := 11) (tgt := 67) dX8_next_11 (by decide) (fun hc => ?_) (fun hc => ?_)
    · rw [if_pos hc] at h
      exact aw_sel [] rfl (w_x_Sale_next_67 N d  _ _ h)
    · rw [if_neg hc] at h
      refine aw_iload_n (pc := 14) (q := 1) dX8_next_14 rfl ?_
      refine aw_iload_n (pc := 15) (q := 2) dX8_next_15 rfl ?_
      refine aw_ishr (pc := 16) dX8_next_16 ?_
      refine aw_iconst (pc := 17) dX8_next_17 ⟨by decide, by decide⟩ ?_
      refine aw_iand (pc := 18) dX8_next_18 ?_
      refine aw_if_ne (pc := 19) (tgt := 25) dX8_next_19 (by decide) (fun hc => ?_) (fun hc => ?_)
      · rw [if_neg hc] at h
        refine aw_aload_n (pc := 25) (q := 0) dX8_next_25 rfl ?_
        refine aw_getf (pc := 26) (v := .inr (.inr 21)) dX8_next_26 fl_RX8_18 (by decide) rfl rfl rfl ?_
        refine aw_iload_n (pc := 29) (q := 2) dX8_next_29 rfl ?_
        obtain ⟨hb, h⟩ := aw_cks h
        refine aw_ialdv (pc := 30) (v := w 21 x2.toNat) dX8_next_30 rfl hb.1 hb.2 rfl ?_
        refine aw_aload_n (pc := 31) (q := 0) dX8_next_31 rfl ?_
        refine aw_getf (pc := 32) (v := .inr (.inr 3)) dX8_next_32 fl_RX8_22 (by decide) rfl rfl rfl ?_
        refine aw_getf (pc := 35) (v := .inr (.inr 5)) dX8_next_35 fl_RX8_36 (by decide) rfl rfl rfl ?_
        refine aw_iconst (pc := 38) dX8_next_38 ⟨by decide, by decide⟩ ?_
        refine aw_ialdv (pc := 39) (v := w 5 4) dX8_next_39 rfl (by decide) (by decide) rfl ?_
        refine aw_icmp_ge (pc := 40) (tgt := 54) dX8_next_40 (by decide) (fun hc => ?_) (fun hc => ?_)
        · rw [if_pos hc] at h
          refine aw_aload_n (pc := 54) (q := 0) dX8_next_54 rfl ?_
          refine aw_getf (pc := 55) (v := .inr (.inr 21)) dX8_next_55 fl_RX8_18 (by decide) rfl rfl rfl ?_
          refine aw_iload_n (pc := 58) (q := 2) dX8_next_58 rfl ?_
          refine aw_iconst (pc := 59) dX8_next_59 ⟨by decide, by decide⟩ ?_
          obtain ⟨hb, h⟩ := aw_cks h
          refine aw_iast (pc := 60) dX8_next_60 rfl hb.1 hb.2 ?_
          exact aw_sel [0, 1, 2] rfl (w_x_Sale_next_61 N d  _ ih _ _ _ _ h)
        · rw [if_neg hc] at h
          exact aw_sel [0, 2] rfl (w_x_Sale_next_43 N d  _ _ _ h)
      · rw [if_pos hc] at h
        refine aw_goto (pc := 22) (tgt := 61) dX8_next_22 (by decide) ?_
        exact aw_sel [0, 1, 2] rfl (w_x_Sale_next_61 N d  _ ih _ _ _ _ h)
def x_Sale_next (N : Nat) (x1 : Int) (w : aw_W) : Option (aw_W) :=
  x_Sale_next_10 N N x1 (aw_w ((w 3 4) - 1)) w
theorem w_x_Sale_next {l : Launch} {K : aw_K} (N d : Nat) (hd : 0 ≤ d) : ∀ (x1 : Int) (w v : aw_W), x_Sale_next N x1 w = some v → aw_Met l K MX8_next (d) [.inr (.inr 17), .inl x1] w (none, v) := by
  intro x1 w v h
  unfold x_Sale_next at h
  refine aw_enter rfl (Nat.le_of_ble_eq_true rfl) ?_
  show aw_AW l K MX8_next (d) 0 [(0, .inr (.inr 17)), (1, .inl x1)] [] w (none, v)
  refine aw_aload_n (pc := 0) (q := 0) dX8_next_0 rfl ?_
  refine aw_getf (pc := 1) (v := .inr (.inr 3)) dX8_next_1 fl_RX8_22 (by decide) rfl rfl rfl ?_
  refine aw_getf (pc := 4) (v := .inl (w 3 4)) dX8_next_4 fl_RX8_26 (by decide) rfl rfl rfl ?_
  refine aw_iconst (pc := 7) dX8_next_7 ⟨by decide, by decide⟩ ?_
  refine aw_isub (pc := 8) dX8_next_8 ?_
  refine aw_istore_n (pc := 9) (ls' := [(2, .inl (aw_w ((w 3 4) - 1))), (0, .inr (.inr 17)), (1, .inl x1)]) dX8_next_9 (by decide) rfl ?_
  exact aw_sel [1, 2, 0] rfl (w_x_Sale_next_10 N d  N _ _ _ _ h)
theorem dX4_against_0 : decode cX4_against 0 = .ok (.aload_n 0, 1) := by decide +kernel
theorem dX4_against_1 : decode cX4_against 1 = .ok (.iconst 0, 1) := by decide +kernel
theorem dX4_against_2 : decode cX4_against 2 = .ok (.putfield 80, 3) := by decide +kernel
theorem dX4_against_5 : decode cX4_against 5 = .ok (.aload_n 0, 1) := by decide +kernel
theorem dX4_against_6 : decode cX4_against 6 = .ok (.iconst 0, 1) := by decide +kernel
theorem dX4_against_7 : decode cX4_against 7 = .ok (.putfield 83, 3) := by decide +kernel
theorem dX4_against_10 : decode cX4_against 10 = .ok (.aload_n 0, 1) := by decide +kernel
theorem dX4_against_11 : decode cX4_against 11 = .ok (.getfield 9, 3) := by decide +kernel
theorem dX4_against_14 : decode cX4_against 14 = .ok (.invokevirtual 86, 3) := by decide +kernel
theorem dX4_against_17 : decode cX4_against 17 = .ok (.iconst 1, 1) := by decide +kernel
theorem dX4_against_18 : decode cX4_against 18 = .ok (.iload_n 1, 1) := by decide +kernel
theorem dX4_against_19 : decode cX4_against 19 = .ok (.ishl, 1) := by decide +kernel
theorem dX4_against_20 : decode cX4_against 20 = .ok (.iconst (-1), 1) := by decide +kernel
theorem dX4_against_21 : decode cX4_against 21 = .ok (.ixor, 1) := by decide +kernel
theorem dX4_against_22 : decode cX4_against 22 = .ok (.iand, 1) := by decide +kernel
theorem dX4_against_23 : decode cX4_against 23 = .ok (.istore_n 3, 1) := by decide +kernel
theorem dX4_against_24 : decode cX4_against 24 = .ok (.aload_n 0, 1) := by decide +kernel
theorem dX4_against_25 : decode cX4_against 25 = .ok (.getfield 15, 3) := by decide +kernel
theorem dX4_against_28 : decode cX4_against 28 = .ok (.iload_n 3, 1) := by decide +kernel
theorem dX4_against_29 : decode cX4_against 29 = .ok (.invokevirtual 51, 3) := by decide +kernel
theorem dX4_against_32 : decode cX4_against 32 = .ok (.aload_n 0, 1) := by decide +kernel
theorem dX4_against_33 : decode cX4_against 33 = .ok (.getfield 15, 3) := by decide +kernel
theorem dX4_against_36 : decode cX4_against 36 = .ok (.getfield 34, 3) := by decide +kernel
theorem dX4_against_39 : decode cX4_against 39 = .ok (.iload_n 1, 1) := by decide +kernel
theorem dX4_against_40 : decode cX4_against 40 = .ok (.iload_n 2, 1) := by decide +kernel
theorem dX4_against_41 : decode cX4_against 41 = .ok (.iastore, 1) := by decide +kernel
theorem dX4_against_42 : decode cX4_against 42 = .ok (.aload_n 0, 1) := by decide +kernel
theorem dX4_against_43 : decode cX4_against 43 = .ok (.getfield 15, 3) := by decide +kernel
theorem dX4_against_46 : decode cX4_against 46 = .ok (.iload_n 3, 1) := by decide +kernel
theorem dX4_against_47 : decode cX4_against 47 = .ok (.invokevirtual 55, 3) := by decide +kernel
theorem dX4_against_50 : decode cX4_against 50 = .ok (.istore 4, 2) := by decide +kernel
theorem dX4_against_52 : decode cX4_against 52 = .ok (.iconst 0, 1) := by decide +kernel
theorem dX4_against_53 : decode cX4_against 53 = .ok (.istore 5, 2) := by decide +kernel
theorem dX4_against_55 : decode cX4_against 55 = .ok (.iload 5, 2) := by decide +kernel
theorem dX4_against_57 : decode cX4_against 57 = .ok (.iload 4, 2) := by decide +kernel
theorem dX4_against_59 : decode cX4_against 59 = .ok (.if_icmp .ge 66, 3) := by decide +kernel
theorem dX4_against_62 : decode cX4_against 62 = .ok (.aload_n 0, 1) := by decide +kernel
theorem dX4_against_63 : decode cX4_against 63 = .ok (.getfield 15, 3) := by decide +kernel
theorem dX4_against_66 : decode cX4_against 66 = .ok (.invokevirtual 58, 3) := by decide +kernel
theorem dX4_against_69 : decode cX4_against 69 = .ok (.aload_n 0, 1) := by decide +kernel
theorem dX4_against_70 : decode cX4_against 70 = .ok (.dup, 1) := by decide +kernel
theorem dX4_against_71 : decode cX4_against 71 = .ok (.getfield 80, 3) := by decide +kernel
theorem dX4_against_74 : decode cX4_against 74 = .ok (.aload_n 0, 1) := by decide +kernel
theorem dX4_against_75 : decode cX4_against 75 = .ok (.getfield 15, 3) := by decide +kernel
theorem dX4_against_78 : decode cX4_against 78 = .ok (.getfield 89, 3) := by decide +kernel
theorem dX4_against_81 : decode cX4_against 81 = .ok (.iload_n 1, 1) := by decide +kernel
theorem dX4_against_82 : decode cX4_against 82 = .ok (.if_icmp .ne 7, 3) := by decide +kernel
theorem dX4_against_85 : decode cX4_against 85 = .ok (.iconst 1, 1) := by decide +kernel
theorem dX4_against_86 : decode cX4_against 86 = .ok (.goto 4, 3) := by decide +kernel
theorem dX4_against_89 : decode cX4_against 89 = .ok (.iconst 0, 1) := by decide +kernel
theorem dX4_against_90 : decode cX4_against 90 = .ok (.iadd, 1) := by decide +kernel
theorem dX4_against_91 : decode cX4_against 91 = .ok (.putfield 80, 3) := by decide +kernel
theorem dX4_against_94 : decode cX4_against 94 = .ok (.aload_n 0, 1) := by decide +kernel
theorem dX4_against_95 : decode cX4_against 95 = .ok (.dup, 1) := by decide +kernel
theorem dX4_against_96 : decode cX4_against 96 = .ok (.getfield 83, 3) := by decide +kernel
theorem dX4_against_99 : decode cX4_against 99 = .ok (.aload_n 0, 1) := by decide +kernel
theorem dX4_against_100 : decode cX4_against 100 = .ok (.getfield 15, 3) := by decide +kernel
theorem dX4_against_103 : decode cX4_against 103 = .ok (.iload_n 1, 1) := by decide +kernel
theorem dX4_against_104 : decode cX4_against 104 = .ok (.invokevirtual 77, 3) := by decide +kernel
theorem dX4_against_107 : decode cX4_against 107 = .ok (.iadd, 1) := by decide +kernel
theorem dX4_against_108 : decode cX4_against 108 = .ok (.putfield 83, 3) := by decide +kernel
theorem dX4_against_111 : decode cX4_against 111 = .ok (.aload_n 0, 1) := by decide +kernel
theorem dX4_against_112 : decode cX4_against 112 = .ok (.getfield 15, 3) := by decide +kernel
theorem dX4_against_115 : decode cX4_against 115 = .ok (.iload_n 3, 1) := by decide +kernel
theorem dX4_against_116 : decode cX4_against 116 = .ok (.invokevirtual 74, 3) := by decide +kernel
theorem dX4_against_119 : decode cX4_against 119 = .ok (.iinc 5 1, 3) := by decide +kernel
theorem dX4_against_122 : decode cX4_against 122 = .ok (.goto (-67), 3) := by decide +kernel
theorem dX4_against_125 : decode cX4_against 125 = .ok (.return_, 1) := by decide +kernel
def x_Replies_against_125 (N : Nat) (w : aw_W) : Option (aw_W) :=
  some w
theorem w_x_Replies_against_125 {l : Launch} {K : aw_K} (N d : Nat) (hd : 2 ≤ d) : ∀ (w v : aw_W), x_Replies_against_125 N w = some v → aw_AW l K MX4_against (d + 1) 125 [] [] w (none, v) := by
  intro w v h
  unfold x_Replies_against_125 at h
  cases h
  exact aw_vret (pc := 125) rfl dX4_against_125
def x_Replies_against_90 (N : Nat) (k55 : Int → Int → Int → Int → aw_W → Option (aw_W)) (x1 x3 x4 x5 s0 s1 : Int) (w : aw_W) : Option (aw_W) :=
  aw_b2 (x_Sale_gainOf N x1 (aw_up w 22 7 (aw_w (s1 + s0)))) fun r1 w1 =>
    aw_b1 (x_Sale_next N x3 (aw_up w1 22 8 (aw_w ((w 22 8) + r1)))) fun w2 =>
      k55 x1 x3 x4 (aw_w (x5 + 1)) w2
theorem w_x_Replies_against_90 {l : Launch} {K : aw_K} (N d : Nat) (hd : 2 ≤ d) (k55 : Int → Int → Int → Int → aw_W → Option (aw_W)) (hk55 : ∀ (x1 x3 x4 x5 : Int) (w v : aw_W), k55 x1 x3 x4 x5 w = some v → aw_AW l K MX4_against (d + 1) 55 [(0, .inr (.inr 22)), (1, .inl x1), (3, .inl x3), (4, .inl x4), (5, .inl x5)] [] w (none, v)) : ∀ (x1 x3 x4 x5 s0 s1 : Int) (w v : aw_W), x_Replies_against_90 N k55 x1 x3 x4 x5 s0 s1 w = some v → aw_AW l K MX4_against (d + 1) 90 [(0, .inr (.inr 22)), (1, .inl x1), (3, .inl x3), (4, .inl x4), (5, .inl x5)] [.inl s0, .inl s1, .inr (.inr 22)] w (none, v) := by
  intro x1 x3 x4 x5 s0 s1 w v h
  unfold x_Replies_against_90 at h
  refine aw_iadd (pc := 90) dX4_against_90 ?_
  refine aw_puti (pc := 91) dX4_against_91 fp_RX4_80 (by decide) rfl rfl ?_
  refine aw_aload_n (pc := 94) (q := 0) dX4_against_94 rfl ?_
  refine aw_dup (pc := 95) dX4_against_95 rfl ?_
  refine aw_getf (pc := 96) (v := .inl (w 22 8)) dX4_against_96 fl_RX4_83 (by decide) rfl rfl rfl ?_
  refine aw_aload_n (pc := 99) (q := 0) dX4_against_99 rfl ?_
  refine aw_getf (pc := 100) (v := .inr (.inr 17)) dX4_against_100 fl_RX4_15 (by decide) rfl rfl rfl ?_
  refine aw_iload_n (pc := 103) (q := 1) dX4_against_103 rfl ?_
  obtain ⟨r1, w1, h1, h⟩ := aw_b2s h
  refine aw_callV (pc := 104) (as := [.inl x1]) (st := [.inl (w 22 8), .inr (.inr 22)]) (st' := [.inl r1, .inl (w 22 8), .inr (.inr 22)]) dX4_against_104 cv_RX4_77 (by decide) rfl rfl rfl rfl (Nat.le_of_ble_eq_true rfl) (w_x_Sale_gainOf N d (by omega) _ _ _ _ h1) rfl ?_
  refine aw_iadd (pc := 107) dX4_against_107 ?_
  refine aw_puti (pc := 108) dX4_against_108 fp_RX4_83 (by decide) rfl rfl ?_
  refine aw_aload_n (pc := 111) (q := 0) dX4_against_111 rfl ?_
  refine aw_getf (pc := 112) (v := .inr (.inr 17)) dX4_against_112 fl_RX4_15 (by decide) rfl rfl rfl ?_
  refine aw_iload_n (pc := 115) (q := 2) dX4_against_115 rfl ?_
  obtain ⟨w2, h2, h⟩ := aw_b1s h
  refine aw_callV (pc := 116) (as := [.inl x3]) (st := []) (st' := []) dX4_against_116 cv_RX4_74 (by decide) rfl rfl rfl rfl (Nat.le_of_ble_eq_true rfl) (w_x_Sale_next N d (by omega) _ _ _ h2) rfl ?_
  refine aw_iinc (pc := 119) (q := 4) (ls' := [(5, .inl (aw_w (x5 + 1))), (0, .inr (.inr 22)), (1, .inl x1), (3, .inl x3), (4, .inl x4)]) dX4_against_119 rfl (by decide) rfl ?_
  refine aw_goto (pc := 122) (tgt := 55) dX4_against_122 (by decide) ?_
  exact aw_sel [1, 2, 3, 4, 0] rfl (hk55 _ _ _ _ _ _ h)
def x_Replies_against_55 (N : Nat) : Nat → Int → Int → Int → Int → aw_W → Option (aw_W)
  | 0, _, _, _, _, _ => none
  | n + 1, x1, x3, x4, x5, w =>
    if x4 ≤ x5 then
      x_Replies_against_125 N w
    else
      aw_b1 (x_Sale_settle N w) fun w1 =>
        if (w1 17 3) = x1 then
          x_Replies_against_90 N (x_Replies_against_55 N n) x1 x3 x4 x5 1 (w1 22 7) w1
        else
          x_Replies_against_90 N (x_Replies_against_55 N n) x1 x3 x4 x5 0 (w1 22 7) w1
theorem w_x_Replies_against_55 {l : Launch} {K : aw_K} (N d : Nat) (hd : 2 ≤ d) : ∀ (n : Nat) (x1 x3 x4 x5 : Int) (w v : aw_W), x_Replies_against_55 N n x1 x3 x4 x5 w = some v → aw_AW l K MX4_against (d + 1) 55 [(0, .inr (.inr 22)), (1, .inl x1), (3, .inl x3), (4, .inl x4), (5, .inl x5)] [] w (none, v) := by
  intro n
  induction n with
  | zero => intro x1 x3 x4 x5 w v h; rw [x_Replies_against_55] at h; cases h
  | succ n ih =>
    intro x1 x3 x4 x5 w v h
    rw [x_Replies_against_55] at h
    refine aw_iload (pc := 55) (q := 4) dX4_against_55 rfl ?_
    refine aw_iload (pc := 57) (q := 3) dX4_against_57 rfl ?_
    refine aw_icmp_ge (pc := 59) (tgt := 125) dX4_against_59 (by decide) (fun hc => ?_) (fun hc => ?_)
    · rw [if_pos hc] at h
      exact aw_sel [] rfl (w_x_Replies_against_125 N d hd  _ _ h)
    · rw [if_neg hc] at h
      refine aw_aload_n (pc := 62) (q := 0) dX4_against_62 rfl ?_
      refine aw_getf (pc := 63) (v := .inr (.inr 17)) dX4_against_63 fl_RX4_15 (by decide) rfl rfl rfl ?_
      obtain ⟨w1, h1, h⟩ := aw_b1s h
      refine aw_callV (pc := 66) (as := []) (st := []) (st' := []) dX4_against_66 cv_RX4_58 (by decide) rfl rfl rfl rfl (Nat.le_of_ble_eq_true rfl) (w_x_Sale_settle N d (by omega) _ _ h1) rfl ?_
      refine aw_aload_n (pc := 69) (q := 0) dX4_against_69 rfl ?_
      refine aw_dup (pc := 70) dX4_against_70 rfl ?_
      refine aw_getf (pc := 71) (v := .inl (w1 22 7)) dX4_against_71 fl_RX4_80 (by decide) rfl rfl rfl ?_
      refine aw_aload_n (pc := 74) (q := 0) dX4_against_74 rfl ?_
      refine aw_getf (pc := 75) (v := .inr (.inr 17)) dX4_against_75 fl_RX4_15 (by decide) rfl rfl rfl ?_
      refine aw_getf (pc := 78) (v := .inl (w1 17 3)) dX4_against_78 fl_RX4_89 (by decide) rfl rfl rfl ?_
      refine aw_iload_n (pc := 81) (q := 1) dX4_against_81 rfl ?_
      refine aw_icmp_ne (pc := 82) (tgt := 89) dX4_against_82 (by decide) (fun hc => ?_) (fun hc => ?_)
      · rw [if_neg hc] at h
        refine aw_iconst (pc := 89) dX4_against_89 ⟨by decide, by decide⟩ ?_
        exact aw_sel [0, 1, 2, 3, 4] rfl (w_x_Replies_against_90 N d hd  _ ih _ _ _ _ _ _ _ _ h)
      · rw [if_pos hc] at h
        refine aw_iconst (pc := 85) dX4_against_85 ⟨by decide, by decide⟩ ?_
        refine aw_goto (pc := 86) (tgt := 90) dX4_against_86 (by decide) ?_
        exact aw_sel [0, 1, 2, 3, 4] rfl (w_x_Replies_against_90 N d hd  _ ih _ _ _ _ _ _ _ _ h)
def x_Replies_against (N : Nat) (x1 x2 : Int) (w : aw_W) : Option (aw_W) :=
  aw_b2 (x_Land_all N (aw_up (aw_up w 22 7 0) 22 8 0)) fun r1 w1 =>
    aw_b1 (x_Sale_lowest N (aw_and r1 (aw_xor (aw_shl 1 x1) (-1))) w1) fun w2 =>
      if 0 ≤ x1 ∧ x1 < 6 then
        aw_b2 (x_Sale_rowsOf N (aw_and r1 (aw_xor (aw_shl 1 x1) (-1))) (aw_up w2 21 x1.toNat x2)) fun r3 w3 =>
          x_Replies_against_55 N N x1 (aw_and r1 (aw_xor (aw_shl 1 x1) (-1))) r3 0 w3
      else none
theorem w_x_Replies_against_d {l : Launch} {K : aw_K} (N d : Nat) (hd : 2 ≤ d) : ∀ (x1 x2 : Int) (w v : aw_W), x_Replies_against N x1 x2 w = some v → aw_Met l K MX4_against (d + 1) [.inr (.inr 22), .inl x1, .inl x2] w (none, v) := by
  intro x1 x2 w v h
  unfold x_Replies_against at h
  refine aw_enter rfl (Nat.le_of_ble_eq_true rfl) ?_
  show aw_AW l K MX4_against (d + 1) 0 [(0, .inr (.inr 22)), (1, .inl x1), (2, .inl x2)] [] w (none, v)
  refine aw_aload_n (pc := 0) (q := 0) dX4_against_0 rfl ?_
  refine aw_iconst (pc := 1) dX4_against_1 ⟨by decide, by decide⟩ ?_
  refine aw_puti (pc := 2) dX4_against_2 fp_RX4_80 (by decide) rfl rfl ?_
  refine aw_aload_n (pc := 5) (q := 0) dX4_against_5 rfl ?_
  refine aw_iconst (pc := 6) dX4_against_6 ⟨by decide, by decide⟩ ?_
  refine aw_puti (pc := 7) dX4_against_7 fp_RX4_83 (by decide) rfl rfl ?_
  refine aw_aload_n (pc := 10) (q := 0) dX4_against_10 rfl ?_
  refine aw_getf (pc := 11) (v := .inr (.inr 3)) dX4_against_11 fl_RX4_9 (by decide) rfl rfl rfl ?_
  obtain ⟨r1, w1, h1, h⟩ := aw_b2s h
  refine aw_callV (pc := 14) (as := []) (st := []) (st' := [.inl r1]) dX4_against_14 cv_RX4_86 (by decide) rfl rfl rfl rfl (Nat.le_of_ble_eq_true rfl) (w_x_Land_all N d (by omega) _ _ _ h1) rfl ?_
  refine aw_iconst (pc := 17) dX4_against_17 ⟨by decide, by decide⟩ ?_
  refine aw_iload_n (pc := 18) (q := 1) dX4_against_18 rfl ?_
  refine aw_ishl (pc := 19) dX4_against_19 ?_
  refine aw_iconst (pc := 20) dX4_against_20 ⟨by decide, by decide⟩ ?_
  refine aw_ixor (pc := 21) dX4_against_21 ?_
  refine aw_iand (pc := 22) dX4_against_22 ?_
  refine aw_istore_n (pc := 23) (ls' := [(3, .inl (aw_and r1 (aw_xor (aw_shl 1 x1) (-1)))), (0, .inr (.inr 22)), (1, .inl x1), (2, .inl x2)]) dX4_against_23 (by decide) rfl ?_
  refine aw_aload_n (pc := 24) (q := 1) dX4_against_24 rfl ?_
  refine aw_getf (pc := 25) (v := .inr (.inr 17)) dX4_against_25 fl_RX4_15 (by decide) rfl rfl rfl ?_
  refine aw_iload_n (pc := 28) (q := 0) dX4_against_28 rfl ?_
  obtain ⟨w2, h2, h⟩ := aw_b1s h
  refine aw_callV (pc := 29) (as := [.inl (aw_and r1 (aw_xor (aw_shl 1 x1) (-1)))]) (st := []) (st' := []) dX4_against_29 cv_RX4_51 (by decide) rfl rfl rfl rfl (Nat.le_of_ble_eq_true rfl) (w_x_Sale_lowest N d (by omega) _ _ _ h2) rfl ?_
  refine aw_aload_n (pc := 32) (q := 1) dX4_against_32 rfl ?_
  refine aw_getf (pc := 33) (v := .inr (.inr 17)) dX4_against_33 fl_RX4_15 (by decide) rfl rfl rfl ?_
  refine aw_getf (pc := 36) (v := .inr (.inr 21)) dX4_against_36 fl_RX4_34 (by decide) rfl rfl rfl ?_
  refine aw_iload_n (pc := 39) (q := 2) dX4_against_39 rfl ?_
  refine aw_iload_n (pc := 40) (q := 3) dX4_against_40 rfl ?_
  obtain ⟨hb, h⟩ := aw_cks h
  refine aw_iast (pc := 41) dX4_against_41 rfl hb.1 hb.2 ?_
  refine aw_aload_n (pc := 42) (q := 1) dX4_against_42 rfl ?_
  refine aw_getf (pc := 43) (v := .inr (.inr 17)) dX4_against_43 fl_RX4_15 (by decide) rfl rfl rfl ?_
  refine aw_iload_n (pc := 46) (q := 0) dX4_against_46 rfl ?_
  obtain ⟨r3, w3, h3, h⟩ := aw_b2s h
  refine aw_callV (pc := 47) (as := [.inl (aw_and r1 (aw_xor (aw_shl 1 x1) (-1)))]) (st := []) (st' := [.inl r3]) dX4_against_47 cv_RX4_55 (by decide) rfl rfl rfl rfl (Nat.le_of_ble_eq_true rfl) (w_x_Sale_rowsOf N d (by omega) _ _ _ _ h3) rfl ?_
  refine aw_istore (pc := 50) (ls' := [(4, .inl r3), (3, .inl (aw_and r1 (aw_xor (aw_shl 1 x1) (-1)))), (0, .inr (.inr 22)), (1, .inl x1), (2, .inl x2)]) dX4_against_50 (by decide) rfl ?_
  refine aw_iconst (pc := 52) dX4_against_52 ⟨by decide, by decide⟩ ?_
  refine aw_istore (pc := 53) (ls' := [(5, .inl 0), (4, .inl r3), (3, .inl (aw_and r1 (aw_xor (aw_shl 1 x1) (-1)))), (0, .inr (.inr 22)), (1, .inl x1), (2, .inl x2)]) dX4_against_53 (by decide) rfl ?_
  exact aw_sel [3, 4, 2, 1, 0] rfl (w_x_Replies_against_55 N d hd  N _ _ _ _ _ _ h)
theorem w_x_Replies_against {l : Launch} {K : aw_K} (N d : Nat) (hd : 3 ≤ d) : ∀ (x1 x2 : Int) (w v : aw_W), x_Replies_against N x1 x2 w = some v → aw_Met l K MX4_against (d) [.inr (.inr 22), .inl x1, .inl x2] w (none, v) := by
  obtain ⟨e, rfl⟩ : ∃ e, d = e + 1 := ⟨d - 1, by omega⟩
  exact w_x_Replies_against_d N e (by omega)
theorem dX4_boldest_0 : decode cX4_boldest 0 = .ok (.iconst 0, 1) := by decide +kernel
theorem dX4_boldest_1 : decode cX4_boldest 1 = .ok (.istore_n 2, 1) := by decide +kernel
theorem dX4_boldest_2 : decode cX4_boldest 2 = .ok (.iconst 0, 1) := by decide +kernel
theorem dX4_boldest_3 : decode cX4_boldest 3 = .ok (.istore_n 3, 1) := by decide +kernel
theorem dX4_boldest_4 : decode cX4_boldest 4 = .ok (.iconst 0, 1) := by decide +kernel
theorem dX4_boldest_5 : decode cX4_boldest 5 = .ok (.istore 4, 2) := by decide +kernel
theorem dX4_boldest_7 : decode cX4_boldest 7 = .ok (.iload 4, 2) := by decide +kernel
theorem dX4_boldest_9 : decode cX4_boldest 9 = .ok (.aload_n 0, 1) := by decide +kernel
theorem dX4_boldest_10 : decode cX4_boldest 10 = .ok (.getfield 9, 3) := by decide +kernel
theorem dX4_boldest_13 : decode cX4_boldest 13 = .ok (.getfield 92, 3) := by decide +kernel
theorem dX4_boldest_16 : decode cX4_boldest 16 = .ok (.iconst 4, 1) := by decide +kernel
theorem dX4_boldest_17 : decode cX4_boldest 17 = .ok (.iaload, 1) := by decide +kernel
theorem dX4_boldest_18 : decode cX4_boldest 18 = .ok (.if_icmp .gt 37, 3) := by decide +kernel
theorem dX4_boldest_21 : decode cX4_boldest 21 = .ok (.aload_n 0, 1) := by decide +kernel
theorem dX4_boldest_22 : decode cX4_boldest 22 = .ok (.iload_n 1, 1) := by decide +kernel
theorem dX4_boldest_23 : decode cX4_boldest 23 = .ok (.iload 4, 2) := by decide +kernel
theorem dX4_boldest_25 : decode cX4_boldest 25 = .ok (.invokevirtual 95, 3) := by decide +kernel
theorem dX4_boldest_28 : decode cX4_boldest 28 = .ok (.iload 4, 2) := by decide +kernel
theorem dX4_boldest_30 : decode cX4_boldest 30 = .ok (.ifCond .eq 11, 3) := by decide +kernel
theorem dX4_boldest_33 : decode cX4_boldest 33 = .ok (.aload_n 0, 1) := by decide +kernel
theorem dX4_boldest_34 : decode cX4_boldest 34 = .ok (.getfield 83, 3) := by decide +kernel
theorem dX4_boldest_37 : decode cX4_boldest 37 = .ok (.iload_n 3, 1) := by decide +kernel
theorem dX4_boldest_38 : decode cX4_boldest 38 = .ok (.if_icmp .le 11, 3) := by decide +kernel
theorem dX4_boldest_41 : decode cX4_boldest 41 = .ok (.iload 4, 2) := by decide +kernel
theorem dX4_boldest_43 : decode cX4_boldest 43 = .ok (.istore_n 2, 1) := by decide +kernel
theorem dX4_boldest_44 : decode cX4_boldest 44 = .ok (.aload_n 0, 1) := by decide +kernel
theorem dX4_boldest_45 : decode cX4_boldest 45 = .ok (.getfield 83, 3) := by decide +kernel
theorem dX4_boldest_48 : decode cX4_boldest 48 = .ok (.istore_n 3, 1) := by decide +kernel
theorem dX4_boldest_49 : decode cX4_boldest 49 = .ok (.iinc 4 1, 3) := by decide +kernel
theorem dX4_boldest_52 : decode cX4_boldest 52 = .ok (.goto (-45), 3) := by decide +kernel
theorem dX4_boldest_55 : decode cX4_boldest 55 = .ok (.iload_n 2, 1) := by decide +kernel
theorem dX4_boldest_56 : decode cX4_boldest 56 = .ok (.ireturn, 1) := by decide +kernel
def x_Replies_boldest_55 (N : Nat) (x2 : Int) (w : aw_W) : Option (Int × aw_W) :=
  some (x2, w)
theorem w_x_Replies_boldest_55 {l : Launch} {K : aw_K} (N d : Nat) (hd : 3 ≤ d) : ∀ (x2 : Int) (w : aw_W) (y : Int) (v : aw_W), x_Replies_boldest_55 N x2 w = some (y, v) → aw_AW l K MX4_boldest (d + 1) 55 [(2, .inl x2)] [] w (some (.inl y), v) := by
  intro x2 w y v h
  unfold x_Replies_boldest_55 at h
  refine aw_iload_n (pc := 55) (q := 0) dX4_boldest_55 rfl ?_
  cases h
  exact aw_iret (pc := 56) rfl dX4_boldest_56
def x_Replies_boldest_49 (N : Nat) (k7 : Int → Int → Int → Int → aw_W → Option (Int × aw_W)) (x1 x2 x3 x4 : Int) (w : aw_W) : Option (Int × aw_W) :=
  k7 x1 x2 x3 (aw_w (x4 + 1)) w
theorem w_x_Replies_boldest_49 {l : Launch} {K : aw_K} (N d : Nat) (hd : 3 ≤ d) (k7 : Int → Int → Int → Int → aw_W → Option (Int × aw_W)) (hk7 : ∀ (x1 x2 x3 x4 : Int) (w : aw_W) (y : Int) (v : aw_W), k7 x1 x2 x3 x4 w = some (y, v) → aw_AW l K MX4_boldest (d + 1) 7 [(0, .inr (.inr 22)), (1, .inl x1), (2, .inl x2), (3, .inl x3), (4, .inl x4)] [] w (some (.inl y), v)) : ∀ (x1 x2 x3 x4 : Int) (w : aw_W) (y : Int) (v : aw_W), x_Replies_boldest_49 N k7 x1 x2 x3 x4 w = some (y, v) → aw_AW l K MX4_boldest (d + 1) 49 [(0, .inr (.inr 22)), (1, .inl x1), (2, .inl x2), (3, .inl x3), (4, .inl x4)] [] w (some (.inl y), v) := by
  intro x1 x2 x3 x4 w y v h
  unfold x_Replies_boldest_49 at h
  refine aw_iinc (pc := 49) (q := 4) (ls' := [(4, .inl (aw_w (x4 + 1))), (0, .inr (.inr 22)), (1, .inl x1), (2, .inl x2), (3, .inl x3)]) dX4_boldest_49 rfl (by decide) rfl ?_
  refine aw_goto (pc := 52) (tgt := 7) dX4_boldest_52 (by decide) ?_
  exact aw_sel [1, 2, 3, 4, 0] rfl (hk7 _ _ _ _ _ _ _ h)
def x_Replies_boldest_41 (N : Nat) (k7 : Int → Int → Int → Int → aw_W → Option (Int × aw_W)) (x1 x4 : Int) (w : aw_W) : Option (Int × aw_W) :=
  x_Replies_boldest_49 N k7 x1 x4 (w 22 8) x4 w
theorem w_x_Replies_boldest_41 {l : Launch} {K : aw_K} (N d : Nat) (hd : 3 ≤ d) (k7 : Int → Int → Int → Int → aw_W → Option (Int × aw_W)) (hk7 : ∀ (x1 x2 x3 x4 : Int) (w : aw_W) (y : Int) (v : aw_W), k7 x1 x2 x3 x4 w = some (y, v) → aw_AW l K MX4_boldest (d + 1) 7 [(0, .inr (.inr 22)), (1, .inl x1), (2, .inl x2), (3, .inl x3), (4, .inl x4)] [] w (some (.inl y), v)) : ∀ (x1 x4 : Int) (w : aw_W) (y : Int) (v : aw_W), x_Replies_boldest_41 N k7 x1 x4 w = some (y, v) → aw_AW l K MX4_boldest (d + 1) 41 [(0, .inr (.inr 22)), (1, .inl x1), (4, .inl x4)] [] w (some (.inl y), v) := by
  intro x1 x4 w y v h
  unfold x_Replies_boldest_41 at h
  refine aw_iload (pc := 41) (q := 2) dX4_boldest_41 rfl ?_
  refine aw_istore_n (pc := 43) (ls' := [(2, .inl x4), (0, .inr (.inr 22)), (1, .inl x1), (4, .inl x4)]) dX4_boldest_43 (by decide) rfl ?_
  refine aw_aload_n (pc := 44) (q := 1) dX4_boldest_44 rfl ?_
  refine aw_getf (pc := 45) (v := .inl (w 22 8)) dX4_boldest_45 fl_RX4_83 (by decide) rfl rfl rfl ?_
  refine aw_istore_n (pc := 48) (ls' := [(3, .inl (w 22 8)), (2, .inl x4), (0, .inr (.inr 22)), (1, .inl x1), (4, .inl x4)]) dX4_boldest_48 (by decide) rfl ?_
  exact aw_sel [2, 3, 1, 0, 4] rfl (w_x_Replies_boldest_49 N d hd  _ hk7 _ _ _ _ _ _ _ h)
def x_Replies_boldest_7 (N : Nat) : Nat → Int → Int → Int → Int → aw_W → Option (Int × aw_W)
  | 0, _, _, _, _, _ => none
  | n + 1, x1, x2, x3, x4, w =>
    if (w 5 4) < x4 then
      x_Replies_boldest_55 N x2 w
    else
      aw_b1 (x_Replies_against N x1 x4 w) fun w1 =>
        if x4 = 0 then
          x_Replies_boldest_41 N (x_Replies_boldest_7 N n) x1 x4 w1
        else
          if (w1 22 8) ≤ x3 then
            x_Replies_boldest_49 N (x_Replies_boldest_7 N n) x1 x2 x3 x4 w1
          else
            x_Replies_boldest_41 N (x_Replies_boldest_7 N n) x1 x4 w1
theorem w_x_Replies_boldest_7 {l : Launch} {K : aw_K} (N d : Nat) (hd : 3 ≤ d) : ∀ (n : Nat) (x1 x2 x3 x4 : Int) (w : aw_W) (y : Int) (v : aw_W), x_Replies_boldest_7 N n x1 x2 x3 x4 w = some (y, v) → aw_AW l K MX4_boldest (d + 1) 7 [(0, .inr (.inr 22)), (1, .inl x1), (2, .inl x2), (3, .inl x3), (4, .inl x4)] [] w (some (.inl y), v) := by
  intro n
  induction n with
  | zero => intro x1 x2 x3 x4 w y v h; rw [x_Replies_boldest_7] at h; cases h
  | succ n ih =>
    intro x1 x2 x3 x4 w y v h
    rw [x_Replies_boldest_7] at h
    refine aw_iload (pc := 7) (q := 4) dX4_boldest_7 rfl ?_
    refine aw_aload_n (pc := 9) (q := 0) dX4_boldest_9 rfl ?_
    refine aw_getf (pc := 10) (v := .inr (.inr 3)) dX4_boldest_10 fl_RX4_9 (by decide) rfl rfl rfl ?_
    refine aw_getf (pc := 13) (v := .inr (.inr 5)) dX4_boldest_13 fl_RX4_92 (by decide) rfl rfl rfl ?_
    refine aw_iconst (pc := 16) dX4_boldest_16 ⟨by decide, by decide⟩ ?_
    refine aw_ialdv (pc := 17) (v := w 5 4) dX4_boldest_17 rfl (by decide) (by decide) rfl ?_
    refine aw_icmp_gt (pc := 18) (tgt := 55) dX4_boldest_18 (by decide) (fun hc => ?_) (fun hc => ?_)
    · rw [if_pos hc] at h
      exact aw_sel [2] rfl (w_x_Replies_boldest_55 N d hd  _ _ _ _ h)
    · rw [if_neg hc] at h
      refine aw_aload_n (pc := 21) (q := 0) dX4_boldest_21 rfl ?_
      refine aw_iload_n (pc := 22) (q := 1) dX4_boldest_22 rfl ?_
      refine aw_iload (pc := 23) (q := 4) dX4_boldest_23 rfl ?_
      obtain ⟨w1, h1, h⟩ := aw_b1s h
      refine aw_callV (pc := 25) (as := [.inl x1, .inl x4]) (st := []) (st' := []) dX4_boldest_25 cv_RX4_95 (by decide) rfl rfl rfl rfl (Nat.le_of_ble_eq_true rfl) (w_x_Replies_against N d (by omega) _ _ _ _ h1) rfl ?_
      refine aw_iload (pc := 28) (q := 4) dX4_boldest_28 rfl ?_
      refine aw_if_eq (pc := 30) (tgt := 41) dX4_boldest_30 (by decide) (fun hc => ?_) (fun hc => ?_)
      · rw [if_pos hc] at h
        exact aw_sel [0, 1, 4] rfl (w_x_Replies_boldest_41 N d hd  _ ih _ _ _ _ _ h)
      · rw [if_neg hc] at h
        refine aw_aload_n (pc := 33) (q := 0) dX4_boldest_33 rfl ?_
        refine aw_getf (pc := 34) (v := .inl (w1 22 8)) dX4_boldest_34 fl_RX4_83 (by decide) rfl rfl rfl ?_
        refine aw_iload_n (pc := 37) (q := 3) dX4_boldest_37 rfl ?_
        refine aw_icmp_le (pc := 38) (tgt := 49) dX4_boldest_38 (by decide) (fun hc => ?_) (fun hc => ?_)
        · rw [if_pos hc] at h
          exact aw_sel [0, 1, 2, 3, 4] rfl (w_x_Replies_boldest_49 N d hd  _ ih _ _ _ _ _ _ _ h)
        · rw [if_neg hc] at h
          exact aw_sel [0, 1, 4] rfl (w_x_Replies_boldest_41 N d hd  _ ih _ _ _ _ _ h)
def x_Replies_boldest (N : Nat) (x1 : Int) (w : aw_W) : Option (Int × aw_W) :=
  x_Replies_boldest_7 N N x1 0 0 0 w
theorem w_x_Replies_boldest_d {l : Launch} {K : aw_K} (N d : Nat) (hd : 3 ≤ d) : ∀ (x1 : Int) (w : aw_W) (y : Int) (v : aw_W), x_Replies_boldest N x1 w = some (y, v) → aw_Met l K MX4_boldest (d + 1) [.inr (.inr 22), .inl x1] w (some (.inl y), v) := by
  intro x1 w y v h
  unfold x_Replies_boldest at h
  refine aw_enter rfl (Nat.le_of_ble_eq_true rfl) ?_
  show aw_AW l K MX4_boldest (d + 1) 0 [(0, .inr (.inr 22)), (1, .inl x1)] [] w (some (.inl y), v)
  refine aw_iconst (pc := 0) dX4_boldest_0 ⟨by decide, by decide⟩ ?_
  refine aw_istore_n (pc := 1) (ls' := [(2, .inl 0), (0, .inr (.inr 22)), (1, .inl x1)]) dX4_boldest_1 (by decide) rfl ?_
  refine aw_iconst (pc := 2) dX4_boldest_2 ⟨by decide, by decide⟩ ?_
  refine aw_istore_n (pc := 3) (ls' := [(3, .inl 0), (2, .inl 0), (0, .inr (.inr 22)), (1, .inl x1)]) dX4_boldest_3 (by decide) rfl ?_
  refine aw_iconst (pc := 4) dX4_boldest_4 ⟨by decide, by decide⟩ ?_
  refine aw_istore (pc := 5) (ls' := [(4, .inl 0), (3, .inl 0), (2, .inl 0), (0, .inr (.inr 22)), (1, .inl x1)]) dX4_boldest_5 (by decide) rfl ?_
  exact aw_sel [3, 4, 2, 1, 0] rfl (w_x_Replies_boldest_7 N d hd  N _ _ _ _ _ _ _ h)
theorem w_x_Replies_boldest {l : Launch} {K : aw_K} (N d : Nat) (hd : 4 ≤ d) : ∀ (x1 : Int) (w : aw_W) (y : Int) (v : aw_W), x_Replies_boldest N x1 w = some (y, v) → aw_Met l K MX4_boldest (d) [.inr (.inr 22), .inl x1] w (some (.inl y), v) := by
  obtain ⟨e, rfl⟩ : ∃ e, d = e + 1 := ⟨d - 1, by omega⟩
  exact w_x_Replies_boldest_d N e (by omega)
theorem dX11_bold_0 : decode cX11_bold 0 = .ok (.aload_n 0, 1) := by decide +kernel
theorem dX11_bold_1 : decode cX11_bold 1 = .ok (.invokevirtual 208, 3) := by decide +kernel
theorem dX11_bold_4 : decode cX11_bold 4 = .ok (.ifCond .eq 25, 3) := by decide +kernel
theorem dX11_bold_7 : decode cX11_bold 7 = .ok (.aload_n 0, 1) := by decide +kernel
theorem dX11_bold_8 : decode cX11_bold 8 = .ok (.getfield 19, 3) := by decide +kernel
theorem dX11_bold_11 : decode cX11_bold 11 = .ok (.iload_n 1, 1) := by decide +kernel
theorem dX11_bold_12 : decode cX11_bold 12 = .ok (.invokevirtual 137, 3) := by decide +kernel
theorem dX11_bold_15 : decode cX11_bold 15 = .ok (.ifCond .eq 14, 3) := by decide +kernel
theorem dX11_bold_18 : decode cX11_bold 18 = .ok (.aload_n 0, 1) := by decide +kernel
theorem dX11_bold_19 : decode cX11_bold 19 = .ok (.getfield 47, 3) := by decide +kernel
theorem dX11_bold_22 : decode cX11_bold 22 = .ok (.iload_n 1, 1) := by decide +kernel
theorem dX11_bold_23 : decode cX11_bold 23 = .ok (.invokevirtual 310, 3) := by decide +kernel
theorem dX11_bold_26 : decode cX11_bold 26 = .ok (.goto 4, 3) := by decide +kernel
theorem dX11_bold_29 : decode cX11_bold 29 = .ok (.iconst (-1), 1) := by decide +kernel
theorem dX11_bold_30 : decode cX11_bold 30 = .ok (.ireturn, 1) := by decide +kernel
def x_bold_30 (N : Nat) (s0 : Int) (w : aw_W) : Option (Int × aw_W) :=
  some (s0, w)
theorem w_x_bold_30 {l : Launch} {K : aw_K} (N d : Nat) (hd : 4 ≤ d) : ∀ (s0 : Int) (w : aw_W) (y : Int) (v : aw_W), x_bold_30 N s0 w = some (y, v) → aw_AW l K MX11_bold (d + 1) 30 [] [.inl s0] w (some (.inl y), v) := by
  intro s0 w y v h
  unfold x_bold_30 at h
  cases h
  exact aw_iret (pc := 30) rfl dX11_bold_30
def x_bold_29 (N : Nat) (w : aw_W) : Option (Int × aw_W) :=
  x_bold_30 N (-1) w
theorem w_x_bold_29 {l : Launch} {K : aw_K} (N d : Nat) (hd : 4 ≤ d) : ∀ (w : aw_W) (y : Int) (v : aw_W), x_bold_29 N w = some (y, v) → aw_AW l K MX11_bold (d + 1) 29 [] [] w (some (.inl y), v) := by
  intro w y v h
  unfold x_bold_29 at h
  refine aw_iconst (pc := 29) dX11_bold_29 ⟨by decide, by decide⟩ ?_
  exact aw_sel [] rfl (w_x_bold_30 N d hd  _ _ _ _ h)
def x_bold (N : Nat) (x1 : Int) (w : aw_W) : Option (Int × aw_W) :=
  aw_b2 (x_isSmall N w) fun r1 w1 =>
    if r1 = 0 then
      x_bold_29 N w1
    else
      aw_b2 (x_Land_holds N x1 w1) fun r2 w2 =>
        if r2 = 0 then
          x_bold_29 N w2
        else
          aw_b2 (x_Replies_boldest N x1 w2) fun r3 w3 =>
            x_bold_30 N r3 w3
theorem w_x_bold_d {l : Launch} {K : aw_K} (N d : Nat) (hd : 4 ≤ d) : ∀ (x1 : Int) (w : aw_W) (y : Int) (v : aw_W), x_bold N x1 w = some (y, v) → aw_Met l K MX11_bold (d + 1) [.inr (.inr 0), .inl x1] w (some (.inl y), v) := by
  intro x1 w y v h
  unfold x_bold at h
  refine aw_enter rfl (Nat.le_of_ble_eq_true rfl) ?_
  show aw_AW l K MX11_bold (d + 1) 0 [(0, .inr (.inr 0)), (1, .inl x1)] [] w (some (.inl y), v)
  refine aw_aload_n (pc := 0) (q := 0) dX11_bold_0 rfl ?_
  obtain ⟨r1, w1, h1, h⟩ := aw_b2s h
  refine aw_callV (pc := 1) (as := []) (st := []) (st' := [.inl r1]) dX11_bold_1 cv_RX11_208 (by decide) rfl rfl rfl rfl (Nat.le_of_ble_eq_true rfl) (w_x_isSmall N d (by omega) _ _ _ h1) rfl ?_
  refine aw_if_eq (pc := 4) (tgt := 29) dX11_bold_4 (by decide) (fun hc => ?_) (fun hc => ?_)
  · rw [if_pos hc] at h
    exact aw_sel [] rfl (w_x_bold_29 N d hd  _ _ _ h)
  · rw [if_neg hc] at h
    refine aw_aload_n (pc := 7) (q := 0) dX11_bold_7 rfl ?_
    refine aw_getf (pc := 8) (v := .inr (.inr 3)) dX11_bold_8 fl_RX11_19 (by decide) rfl rfl rfl ?_
    refine aw_iload_n (pc := 11) (q := 1) dX11_bold_11 rfl ?_
    obtain ⟨r2, w2, h2, h⟩ := aw_b2s h
    refine aw_callV (pc := 12) (as := [.inl x1]) (st := []) (st' := [.inl r2]) dX11_bold_12 cv_RX11_137 (by decide) rfl rfl rfl rfl (Nat.le_of_ble_eq_true rfl) (w_x_Land_holds N d (by omega) _ _ _ _ h2) rfl ?_
    refine aw_if_eq (pc := 15) (tgt := 29) dX11_bold_15 (by decide) (fun hc => ?_) (fun hc => ?_)
    · rw [if_pos hc] at h
      exact aw_sel [] rfl (w_x_bold_29 N d hd  _ _ _ h)
    · rw [if_neg hc] at h
      refine aw_aload_n (pc := 18) (q := 0) dX11_bold_18 rfl ?_
      refine aw_getf (pc := 19) (v := .inr (.inr 22)) dX11_bold_19 fl_RX11_47 (by decide) rfl rfl rfl ?_
      refine aw_iload_n (pc := 22) (q := 1) dX11_bold_22 rfl ?_
      obtain ⟨r3, w3, h3, h⟩ := aw_b2s h
      refine aw_callV (pc := 23) (as := [.inl x1]) (st := []) (st' := [.inl r3]) dX11_bold_23 cv_RX11_310 (by decide) rfl rfl rfl rfl (Nat.le_of_ble_eq_true rfl) (w_x_Replies_boldest N d (by omega) _ _ _ _ h3) rfl ?_
      refine aw_goto (pc := 26) (tgt := 30) dX11_bold_26 (by decide) ?_
      exact aw_sel [] rfl (w_x_bold_30 N d hd  _ _ _ _ h)
theorem w_x_bold {l : Launch} {K : aw_K} (N d : Nat) (hd : 5 ≤ d) : ∀ (x1 : Int) (w : aw_W) (y : Int) (v : aw_W), x_bold N x1 w = some (y, v) → aw_Met l K MX11_bold (d) [.inr (.inr 0), .inl x1] w (some (.inl y), v) := by
  obtain ⟨e, rfl⟩ : ∃ e, d = e + 1 := ⟨d - 1, by omega⟩
  exact w_x_bold_d N e (by omega)
theorem dX11_mayRun_0 : decode cX11_mayRun 0 = .ok (.iload_n 0, 1) := by decide +kernel
theorem dX11_mayRun_1 : decode cX11_mayRun 1 = .ok (.iconst 1, 1) := by decide +kernel
theorem dX11_mayRun_2 : decode cX11_mayRun 2 = .ok (.if_icmp .lt 24, 3) := by decide +kernel
theorem dX11_mayRun_5 : decode cX11_mayRun 5 = .ok (.iload_n 0, 1) := by decide +kernel
theorem dX11_mayRun_6 : decode cX11_mayRun 6 = .ok (.bipush 99, 2) := by decide +kernel
theorem dX11_mayRun_8 : decode cX11_mayRun 8 = .ok (.if_icmp .gt 18, 3) := by decide +kernel
theorem dX11_mayRun_11 : decode cX11_mayRun 11 = .ok (.iload_n 1, 1) := by decide +kernel
theorem dX11_mayRun_12 : decode cX11_mayRun 12 = .ok (.iconst 1, 1) := by decide +kernel
theorem dX11_mayRun_13 : decode cX11_mayRun 13 = .ok (.if_icmp .lt 13, 3) := by decide +kernel
theorem dX11_mayRun_16 : decode cX11_mayRun 16 = .ok (.iload_n 1, 1) := by decide +kernel
theorem dX11_mayRun_17 : decode cX11_mayRun 17 = .ok (.bipush 99, 2) := by decide +kernel
theorem dX11_mayRun_19 : decode cX11_mayRun 19 = .ok (.if_icmp .gt 7, 3) := by decide +kernel
theorem dX11_mayRun_22 : decode cX11_mayRun 22 = .ok (.iconst 1, 1) := by decide +kernel
theorem dX11_mayRun_23 : decode cX11_mayRun 23 = .ok (.goto 4, 3) := by decide +kernel
theorem dX11_mayRun_26 : decode cX11_mayRun 26 = .ok (.iconst 0, 1) := by decide +kernel
theorem dX11_mayRun_27 : decode cX11_mayRun 27 = .ok (.ireturn, 1) := by decide +kernel
def x_mayRun_27 (N : Nat) (s0 : Int) (w : aw_W) : Option (Int × aw_W) :=
  if s0 = 0 ∨ s0 = 1 then
    some (s0, w)
  else none
theorem w_x_mayRun_27 {l : Launch} {K : aw_K} (N d : Nat) : ∀ (s0 : Int) (w : aw_W) (y : Int) (v : aw_W), x_mayRun_27 N s0 w = some (y, v) → aw_AW l K MX11_mayRun (d) 27 [] [.inl s0] w (some (.inl y), v) := by
  intro s0 w y v h
  unfold x_mayRun_27 at h
  obtain ⟨hz, h⟩ := aw_cks h
  cases h
  exact aw_zret (pc := 27) rfl hz dX11_mayRun_27
def x_mayRun_26 (N : Nat) (w : aw_W) : Option (Int × aw_W) :=
  x_mayRun_27 N 0 w
theorem w_x_mayRun_26 {l : Launch} {K : aw_K} (N d : Nat) : ∀ (w : aw_W) (y : Int) (v : aw_W), x_mayRun_26 N w = some (y, v) → aw_AW l K MX11_mayRun (d) 26 [] [] w (some (.inl y), v) := by
  intro w y v h
  unfold x_mayRun_26 at h
  refine aw_iconst (pc := 26) dX11_mayRun_26 ⟨by decide, by decide⟩ ?_
  exact aw_sel [] rfl (w_x_mayRun_27 N d  _ _ _ _ h)
def x_mayRun (N : Nat) (x0 x1 : Int) (w : aw_W) : Option (Int × aw_W) :=
  if x0 < 1 then
    x_mayRun_26 N w
  else
    if 99 < x0 then
      x_mayRun_26 N w
    else
      if x1 < 1 then
        x_mayRun_26 N w
      else
        if 99 < x1 then
          x_mayRun_26 N w
        else
          x_mayRun_27 N 1 w
theorem w_x_mayRun {l : Launch} {K : aw_K} (N d : Nat) (hd : 0 ≤ d) : ∀ (x0 x1 : Int) (w : aw_W) (y : Int) (v : aw_W), x_mayRun N x0 x1 w = some (y, v) → aw_Met l K MX11_mayRun (d) [.inl x0, .inl x1] w (some (.inl y), v) := by
  intro x0 x1 w y v h
  unfold x_mayRun at h
  refine aw_enter rfl (Nat.le_of_ble_eq_true rfl) ?_
  show aw_AW l K MX11_mayRun (d) 0 [(0, .inl x0), (1, .inl x1)] [] w (some (.inl y), v)
  refine aw_iload_n (pc := 0) (q := 0) dX11_mayRun_0 rfl ?_
  refine aw_iconst (pc := 1) dX11_mayRun_1 ⟨by decide, by decide⟩ ?_
  refine aw_icmp_lt (pc := 2) (tgt := 26) dX11_mayRun_2 (by decide) (fun hc => ?_) (fun hc => ?_)
  · rw [if_pos hc] at h
    exact aw_sel [] rfl (w_x_mayRun_26 N d  _ _ _ h)
  · rw [if_neg hc] at h
    refine aw_iload_n (pc := 5) (q := 0) dX11_mayRun_5 rfl ?_
    refine aw_bipush (pc := 6) dX11_mayRun_6 (by decide) ⟨by decide, by decide⟩ ?_
    refine aw_icmp_gt (pc := 8) (tgt := 26) dX11_mayRun_8 (by decide) (fun hc => ?_) (fun hc => ?_)
    · rw [if_pos hc] at h
      exact aw_sel [] rfl (w_x_mayRun_26 N d  _ _ _ h)
    · rw [if_neg hc] at h
      refine aw_iload_n (pc := 11) (q := 1) dX11_mayRun_11 rfl ?_
      refine aw_iconst (pc := 12) dX11_mayRun_12 ⟨by decide, by decide⟩ ?_
      refine aw_icmp_lt (pc := 13) (tgt := 26) dX11_mayRun_13 (by decide) (fun hc => ?_) (fun hc => ?_)
      · rw [if_pos hc] at h
        exact aw_sel [] rfl (w_x_mayRun_26 N d  _ _ _ h)
      · rw [if_neg hc] at h
        refine aw_iload_n (pc := 16) (q := 1) dX11_mayRun_16 rfl ?_
        refine aw_bipush (pc := 17) dX11_mayRun_17 (by decide) ⟨by decide, by decide⟩ ?_
        refine aw_icmp_gt (pc := 19) (tgt := 26) dX11_mayRun_19 (by decide) (fun hc => ?_) (fun hc => ?_)
        · rw [if_pos hc] at h
          exact aw_sel [] rfl (w_x_mayRun_26 N d  _ _ _ h)
        · rw [if_neg hc] at h
          refine aw_iconst (pc := 22) dX11_mayRun_22 ⟨by decide, by decide⟩ ?_
          refine aw_goto (pc := 23) (tgt := 27) dX11_mayRun_23 (by decide) ?_
          exact aw_sel [] rfl (w_x_mayRun_27 N d  _ _ _ _ h)
theorem dX3_rulesAsTold_0 : decode cX3_rulesAsTold 0 = .ok (.aload_n 0, 1) := by decide +kernel
theorem dX3_rulesAsTold_1 : decode cX3_rulesAsTold 1 = .ok (.getfield 31, 3) := by decide +kernel
theorem dX3_rulesAsTold_4 : decode cX3_rulesAsTold 4 = .ok (.getfield 39, 3) := by decide +kernel
theorem dX3_rulesAsTold_7 : decode cX3_rulesAsTold 7 = .ok (.iconst 0, 1) := by decide +kernel
theorem dX3_rulesAsTold_8 : decode cX3_rulesAsTold 8 = .ok (.aload_n 0, 1) := by decide +kernel
theorem dX3_rulesAsTold_9 : decode cX3_rulesAsTold 9 = .ok (.getfield 18, 3) := by decide +kernel
theorem dX3_rulesAsTold_12 : decode cX3_rulesAsTold 12 = .ok (.iconst 0, 1) := by decide +kernel
theorem dX3_rulesAsTold_13 : decode cX3_rulesAsTold 13 = .ok (.bipush 6, 2) := by decide +kernel
theorem dX3_rulesAsTold_15 : decode cX3_rulesAsTold 15 = .ok (.invokestatic 42, 3) := by decide +kernel
theorem dX3_rulesAsTold_18 : decode cX3_rulesAsTold 18 = .ok (.return_, 1) := by decide +kernel
def x_Race_rulesAsTold (N : Nat) (w : aw_W) : Option (aw_W) :=
  some (aw_cpy (w 6) w 30 0 0 6)
theorem w_x_Race_rulesAsTold {l : Launch} {K : aw_K} (N d : Nat) (hd : 0 ≤ d) : ∀ (w v : aw_W), x_Race_rulesAsTold N w = some v → aw_Met l K MX3_rulesAsTold (d) [.inr (.inr 26)] w (none, v) := by
  intro w v h
  unfold x_Race_rulesAsTold at h
  refine aw_enter rfl (Nat.le_of_ble_eq_true rfl) ?_
  show aw_AW l K MX3_rulesAsTold (d) 0 [(0, .inr (.inr 26))] [] w (none, v)
  refine aw_aload_n (pc := 0) (q := 0) dX3_rulesAsTold_0 rfl ?_
  refine aw_getf (pc := 1) (v := .inr (.inr 3)) dX3_rulesAsTold_1 fl_RX3_31 (by decide) rfl rfl rfl ?_
  refine aw_getf (pc := 4) (v := .inr (.inr 6)) dX3_rulesAsTold_4 fl_RX3_39 (by decide) rfl rfl rfl ?_
  refine aw_iconst (pc := 7) dX3_rulesAsTold_7 ⟨by decide, by decide⟩ ?_
  refine aw_aload_n (pc := 8) (q := 0) dX3_rulesAsTold_8 rfl ?_
  refine aw_getf (pc := 9) (v := .inr (.inr 30)) dX3_rulesAsTold_9 fl_RX3_18 (by decide) rfl rfl rfl ?_
  refine aw_iconst (pc := 12) dX3_rulesAsTold_12 ⟨by decide, by decide⟩ ?_
  refine aw_bipush (pc := 13) dX3_rulesAsTold_13 (by decide) ⟨by decide, by decide⟩ ?_
  refine aw_copyW (pc := 15) dX3_rulesAsTold_15 cc_RX3_42 rfl rfl (by decide) (by decide) (by decide) (by decide) (by decide) (by decide) (by decide) (Nat.le_of_ble_eq_true rfl) ?_
  cases h
  exact aw_vret (pc := 18) rfl dX3_rulesAsTold_18
theorem dX3_walk_0 : decode cX3_walk 0 = .ok (.iconst 0, 1) := by decide +kernel
theorem dX3_walk_1 : decode cX3_walk 1 = .ok (.istore_n 3, 1) := by decide +kernel
theorem dX3_walk_2 : decode cX3_walk 2 = .ok (.iload_n 3, 1) := by decide +kernel
theorem dX3_walk_3 : decode cX3_walk 3 = .ok (.aload_n 0, 1) := by decide +kernel
theorem dX3_walk_4 : decode cX3_walk 4 = .ok (.getfield 31, 3) := by decide +kernel
theorem dX3_walk_7 : decode cX3_walk 7 = .ok (.getfield 61, 3) := by decide +kernel
theorem dX3_walk_10 : decode cX3_walk 10 = .ok (.if_icmp .ge 69, 3) := by decide +kernel
theorem dX3_walk_13 : decode cX3_walk 13 = .ok (.aload_n 0, 1) := by decide +kernel
theorem dX3_walk_14 : decode cX3_walk 14 = .ok (.getfield 22, 3) := by decide +kernel
theorem dX3_walk_17 : decode cX3_walk 17 = .ok (.iload_n 3, 1) := by decide +kernel
theorem dX3_walk_18 : decode cX3_walk 18 = .ok (.iload_n 1, 1) := by decide +kernel
theorem dX3_walk_19 : decode cX3_walk 19 = .ok (.aload_n 0, 1) := by decide +kernel
theorem dX3_walk_20 : decode cX3_walk 20 = .ok (.getfield 22, 3) := by decide +kernel
theorem dX3_walk_23 : decode cX3_walk 23 = .ok (.iload_n 3, 1) := by decide +kernel
theorem dX3_walk_24 : decode cX3_walk 24 = .ok (.iaload, 1) := by decide +kernel
theorem dX3_walk_25 : decode cX3_walk 25 = .ok (.aload_n 0, 1) := by decide +kernel
theorem dX3_walk_26 : decode cX3_walk 26 = .ok (.getfield 28, 3) := by decide +kernel
theorem dX3_walk_29 : decode cX3_walk 29 = .ok (.iload_n 3, 1) := by decide +kernel
theorem dX3_walk_30 : decode cX3_walk 30 = .ok (.iaload, 1) := by decide +kernel
theorem dX3_walk_31 : decode cX3_walk 31 = .ok (.iadd, 1) := by decide +kernel
theorem dX3_walk_32 : decode cX3_walk 32 = .ok (.invokestatic 85, 3) := by decide +kernel
theorem dX3_walk_35 : decode cX3_walk 35 = .ok (.iastore, 1) := by decide +kernel
theorem dX3_walk_36 : decode cX3_walk 36 = .ok (.aload_n 0, 1) := by decide +kernel
theorem dX3_walk_37 : decode cX3_walk 37 = .ok (.getfield 22, 3) := by decide +kernel
theorem dX3_walk_40 : decode cX3_walk 40 = .ok (.iload_n 3, 1) := by decide +kernel
theorem dX3_walk_41 : decode cX3_walk 41 = .ok (.iaload, 1) := by decide +kernel
theorem dX3_walk_42 : decode cX3_walk 42 = .ok (.iload_n 1, 1) := by decide +kernel
theorem dX3_walk_43 : decode cX3_walk 43 = .ok (.if_icmp .ne 30, 3) := by decide +kernel
theorem dX3_walk_46 : decode cX3_walk 46 = .ok (.aload_n 0, 1) := by decide +kernel
theorem dX3_walk_47 : decode cX3_walk 47 = .ok (.getfield 25, 3) := by decide +kernel
theorem dX3_walk_50 : decode cX3_walk 50 = .ok (.iload_n 3, 1) := by decide +kernel
theorem dX3_walk_51 : decode cX3_walk 51 = .ok (.iaload, 1) := by decide +kernel
theorem dX3_walk_52 : decode cX3_walk 52 = .ok (.iconst (-1), 1) := by decide +kernel
theorem dX3_walk_53 : decode cX3_walk 53 = .ok (.if_icmp .ne 20, 3) := by decide +kernel
theorem dX3_walk_56 : decode cX3_walk 56 = .ok (.aload_n 0, 1) := by decide +kernel
theorem dX3_walk_57 : decode cX3_walk 57 = .ok (.getfield 25, 3) := by decide +kernel
theorem dX3_walk_60 : decode cX3_walk 60 = .ok (.iload_n 3, 1) := by decide +kernel
theorem dX3_walk_61 : decode cX3_walk 61 = .ok (.iload_n 2, 1) := by decide +kernel
theorem dX3_walk_62 : decode cX3_walk 62 = .ok (.iastore, 1) := by decide +kernel
theorem dX3_walk_63 : decode cX3_walk 63 = .ok (.aload_n 0, 1) := by decide +kernel
theorem dX3_walk_64 : decode cX3_walk 64 = .ok (.dup, 1) := by decide +kernel
theorem dX3_walk_65 : decode cX3_walk 65 = .ok (.getfield 54, 3) := by decide +kernel
theorem dX3_walk_68 : decode cX3_walk 68 = .ok (.iconst 1, 1) := by decide +kernel
theorem dX3_walk_69 : decode cX3_walk 69 = .ok (.iadd, 1) := by decide +kernel
theorem dX3_walk_70 : decode cX3_walk 70 = .ok (.putfield 54, 3) := by decide +kernel
theorem dX3_walk_73 : decode cX3_walk 73 = .ok (.iinc 3 1, 3) := by decide +kernel
theorem dX3_walk_76 : decode cX3_walk 76 = .ok (.goto (-74), 3) := by decide +kernel
theorem dX3_walk_79 : decode cX3_walk 79 = .ok (.return_, 1) := by decide +kernel
def x_Race_walk_79 (N : Nat) (w : aw_W) : Option (aw_W) :=
  some w
theorem w_x_Race_walk_79 {l : Launch} {K : aw_K} (N d : Nat) : ∀ (w v : aw_W), x_Race_walk_79 N w = some v → aw_AW l K MX3_walk (d) 79 [] [] w (none, v) := by
  intro w v h
  unfold x_Race_walk_79 at h
  cases h
  exact aw_vret (pc := 79) rfl dX3_walk_79
def x_Race_walk_73 (N : Nat) (k2 : Int → Int → Int → aw_W → Option (aw_W)) (x1 x2 x3 : Int) (w : aw_W) : Option (aw_W) :=
  k2 x1 x2 (aw_w (x3 + 1)) w
theorem w_x_Race_walk_73 {l : Launch} {K : aw_K} (N d : Nat) (k2 : Int → Int → Int → aw_W → Option (aw_W)) (hk2 : ∀ (x1 x2 x3 : Int) (w v : aw_W), k2 x1 x2 x3 w = some v → aw_AW l K MX3_walk (d) 2 [(0, .inr (.inr 26)), (1, .inl x1), (2, .inl x2), (3, .inl x3)] [] w (none, v)) : ∀ (x1 x2 x3 : Int) (w v : aw_W), x_Race_walk_73 N k2 x1 x2 x3 w = some v → aw_AW l K MX3_walk (d) 73 [(0, .inr (.inr 26)), (1, .inl x1), (2, .inl x2), (3, .inl x3)] [] w (none, v) := by
  intro x1 x2 x3 w v h
  unfold x_Race_walk_73 at h
  refine aw_iinc (pc := 73) (q := 3) (ls' := [(3, .inl (aw_w (x3 + 1))), (0, .inr (.inr 26)), (1, .inl x1), (2, .inl x2)]) dX3_walk_73 rfl (by decide) rfl ?_
  refine aw_goto (pc := 76) (tgt := 2) dX3_walk_76 (by decide) ?_
  exact aw_sel [1, 2, 3, 0] rfl (hk2 _ _ _ _ _ h)
def x_Race_walk_2 (N : Nat) : Nat → Int → Int → Int → aw_W → Option (aw_W)
  | 0, _, _, _, _ => none
  | n + 1, x1, x2, x3, w =>
    if (w 3 4) ≤ x3 then
      x_Race_walk_79 N w
    else
      if 0 ≤ x3 ∧ x3 < 6 then
        if 0 ≤ x3 ∧ x3 < 6 then
          if 0 ≤ x3 ∧ x3 < 6 then
            if 0 ≤ x3 ∧ x3 < 6 then
              if ((aw_up w 31 x3.toNat (aw_mn x1 (aw_w ((w 31 x3.toNat) + (w 33 x3.toNat))))) 31 x3.toNat) = x1 then
                if 0 ≤ x3 ∧ x3 < 6 then
                  if (w 32 x3.toNat) = (-1) then
                    if 0 ≤ x3 ∧ x3 < 6 then
                      x_Race_walk_73 N (x_Race_walk_2 N n) x1 x2 x3 (aw_up (aw_up (aw_up w 31 x3.toNat (aw_mn x1 (aw_w ((w 31 x3.toNat) + (w 33 x3.toNat))))) 32 x3.toNat x2) 26 7 (aw_w ((w 26 7) + 1)))
                    else none
                  else
                    x_Race_walk_73 N (x_Race_walk_2 N n) x1 x2 x3 (aw_up w 31 x3.toNat (aw_mn x1 (aw_w ((w 31 x3.toNat) + (w 33 x3.toNat)))))
                else none
              else
                x_Race_walk_73 N (x_Race_walk_2 N n) x1 x2 x3 (aw_up w 31 x3.toNat (aw_mn x1 (aw_w ((w 31 x3.toNat) + (w 33 x3.toNat)))))
            else none
          else none
        else none
      else none
theorem w_x_Race_walk_2 {l : Launch} {K : aw_K} (N d : Nat) : ∀ (n : Nat) (x1 x2 x3 : Int) (w v : aw_W), x_Race_walk_2 N n x1 x2 x3 w = some v → aw_AW l K MX3_walk (d) 2 [(0, .inr (.inr 26)), (1, .inl x1), (2, .inl x2), (3, .inl x3)] [] w (none, v) := by
  intro n
  induction n with
  | zero => intro x1 x2 x3 w v h; rw [x_Race_walk_2] at h; cases h
  | succ n ih =>
    intro x1 x2 x3 w v h
    rw [x_Race_walk_2] at h
    refine aw_iload_n (pc := 2) (q := 3) dX3_walk_2 rfl ?_
    refine aw_aload_n (pc := 3) (q := 0) dX3_walk_3 rfl ?_
    refine aw_getf (pc := 4) (v := .inr (.inr 3)) dX3_walk_4 fl_RX3_31 (by decide) rfl rfl rfl ?_
    refine aw_getf (pc := 7) (v := .inl (w 3 4)) dX3_walk_7 fl_RX3_61 (by decide) rfl rfl rfl ?_
    refine aw_icmp_ge (pc := 10) (tgt := 79) dX3_walk_10 (by decide) (fun hc => ?_) (fun hc => ?_)
    · rw [if_pos hc] at h
      exact aw_sel [] rfl (w_x_Race_walk_79 N d  _ _ h)
    · rw [if_neg hc] at h
      refine aw_aload_n (pc := 13) (q := 0) dX3_walk_13 rfl ?_
      refine aw_getf (pc := 14) (v := .inr (.inr 31)) dX3_walk_14 fl_RX3_22 (by decide) rfl rfl rfl ?_
      refine aw_iload_n (pc := 17) (q := 3) dX3_walk_17 rfl ?_
      refine aw_iload_n (pc := 18) (q := 1) dX3_walk_18 rfl ?_
      refine aw_aload_n (pc := 19) (q := 0) dX3_walk_19 rfl ?_
      refine aw_getf (pc := 20) (v := .inr (.inr 31)) dX3_walk_20 fl_RX3_22 (by decide) rfl rfl rfl ?_
      refine aw_iload_n (pc := 23) (q := 3) dX3_walk_23 rfl ?_
      obtain ⟨hb, h⟩ := aw_cks h
      refine aw_ialdv (pc := 24) (v := w 31 x3.toNat) dX3_walk_24 rfl hb.1 hb.2 rfl ?_
      refine aw_aload_n (pc := 25) (q := 0) dX3_walk_25 rfl ?_
      refine aw_getf (pc := 26) (v := .inr (.inr 33)) dX3_walk_26 fl_RX3_28 (by decide) rfl rfl rfl ?_
      refine aw_iload_n (pc := 29) (q := 3) dX3_walk_29 rfl ?_
      obtain ⟨hb, h⟩ := aw_cks h
      refine aw_ialdv (pc := 30) (v := w 33 x3.toNat) dX3_walk_30 rfl hb.1 hb.2 rfl ?_
      refine aw_iadd (pc := 31) dX3_walk_31 ?_
      refine aw_mmin (pc := 32) dX3_walk_32 cm_RX3_85 (Nat.le_of_ble_eq_true rfl) ?_
      obtain ⟨hb, h⟩ := aw_cks h
      refine aw_iast (pc := 35) dX3_walk_35 rfl hb.1 hb.2 ?_
      refine aw_aload_n (pc := 36) (q := 0) dX3_walk_36 rfl ?_
      refine aw_getf (pc := 37) (v := .inr (.inr 31)) dX3_walk_37 fl_RX3_22 (by decide) rfl rfl rfl ?_
      refine aw_iload_n (pc := 40) (q := 3) dX3_walk_40 rfl ?_
      obtain ⟨hb, h⟩ := aw_cks h
      refine aw_ialdv (pc := 41) (v := (aw_up w 31 x3.toNat (aw_mn x1 (aw_w ((w 31 x3.toNat) + (w 33 x3.toNat))))) 31 x3.toNat) dX3_walk_41 rfl hb.1 hb.2 rfl ?_
      refine aw_iload_n (pc := 42) (q := 1) dX3_walk_42 rfl ?_
      refine aw_icmp_ne (pc := 43) (tgt := 73) dX3_walk_43 (by decide) (fun hc => ?_) (fun hc => ?_)
      · rw [if_neg hc] at h
        exact aw_sel [0, 1, 2, 3] rfl (w_x_Race_walk_73 N d  _ ih _ _ _ _ _ h)
      · rw [if_pos hc] at h
        refine aw_aload_n (pc := 46) (q := 0) dX3_walk_46 rfl ?_
        refine aw_getf (pc := 47) (v := .inr (.inr 32)) dX3_walk_47 fl_RX3_25 (by decide) rfl rfl rfl ?_
        refine aw_iload_n (pc := 50) (q := 3) dX3_walk_50 rfl ?_
        obtain ⟨hb, h⟩ := aw_cks h
        refine aw_ialdv (pc := 51) (v := w 32 x3.toNat) dX3_walk_51 rfl hb.1 hb.2 rfl ?_
        refine aw_iconst (pc := 52) dX3_walk_52 ⟨by decide, by decide⟩ ?_
        refine aw_icmp_ne (pc := 53) (tgt := 73) dX3_walk_53 (by decide) (fun hc => ?_) (fun hc => ?_)
        · rw [if_neg hc] at h
          exact aw_sel [0, 1, 2, 3] rfl (w_x_Race_walk_73 N d  _ ih _ _ _ _ _ h)
        · rw [if_pos hc] at h
          refine aw_aload_n (pc := 56) (q := 0) dX3_walk_56 rfl ?_
          refine aw_getf (pc := 57) (v := .inr (.inr 32)) dX3_walk_57 fl_RX3_25 (by decide) rfl rfl rfl ?_
          refine aw_iload_n (pc := 60) (q := 3) dX3_walk_60 rfl ?_
          refine aw_iload_n (pc := 61) (q := 2) dX3_walk_61 rfl ?_
          obtain ⟨hb, h⟩ := aw_cks h
          refine aw_iast (pc := 62) dX3_walk_62 rfl hb.1 hb.2 ?_
          refine aw_aload_n (pc := 63) (q := 0) dX3_walk_63 rfl ?_
          refine aw_dup (pc := 64) dX3_walk_64 rfl ?_
          refine aw_getf (pc := 65) (v := .inl (w 26 7)) dX3_walk_65 fl_RX3_54 (by decide) rfl rfl rfl ?_
          refine aw_iconst (pc := 68) dX3_walk_68 ⟨by decide, by decide⟩ ?_
          refine aw_iadd (pc := 69) dX3_walk_69 ?_
          refine aw_puti (pc := 70) dX3_walk_70 fp_RX3_54 (by decide) rfl rfl ?_
          exact aw_sel [0, 1, 2, 3] rfl (w_x_Race_walk_73 N d  _ ih _ _ _ _ _ h)
def x_Race_walk (N : Nat) (x1 x2 : Int) (w : aw_W) : Option (aw_W) :=
  x_Race_walk_2 N N x1 x2 0 w
theorem w_x_Race_walk {l : Launch} {K : aw_K} (N d : Nat) (hd : 0 ≤ d) : ∀ (x1 x2 : Int) (w v : aw_W), x_Race_walk N x1 x2 w = some v → aw_Met l K MX3_walk (d) [.inr (.inr 26), .inl x1, .inl x2] w (none, v) := by
  intro x1 x2 w v h
  unfold x_Race_walk at h
  refine aw_enter rfl (Nat.le_of_ble_eq_true rfl) ?_
  show aw_AW l K MX3_walk (d) 0 [(0, .inr (.inr 26)), (1, .inl x1), (2, .inl x2)] [] w (none, v)
  refine aw_iconst (pc := 0) dX3_walk_0 ⟨by decide, by decide⟩ ?_
  refine aw_istore_n (pc := 1) (ls' := [(3, .inl 0), (0, .inr (.inr 26)), (1, .inl x1), (2, .inl x2)]) dX3_walk_1 (by decide) rfl ?_
  exact aw_sel [1, 2, 3, 0] rfl (w_x_Race_walk_2 N d  N _ _ _ _ _ h)
theorem dX7_holds_0 : decode cX7_holds 0 = .ok (.iload_n 1, 1) := by decide +kernel
theorem dX7_holds_1 : decode cX7_holds 1 = .ok (.ifCond .lt 15, 3) := by decide +kernel
theorem dX7_holds_4 : decode cX7_holds 4 = .ok (.iload_n 1, 1) := by decide +kernel
theorem dX7_holds_5 : decode cX7_holds 5 = .ok (.aload_n 0, 1) := by decide +kernel
theorem dX7_holds_6 : decode cX7_holds 6 = .ok (.getfield 30, 3) := by decide +kernel
theorem dX7_holds_9 : decode cX7_holds 9 = .ok (.if_icmp .ge 7, 3) := by decide +kernel
theorem dX7_holds_12 : decode cX7_holds 12 = .ok (.iconst 1, 1) := by decide +kernel
theorem dX7_holds_13 : decode cX7_holds 13 = .ok (.goto 4, 3) := by decide +kernel
theorem dX7_holds_16 : decode cX7_holds 16 = .ok (.iconst 0, 1) := by decide +kernel
theorem dX7_holds_17 : decode cX7_holds 17 = .ok (.ireturn, 1) := by decide +kernel
def x_Rules_holds_17 (N : Nat) (s0 : Int) (w : aw_W) : Option (Int × aw_W) :=
  if s0 = 0 ∨ s0 = 1 then
    some (s0, w)
  else none
theorem w_x_Rules_holds_17 {l : Launch} {K : aw_K} (N d : Nat) : ∀ (s0 : Int) (w : aw_W) (y : Int) (v : aw_W), x_Rules_holds_17 N s0 w = some (y, v) → aw_AW l K MX7_holds (d) 17 [] [.inl s0] w (some (.inl y), v) := by
  intro s0 w y v h
  unfold x_Rules_holds_17 at h
  obtain ⟨hz, h⟩ := aw_cks h
  cases h
  exact aw_zret (pc := 17) rfl hz dX7_holds_17
def x_Rules_holds_16 (N : Nat) (w : aw_W) : Option (Int × aw_W) :=
  x_Rules_holds_17 N 0 w
theorem w_x_Rules_holds_16 {l : Launch} {K : aw_K} (N d : Nat) : ∀ (w : aw_W) (y : Int) (v : aw_W), x_Rules_holds_16 N w = some (y, v) → aw_AW l K MX7_holds (d) 16 [] [] w (some (.inl y), v) := by
  intro w y v h
  unfold x_Rules_holds_16 at h
  refine aw_iconst (pc := 16) dX7_holds_16 ⟨by decide, by decide⟩ ?_
  exact aw_sel [] rfl (w_x_Rules_holds_17 N d  _ _ _ _ h)
def x_Rules_holds (N : Nat) (x1 : Int) (w : aw_W) : Option (Int × aw_W) :=
  if x1 < 0 then
    x_Rules_holds_16 N w
  else
    if (w 11 6) ≤ x1 then
      x_Rules_holds_16 N w
    else
      x_Rules_holds_17 N 1 w
theorem w_x_Rules_holds {l : Launch} {K : aw_K} (N d : Nat) (hd : 0 ≤ d) : ∀ (x1 : Int) (w : aw_W) (y : Int) (v : aw_W), x_Rules_holds N x1 w = some (y, v) → aw_Met l K MX7_holds (d) [.inr (.inr 11), .inl x1] w (some (.inl y), v) := by
  intro x1 w y v h
  unfold x_Rules_holds at h
  refine aw_enter rfl (Nat.le_of_ble_eq_true rfl) ?_
  show aw_AW l K MX7_holds (d) 0 [(0, .inr (.inr 11)), (1, .inl x1)] [] w (some (.inl y), v)
  refine aw_iload_n (pc := 0) (q := 1) dX7_holds_0 rfl ?_
  refine aw_if_lt (pc := 1) (tgt := 16) dX7_holds_1 (by decide) (fun hc => ?_) (fun hc => ?_)
  · rw [if_pos hc] at h
    exact aw_sel [] rfl (w_x_Rules_holds_16 N d  _ _ _ h)
  · rw [if_neg hc] at h
    refine aw_iload_n (pc := 4) (q := 1) dX7_holds_4 rfl ?_
    refine aw_aload_n (pc := 5) (q := 0) dX7_holds_5 rfl ?_
    refine aw_getf (pc := 6) (v := .inl (w 11 6)) dX7_holds_6 fl_RX7_30 (by decide) rfl rfl rfl ?_
    refine aw_icmp_ge (pc := 9) (tgt := 16) dX7_holds_9 (by decide) (fun hc => ?_) (fun hc => ?_)
    · rw [if_pos hc] at h
      exact aw_sel [] rfl (w_x_Rules_holds_16 N d  _ _ _ h)
    · rw [if_neg hc] at h
      refine aw_iconst (pc := 12) dX7_holds_12 ⟨by decide, by decide⟩ ?_
      refine aw_goto (pc := 13) (tgt := 17) dX7_holds_13 (by decide) ?_
      exact aw_sel [] rfl (w_x_Rules_holds_17 N d  _ _ _ _ h)
