theorem dX11_waits_0 : decode cX11_waits 0 = .ok (.aload_n 0, 1) := by decide +kernel
theorem dX11_waits_1 : decode cX11_waits 1 = .ok (.getfield 19, 3) := by decide +kernel
theorem dX11_waits_4 : decode cX11_waits 4 = .ok (.iload_n 2, 1) := by decide +kernel
theorem dX11_waits_5 : decode cX11_waits 5 = .ok (.invokevirtual 137, 3) := by decide +kernel
theorem dX11_waits_8 : decode cX11_waits 8 = .ok (.ifCond .eq 14, 3) := by decide +kernel
theorem dX11_waits_11 : decode cX11_waits 11 = .ok (.iload_n 1, 1) := by decide +kernel
theorem dX11_waits_12 : decode cX11_waits 12 = .ok (.iconst 1, 1) := by decide +kernel
theorem dX11_waits_13 : decode cX11_waits 13 = .ok (.if_icmp .lt 9, 3) := by decide +kernel
theorem dX11_waits_16 : decode cX11_waits 16 = .ok (.iload_n 1, 1) := by decide +kernel
theorem dX11_waits_17 : decode cX11_waits 17 = .ok (.bipush 60, 2) := by decide +kernel
theorem dX11_waits_19 : decode cX11_waits 19 = .ok (.if_icmp .le 6, 3) := by decide +kernel
theorem dX11_waits_22 : decode cX11_waits 22 = .ok (.ldc 165, 2) := by decide +kernel
theorem dX11_waits_24 : decode cX11_waits 24 = .ok (.ireturn, 1) := by decide +kernel
theorem dX11_waits_25 : decode cX11_waits 25 = .ok (.aload_n 0, 1) := by decide +kernel
theorem dX11_waits_26 : decode cX11_waits 26 = .ok (.getfield 70, 3) := by decide +kernel
theorem dX11_waits_29 : decode cX11_waits 29 = .ok (.iload_n 1, 1) := by decide +kernel
theorem dX11_waits_30 : decode cX11_waits 30 = .ok (.invokevirtual 260, 3) := by decide +kernel
theorem dX11_waits_33 : decode cX11_waits 33 = .ok (.aload_n 0, 1) := by decide +kernel
theorem dX11_waits_34 : decode cX11_waits 34 = .ok (.getfield 70, 3) := by decide +kernel
theorem dX11_waits_37 : decode cX11_waits 37 = .ok (.iload_n 1, 1) := by decide +kernel
theorem dX11_waits_38 : decode cX11_waits 38 = .ok (.aload_n 0, 1) := by decide +kernel
theorem dX11_waits_39 : decode cX11_waits 39 = .ok (.getfield 19, 3) := by decide +kernel
theorem dX11_waits_42 : decode cX11_waits 42 = .ok (.getfield 151, 3) := by decide +kernel
theorem dX11_waits_45 : decode cX11_waits 45 = .ok (.iconst 3, 1) := by decide +kernel
theorem dX11_waits_46 : decode cX11_waits 46 = .ok (.iaload, 1) := by decide +kernel
theorem dX11_waits_47 : decode cX11_waits 47 = .ok (.invokevirtual 263, 3) := by decide +kernel
theorem dX11_waits_50 : decode cX11_waits 50 = .ok (.pop, 1) := by decide +kernel
theorem dX11_waits_51 : decode cX11_waits 51 = .ok (.aload_n 0, 1) := by decide +kernel
theorem dX11_waits_52 : decode cX11_waits 52 = .ok (.getfield 70, 3) := by decide +kernel
theorem dX11_waits_55 : decode cX11_waits 55 = .ok (.iload_n 1, 1) := by decide +kernel
theorem dX11_waits_56 : decode cX11_waits 56 = .ok (.iload_n 2, 1) := by decide +kernel
theorem dX11_waits_57 : decode cX11_waits 57 = .ok (.invokevirtual 266, 3) := by decide +kernel
theorem dX11_waits_60 : decode cX11_waits 60 = .ok (.ireturn, 1) := by decide +kernel
def x_waits_22 (N : Nat) (w : aw_W) : Option (Int × aw_W) :=
  some ((-1000000), w)
theorem w_x_waits_22 {l : Launch} {K : aw_K} (N d : Nat) (hd : 3 ≤ d) : ∀ (w : aw_W) (y : Int) (v : aw_W), x_waits_22 N w = some (y, v) → aw_AW l K MX11_waits (d + 1) 22 [] [] w (some (.inl y), v) := by
  intro w y v h
  unfold x_waits_22 at h
  refine aw_ldc (pc := 22) (x := (-1000000)) dX11_waits_22 cn_RX11_165 ⟨by decide, by decide⟩ ?_
  cases h
  exact aw_iret (pc := 24) rfl dX11_waits_24
def x_waits (N : Nat) (x1 x2 : Int) (w : aw_W) : Option (Int × aw_W) :=
  aw_b2 (x_Land_holds N x2 w) fun r1 w1 =>
    if r1 = 0 then
      x_waits_22 N w1
    else
      if x1 < 1 then
        x_waits_22 N w1
      else
        if x1 ≤ 60 then
          aw_b1 (x_Waiting_behindTheFirst N x1 w1) fun w2 =>
            aw_b2 (x_Waiting_tillTheFirst N x1 (w2 5 3) w2) fun r3 w3 =>
              aw_b2 (x_Waiting_turnOf N x1 x2 w3) fun r4 w4 =>
                some (r4, w4)
        else
          x_waits_22 N w1
theorem w_x_waits_d {l : Launch} {K : aw_K} (N d : Nat) (hd : 3 ≤ d) : ∀ (x1 x2 : Int) (w : aw_W) (y : Int) (v : aw_W), x_waits N x1 x2 w = some (y, v) → aw_Met l K MX11_waits (d + 1) [.inr (.inr 0), .inl x1, .inl x2] w (some (.inl y), v) := by
  intro x1 x2 w y v h
  unfold x_waits at h
  refine aw_enter rfl (Nat.le_of_ble_eq_true rfl) ?_
  show aw_AW l K MX11_waits (d + 1) 0 [(0, .inr (.inr 0)), (1, .inl x1), (2, .inl x2)] [] w (some (.inl y), v)
  refine aw_aload_n (pc := 0) (q := 0) dX11_waits_0 rfl ?_
  refine aw_getf (pc := 1) (v := .inr (.inr 3)) dX11_waits_1 fl_RX11_19 (by decide) rfl rfl rfl ?_
  refine aw_iload_n (pc := 4) (q := 2) dX11_waits_4 rfl ?_
  obtain ⟨r1, w1, h1, h⟩ := aw_b2s h
  refine aw_callV (pc := 5) (as := [.inl x2]) (st := []) (st' := [.inl r1]) dX11_waits_5 cv_RX11_137 (by decide) rfl rfl rfl rfl (Nat.le_of_ble_eq_true rfl) (w_x_Land_holds N d (by omega) _ _ _ _ h1) rfl ?_
  refine aw_if_eq (pc := 8) (tgt := 22) dX11_waits_8 (by decide) (fun hc => ?_) (fun hc => ?_)
  · rw [if_pos hc] at h
    exact aw_sel [] rfl (w_x_waits_22 N d hd  _ _ _ h)
  · rw [if_neg hc] at h
    refine aw_iload_n (pc := 11) (q := 1) dX11_waits_11 rfl ?_
    refine aw_iconst (pc := 12) dX11_waits_12 ⟨by decide, by decide⟩ ?_
    refine aw_icmp_lt (pc := 13) (tgt := 22) dX11_waits_13 (by decide) (fun hc => ?_) (fun hc => ?_)
    · rw [if_pos hc] at h
      exact aw_sel [] rfl (w_x_waits_22 N d hd  _ _ _ h)
    · rw [if_neg hc] at h
      refine aw_iload_n (pc := 16) (q := 1) dX11_waits_16 rfl ?_
      refine aw_bipush (pc := 17) dX11_waits_17 (by decide) ⟨by decide, by decide⟩ ?_
      refine aw_icmp_le (pc := 19) (tgt := 25) dX11_waits_19 (by decide) (fun hc => ?_) (fun hc => ?_)
      · rw [if_pos hc] at h
        refine aw_aload_n (pc := 25) (q := 0) dX11_waits_25 rfl ?_
        refine aw_getf (pc := 26) (v := .inr (.inr 34)) dX11_waits_26 fl_RX11_70 (by decide) rfl rfl rfl ?_
        refine aw_iload_n (pc := 29) (q := 1) dX11_waits_29 rfl ?_
        obtain ⟨w2, h2, h⟩ := aw_b1s h
        refine aw_callV (pc := 30) (as := [.inl x1]) (st := []) (st' := []) dX11_waits_30 cv_RX11_260 (by decide) rfl rfl rfl rfl (Nat.le_of_ble_eq_true rfl) (w_x_Waiting_behindTheFirst N d (by omega) _ _ _ h2) rfl ?_
        refine aw_aload_n (pc := 33) (q := 0) dX11_waits_33 rfl ?_
        refine aw_getf (pc := 34) (v := .inr (.inr 34)) dX11_waits_34 fl_RX11_70 (by decide) rfl rfl rfl ?_
        refine aw_iload_n (pc := 37) (q := 1) dX11_waits_37 rfl ?_
        refine aw_aload_n (pc := 38) (q := 0) dX11_waits_38 rfl ?_
        refine aw_getf (pc := 39) (v := .inr (.inr 3)) dX11_waits_39 fl_RX11_19 (by decide) rfl rfl rfl ?_
        refine aw_getf (pc := 42) (v := .inr (.inr 5)) dX11_waits_42 fl_RX11_151 (by decide) rfl rfl rfl ?_
        refine aw_iconst (pc := 45) dX11_waits_45 ⟨by decide, by decide⟩ ?_
        refine aw_ialdv (pc := 46) (v := w2 5 3) dX11_waits_46 rfl (by decide) (by decide) rfl ?_
        obtain ⟨r3, w3, h3, h⟩ := aw_b2s h
        refine aw_callV (pc := 47) (as := [.inl x1, .inl (w2 5 3)]) (st := []) (st' := [.inl r3]) dX11_waits_47 cv_RX11_263 (by decide) rfl rfl rfl rfl (Nat.le_of_ble_eq_true rfl) (w_x_Waiting_tillTheFirst N d (by omega) _ _ _ _ _ h3) rfl ?_
        refine aw_pop (pc := 50) dX11_waits_50 rfl ?_
        refine aw_aload_n (pc := 51) (q := 0) dX11_waits_51 rfl ?_
        refine aw_getf (pc := 52) (v := .inr (.inr 34)) dX11_waits_52 fl_RX11_70 (by decide) rfl rfl rfl ?_
        refine aw_iload_n (pc := 55) (q := 1) dX11_waits_55 rfl ?_
        refine aw_iload_n (pc := 56) (q := 2) dX11_waits_56 rfl ?_
        obtain ⟨r4, w4, h4, h⟩ := aw_b2s h
        refine aw_callV (pc := 57) (as := [.inl x1, .inl x2]) (st := []) (st' := [.inl r4]) dX11_waits_57 cv_RX11_266 (by decide) rfl rfl rfl rfl (Nat.le_of_ble_eq_true rfl) (w_x_Waiting_turnOf N d (by omega) _ _ _ _ _ h4) rfl ?_
        cases h
        exact aw_iret (pc := 60) rfl dX11_waits_60
      · rw [if_neg hc] at h
        exact aw_sel [] rfl (w_x_waits_22 N d hd  _ _ _ h)
theorem w_x_waits {l : Launch} {K : aw_K} (N d : Nat) (hd : 4 ≤ d) : ∀ (x1 x2 : Int) (w : aw_W) (y : Int) (v : aw_W), x_waits N x1 x2 w = some (y, v) → aw_Met l K MX11_waits (d) [.inr (.inr 0), .inl x1, .inl x2] w (some (.inl y), v) := by
  obtain ⟨e, rfl⟩ : ∃ e, d = e + 1 := ⟨d - 1, by omega⟩
  exact w_x_waits_d N e (by omega)
theorem dX11_without_0 : decode cX11_without 0 = .ok (.aload_n 0, 1) := by decide +kernel
theorem dX11_without_1 : decode cX11_without 1 = .ok (.getfield 19, 3) := by decide +kernel
theorem dX11_without_4 : decode cX11_without 4 = .ok (.iload_n 3, 1) := by decide +kernel
theorem dX11_without_5 : decode cX11_without 5 = .ok (.invokevirtual 137, 3) := by decide +kernel
theorem dX11_without_8 : decode cX11_without 8 = .ok (.ifCond .eq 11, 3) := by decide +kernel
theorem dX11_without_11 : decode cX11_without 11 = .ok (.iload_n 1, 1) := by decide +kernel
theorem dX11_without_12 : decode cX11_without 12 = .ok (.iload_n 2, 1) := by decide +kernel
theorem dX11_without_13 : decode cX11_without 13 = .ok (.invokestatic 161, 3) := by decide +kernel
theorem dX11_without_16 : decode cX11_without 16 = .ok (.ifCond .ne 6, 3) := by decide +kernel
theorem dX11_without_19 : decode cX11_without 19 = .ok (.ldc 165, 2) := by decide +kernel
theorem dX11_without_21 : decode cX11_without 21 = .ok (.ireturn, 1) := by decide +kernel
theorem dX11_without_22 : decode cX11_without 22 = .ok (.aload_n 0, 1) := by decide +kernel
theorem dX11_without_23 : decode cX11_without 23 = .ok (.iload_n 1, 1) := by decide +kernel
theorem dX11_without_24 : decode cX11_without 24 = .ok (.iload_n 2, 1) := by decide +kernel
theorem dX11_without_25 : decode cX11_without 25 = .ok (.iload_n 3, 1) := by decide +kernel
theorem dX11_without_26 : decode cX11_without 26 = .ok (.iconst (-1), 1) := by decide +kernel
theorem dX11_without_27 : decode cX11_without 27 = .ok (.invokevirtual 322, 3) := by decide +kernel
theorem dX11_without_30 : decode cX11_without 30 = .ok (.ireturn, 1) := by decide +kernel
def x_without_19 (N : Nat) (w : aw_W) : Option (Int × aw_W) :=
  some ((-1000000), w)
theorem w_x_without_19 {l : Launch} {K : aw_K} (N d : Nat) (hd : 5 ≤ d) : ∀ (w : aw_W) (y : Int) (v : aw_W), x_without_19 N w = some (y, v) → aw_AW l K MX11_without (d + 1) 19 [] [] w (some (.inl y), v) := by
  intro w y v h
  unfold x_without_19 at h
  refine aw_ldc (pc := 19) (x := (-1000000)) dX11_without_19 cn_RX11_165 ⟨by decide, by decide⟩ ?_
  cases h
  exact aw_iret (pc := 21) rfl dX11_without_21
def x_without (N : Nat) (x1 x2 x3 : Int) (w : aw_W) : Option (Int × aw_W) :=
  aw_b2 (x_Land_holds N x3 w) fun r1 w1 =>
    if r1 = 0 then
      x_without_19 N w1
    else
      aw_b2 (x_mayRun N x1 x2 w1) fun r2 w2 =>
        if r2 = 0 then
          x_without_19 N w2
        else
          aw_b2 (x_holderWith N x1 x2 x3 (-1) w2) fun r3 w3 =>
            some (r3, w3)
theorem w_x_without_d {l : Launch} {K : aw_K} (N d : Nat) (hd : 5 ≤ d) : ∀ (x1 x2 x3 : Int) (w : aw_W) (y : Int) (v : aw_W), x_without N x1 x2 x3 w = some (y, v) → aw_Met l K MX11_without (d + 1) [.inr (.inr 0), .inl x1, .inl x2, .inl x3] w (some (.inl y), v) := by
  intro x1 x2 x3 w y v h
  unfold x_without at h
  refine aw_enter rfl (Nat.le_of_ble_eq_true rfl) ?_
  show aw_AW l K MX11_without (d + 1) 0 [(0, .inr (.inr 0)), (1, .inl x1), (2, .inl x2), (3, .inl x3)] [] w (some (.inl y), v)
  refine aw_aload_n (pc := 0) (q := 0) dX11_without_0 rfl ?_
  refine aw_getf (pc := 1) (v := .inr (.inr 3)) dX11_without_1 fl_RX11_19 (by decide) rfl rfl rfl ?_
  refine aw_iload_n (pc := 4) (q := 3) dX11_without_4 rfl ?_
  obtain ⟨r1, w1, h1, h⟩ := aw_b2s h
  refine aw_callV (pc := 5) (as := [.inl x3]) (st := []) (st' := [.inl r1]) dX11_without_5 cv_RX11_137 (by decide) rfl rfl rfl rfl (Nat.le_of_ble_eq_true rfl) (w_x_Land_holds N d (by omega) _ _ _ _ h1) rfl ?_
  refine aw_if_eq (pc := 8) (tgt := 19) dX11_without_8 (by decide) (fun hc => ?_) (fun hc => ?_)
  · rw [if_pos hc] at h
    exact aw_sel [] rfl (w_x_without_19 N d hd  _ _ _ h)
  · rw [if_neg hc] at h
    refine aw_iload_n (pc := 11) (q := 1) dX11_without_11 rfl ?_
    refine aw_iload_n (pc := 12) (q := 2) dX11_without_12 rfl ?_
    obtain ⟨r2, w2, h2, h⟩ := aw_b2s h
    refine aw_callS (pc := 13) (as := [.inl x1, .inl x2]) (st := []) (st' := [.inl r2]) dX11_without_13 cs_RX11_161 rfl rfl (Nat.le_of_ble_eq_true rfl) (w_x_mayRun N d (by omega) _ _ _ _ _ h2) rfl ?_
    refine aw_if_ne (pc := 16) (tgt := 22) dX11_without_16 (by decide) (fun hc => ?_) (fun hc => ?_)
    · rw [if_neg hc] at h
      refine aw_aload_n (pc := 22) (q := 0) dX11_without_22 rfl ?_
      refine aw_iload_n (pc := 23) (q := 1) dX11_without_23 rfl ?_
      refine aw_iload_n (pc := 24) (q := 2) dX11_without_24 rfl ?_
      refine aw_iload_n (pc := 25) (q := 3) dX11_without_25 rfl ?_
      refine aw_iconst (pc := 26) dX11_without_26 ⟨by decide, by decide⟩ ?_
      obtain ⟨r3, w3, h3, h⟩ := aw_b2s h
      refine aw_callV (pc := 27) (as := [.inl x1, .inl x2, .inl x3, .inl (-1)]) (st := []) (st' := [.inl r3]) dX11_without_27 cv_RX11_322 (by decide) rfl rfl rfl rfl (Nat.le_of_ble_eq_true rfl) (w_x_holderWith N d (by omega) _ _ _ _ _ _ _ h3) rfl ?_
      cases h
      exact aw_iret (pc := 30) rfl dX11_without_30
    · rw [if_pos hc] at h
      exact aw_sel [] rfl (w_x_without_19 N d hd  _ _ _ h)
theorem w_x_without {l : Launch} {K : aw_K} (N d : Nat) (hd : 6 ≤ d) : ∀ (x1 x2 x3 : Int) (w : aw_W) (y : Int) (v : aw_W), x_without N x1 x2 x3 w = some (y, v) → aw_Met l K MX11_without (d) [.inr (.inr 0), .inl x1, .inl x2, .inl x3] w (some (.inl y), v) := by
  obtain ⟨e, rfl⟩ : ∃ e, d = e + 1 := ⟨d - 1, by omega⟩
  exact w_x_without_d N e (by omega)
theorem dX0_drawOf_0 : decode cX0_drawOf 0 = .ok (.iload_n 0, 1) := by decide +kernel
theorem dX0_drawOf_1 : decode cX0_drawOf 1 = .ok (.ifCond .le 14, 3) := by decide +kernel
theorem dX0_drawOf_4 : decode cX0_drawOf 4 = .ok (.lload_n 1, 1) := by decide +kernel
theorem dX0_drawOf_5 : decode cX0_drawOf 5 = .ok (.bipush 33, 2) := by decide +kernel
theorem dX0_drawOf_7 : decode cX0_drawOf 7 = .ok (.lushr, 1) := by decide +kernel
theorem dX0_drawOf_8 : decode cX0_drawOf 8 = .ok (.iload_n 0, 1) := by decide +kernel
theorem dX0_drawOf_9 : decode cX0_drawOf 9 = .ok (.i2l, 1) := by decide +kernel
theorem dX0_drawOf_10 : decode cX0_drawOf 10 = .ok (.lrem, 1) := by decide +kernel
theorem dX0_drawOf_11 : decode cX0_drawOf 11 = .ok (.l2i, 1) := by decide +kernel
theorem dX0_drawOf_12 : decode cX0_drawOf 12 = .ok (.goto 4, 3) := by decide +kernel
theorem dX0_drawOf_15 : decode cX0_drawOf 15 = .ok (.iconst 0, 1) := by decide +kernel
theorem dX0_drawOf_16 : decode cX0_drawOf 16 = .ok (.ireturn, 1) := by decide +kernel
def x_Book_drawOf_16 (N : Nat) (s0 : Int) (w : aw_W) : Option (Int × aw_W) :=
  some (s0, w)
theorem w_x_Book_drawOf_16 {l : Launch} {K : aw_K} (N d : Nat) : ∀ (s0 : Int) (w : aw_W) (y : Int) (v : aw_W), x_Book_drawOf_16 N s0 w = some (y, v) → aw_AW l K MX0_drawOf (d) 16 [] [.inl s0] w (some (.inl y), v) := by
  intro s0 w y v h
  unfold x_Book_drawOf_16 at h
  cases h
  exact aw_iret (pc := 16) rfl dX0_drawOf_16
def x_Book_drawOf (N : Nat) (x0 x1 : Int) (w : aw_W) : Option (Int × aw_W) :=
  if x0 ≤ 0 then
    x_Book_drawOf_16 N 0 w
  else
    if ¬ x0 = 0 then
      x_Book_drawOf_16 N (aw_w (aw_wl (Int.tmod (aw_ushrL x1 33) x0))) w
    else none
theorem w_x_Book_drawOf {l : Launch} {K : aw_K} (N d : Nat) (hd : 0 ≤ d) : ∀ (x0 x1 : Int) (w : aw_W) (y : Int) (v : aw_W), x_Book_drawOf N x0 x1 w = some (y, v) → aw_Met l K MX0_drawOf (d) [.inl x0, .inr (.inl x1)] w (some (.inl y), v) := by
  intro x0 x1 w y v h
  unfold x_Book_drawOf at h
  refine aw_enter rfl (Nat.le_of_ble_eq_true rfl) ?_
  show aw_AW l K MX0_drawOf (d) 0 [(0, .inl x0), (1, .inr (.inl x1))] [] w (some (.inl y), v)
  refine aw_iload_n (pc := 0) (q := 0) dX0_drawOf_0 rfl ?_
  refine aw_if_le (pc := 1) (tgt := 15) dX0_drawOf_1 (by decide) (fun hc => ?_) (fun hc => ?_)
  · rw [if_pos hc] at h
    refine aw_iconst (pc := 15) dX0_drawOf_15 ⟨by decide, by decide⟩ ?_
    exact aw_sel [] rfl (w_x_Book_drawOf_16 N d  _ _ _ _ h)
  · rw [if_neg hc] at h
    refine aw_lload_n (pc := 4) (q := 1) dX0_drawOf_4 rfl ?_
    refine aw_bipush (pc := 5) dX0_drawOf_5 (by decide) ⟨by decide, by decide⟩ ?_
    refine aw_lushr (pc := 7) dX0_drawOf_7 ?_
    refine aw_iload_n (pc := 8) (q := 0) dX0_drawOf_8 rfl ?_
    refine aw_i2l (pc := 9) dX0_drawOf_9 ?_
    obtain ⟨hy, h⟩ := aw_cks h
    refine aw_lrem (pc := 10) dX0_drawOf_10 hy ?_
    refine aw_l2i (pc := 11) dX0_drawOf_11 ?_
    refine aw_goto (pc := 12) (tgt := 16) dX0_drawOf_12 (by decide) ?_
    exact aw_sel [] rfl (w_x_Book_drawOf_16 N d  _ _ _ _ h)
theorem dX0_draw_0 : decode cX0_draw 0 = .ok (.lload_n 2, 1) := by decide +kernel
theorem dX0_draw_1 : decode cX0_draw 1 = .ok (.lstore 4, 2) := by decide +kernel
theorem dX0_draw_3 : decode cX0_draw 3 = .ok (.iconst 0, 1) := by decide +kernel
theorem dX0_draw_4 : decode cX0_draw 4 = .ok (.istore 6, 2) := by decide +kernel
theorem dX0_draw_6 : decode cX0_draw 6 = .ok (.iload 6, 2) := by decide +kernel
theorem dX0_draw_8 : decode cX0_draw 8 = .ok (.iload_n 1, 1) := by decide +kernel
theorem dX0_draw_9 : decode cX0_draw 9 = .ok (.if_icmp .ge 79, 3) := by decide +kernel
theorem dX0_draw_12 : decode cX0_draw 12 = .ok (.iconst 0, 1) := by decide +kernel
theorem dX0_draw_13 : decode cX0_draw 13 = .ok (.istore 7, 2) := by decide +kernel
theorem dX0_draw_15 : decode cX0_draw 15 = .ok (.iload 7, 2) := by decide +kernel
theorem dX0_draw_17 : decode cX0_draw 17 = .ok (.aload_n 0, 1) := by decide +kernel
theorem dX0_draw_18 : decode cX0_draw 18 = .ok (.getfield 18, 3) := by decide +kernel
theorem dX0_draw_21 : decode cX0_draw 21 = .ok (.getfield 36, 3) := by decide +kernel
theorem dX0_draw_24 : decode cX0_draw 24 = .ok (.if_icmp .ge 47, 3) := by decide +kernel
theorem dX0_draw_27 : decode cX0_draw 27 = .ok (.lload 4, 2) := by decide +kernel
theorem dX0_draw_29 : decode cX0_draw 29 = .ok (.ldc2_w 39, 3) := by decide +kernel
theorem dX0_draw_32 : decode cX0_draw 32 = .ok (.lmul, 1) := by decide +kernel
theorem dX0_draw_33 : decode cX0_draw 33 = .ok (.ldc2_w 41, 3) := by decide +kernel
theorem dX0_draw_36 : decode cX0_draw 36 = .ok (.ladd, 1) := by decide +kernel
theorem dX0_draw_37 : decode cX0_draw 37 = .ok (.lstore 4, 2) := by decide +kernel
theorem dX0_draw_39 : decode cX0_draw 39 = .ok (.aload_n 0, 1) := by decide +kernel
theorem dX0_draw_40 : decode cX0_draw 40 = .ok (.getfield 22, 3) := by decide +kernel
theorem dX0_draw_43 : decode cX0_draw 43 = .ok (.getfield 43, 3) := by decide +kernel
theorem dX0_draw_46 : decode cX0_draw 46 = .ok (.iload 7, 2) := by decide +kernel
theorem dX0_draw_48 : decode cX0_draw 48 = .ok (.aload_n 0, 1) := by decide +kernel
theorem dX0_draw_49 : decode cX0_draw 49 = .ok (.getfield 18, 3) := by decide +kernel
theorem dX0_draw_52 : decode cX0_draw 52 = .ok (.getfield 48, 3) := by decide +kernel
theorem dX0_draw_55 : decode cX0_draw 55 = .ok (.iconst 4, 1) := by decide +kernel
theorem dX0_draw_56 : decode cX0_draw 56 = .ok (.iaload, 1) := by decide +kernel
theorem dX0_draw_57 : decode cX0_draw 57 = .ok (.iconst 1, 1) := by decide +kernel
theorem dX0_draw_58 : decode cX0_draw 58 = .ok (.iadd, 1) := by decide +kernel
theorem dX0_draw_59 : decode cX0_draw 59 = .ok (.lload 4, 2) := by decide +kernel
theorem dX0_draw_61 : decode cX0_draw 61 = .ok (.invokestatic 51, 3) := by decide +kernel
theorem dX0_draw_64 : decode cX0_draw 64 = .ok (.iastore, 1) := by decide +kernel
theorem dX0_draw_65 : decode cX0_draw 65 = .ok (.iinc 7 1, 3) := by decide +kernel
theorem dX0_draw_68 : decode cX0_draw 68 = .ok (.goto (-53), 3) := by decide +kernel
theorem dX0_draw_71 : decode cX0_draw 71 = .ok (.aload_n 0, 1) := by decide +kernel
theorem dX0_draw_72 : decode cX0_draw 72 = .ok (.aload_n 0, 1) := by decide +kernel
theorem dX0_draw_73 : decode cX0_draw 73 = .ok (.getfield 22, 3) := by decide +kernel
theorem dX0_draw_76 : decode cX0_draw 76 = .ok (.invokevirtual 55, 3) := by decide +kernel
theorem dX0_draw_79 : decode cX0_draw 79 = .ok (.invokevirtual 59, 3) := by decide +kernel
theorem dX0_draw_82 : decode cX0_draw 82 = .ok (.iinc 6 1, 3) := by decide +kernel
theorem dX0_draw_85 : decode cX0_draw 85 = .ok (.goto (-79), 3) := by decide +kernel
theorem dX0_draw_88 : decode cX0_draw 88 = .ok (.return_, 1) := by decide +kernel
def x_Book_draw_88 (N : Nat) (w : aw_W) : Option (aw_W) :=
  some w
theorem w_x_Book_draw_88 {l : Launch} {K : aw_K} (N d : Nat) (hd : 0 ≤ d) : ∀ (w v : aw_W), x_Book_draw_88 N w = some v → aw_AW l K MX0_draw (d + 1) 88 [] [] w (none, v) := by
  intro w v h
  unfold x_Book_draw_88 at h
  cases h
  exact aw_vret (pc := 88) rfl dX0_draw_88
def x_Book_draw_71 (N : Nat) (k6 : Int → Int → Int → aw_W → Option (aw_W)) (x1 x4 x6 : Int) (w : aw_W) : Option (aw_W) :=
  aw_b2 (x_Sale_row N w) fun r1 w1 =>
    aw_b1 (x_Book_add N r1 w1) fun w2 =>
      k6 x1 x4 (aw_w (x6 + 1)) w2
theorem w_x_Book_draw_71 {l : Launch} {K : aw_K} (N d : Nat) (hd : 0 ≤ d) (k6 : Int → Int → Int → aw_W → Option (aw_W)) (hk6 : ∀ (x1 x4 x6 : Int) (w v : aw_W), k6 x1 x4 x6 w = some v → aw_AW l K MX0_draw (d + 1) 6 [(0, .inr (.inr 41)), (1, .inl x1), (4, .inr (.inl x4)), (6, .inl x6)] [] w (none, v)) : ∀ (x1 x4 x6 : Int) (w v : aw_W), x_Book_draw_71 N k6 x1 x4 x6 w = some v → aw_AW l K MX0_draw (d + 1) 71 [(0, .inr (.inr 41)), (1, .inl x1), (4, .inr (.inl x4)), (6, .inl x6)] [] w (none, v) := by
  intro x1 x4 x6 w v h
  unfold x_Book_draw_71 at h
  refine aw_aload_n (pc := 71) (q := 0) dX0_draw_71 rfl ?_
  refine aw_aload_n (pc := 72) (q := 0) dX0_draw_72 rfl ?_
  refine aw_getf (pc := 73) (v := .inr (.inr 17)) dX0_draw_73 fl_RX0_22 (by decide) rfl rfl rfl ?_
  obtain ⟨r1, w1, h1, h⟩ := aw_b2s h
  refine aw_callV (pc := 76) (as := []) (st := [.inr (.inr 41)]) (st' := [.inl r1, .inr (.inr 41)]) dX0_draw_76 cv_RX0_55 (by decide) rfl rfl rfl rfl (Nat.le_of_ble_eq_true rfl) (w_x_Sale_row N d (by omega) _ _ _ h1) rfl ?_
  obtain ⟨w2, h2, h⟩ := aw_b1s h
  refine aw_callV (pc := 79) (as := [.inl r1]) (st := []) (st' := []) dX0_draw_79 cv_RX0_59 (by decide) rfl rfl rfl rfl (Nat.le_of_ble_eq_true rfl) (w_x_Book_add N d (by omega) _ _ _ h2) rfl ?_
  refine aw_iinc (pc := 82) (q := 3) (ls' := [(6, .inl (aw_w (x6 + 1))), (0, .inr (.inr 41)), (1, .inl x1), (4, .inr (.inl x4))]) dX0_draw_82 rfl (by decide) rfl ?_
  refine aw_goto (pc := 85) (tgt := 6) dX0_draw_85 (by decide) ?_
  exact aw_sel [1, 2, 3, 0] rfl (hk6 _ _ _ _ _ h)
def x_Book_draw_15 (N : Nat) (k6 : Int → Int → Int → aw_W → Option (aw_W)) : Nat → Int → Int → Int → Int → aw_W → Option (aw_W)
  | 0, _, _, _, _, _ => none
  | n + 1, x1, x4, x6, x7, w =>
    if (w 3 4) ≤ x7 then
      x_Book_draw_71 N k6 x1 x4 x6 w
    else
      aw_b2 (x_Book_drawOf N (aw_w ((w 5 4) + 1)) (aw_wl ((aw_wl (x4 * 6364136223846793005)) + 1442695040888963407)) w) fun r1 w1 =>
        if 0 ≤ x7 ∧ x7 < 6 then
          x_Book_draw_15 N k6 n x1 (aw_wl ((aw_wl (x4 * 6364136223846793005)) + 1442695040888963407)) x6 (aw_w (x7 + 1)) (aw_up w1 21 x7.toNat r1)
        else none
theorem w_x_Book_draw_15 {l : Launch} {K : aw_K} (N d : Nat) (hd : 0 ≤ d) (k6 : Int → Int → Int → aw_W → Option (aw_W)) (hk6 : ∀ (x1 x4 x6 : Int) (w v : aw_W), k6 x1 x4 x6 w = some v → aw_AW l K MX0_draw (d + 1) 6 [(0, .inr (.inr 41)), (1, .inl x1), (4, .inr (.inl x4)), (6, .inl x6)] [] w (none, v)) : ∀ (n : Nat) (x1 x4 x6 x7 : Int) (w v : aw_W), x_Book_draw_15 N k6 n x1 x4 x6 x7 w = some v → aw_AW l K MX0_draw (d + 1) 15 [(0, .inr (.inr 41)), (1, .inl x1), (4, .inr (.inl x4)), (6, .inl x6), (7, .inl x7)] [] w (none, v) := by
  intro n
  induction n with
  | zero => intro x1 x4 x6 x7 w v h; rw [x_Book_draw_15] at h; cases h
  | succ n ih =>
    intro x1 x4 x6 x7 w v h
    rw [x_Book_draw_15] at h
    refine aw_iload (pc := 15) (q := 4) dX0_draw_15 rfl ?_
    refine aw_aload_n (pc := 17) (q := 0) dX0_draw_17 rfl ?_
    refine aw_getf (pc := 18) (v := .inr (.inr 3)) dX0_draw_18 fl_RX0_18 (by decide) rfl rfl rfl ?_
    refine aw_getf (pc := 21) (v := .inl (w 3 4)) dX0_draw_21 fl_RX0_36 (by decide) rfl rfl rfl ?_
    refine aw_icmp_ge (pc := 24) (tgt := 71) dX0_draw_24 (by decide) (fun hc => ?_) (fun hc => ?_)
    · rw [if_pos hc] at h
      exact aw_sel [0, 1, 2, 3] rfl (w_x_Book_draw_71 N d hd  _ hk6 _ _ _ _ _ h)
    · rw [if_neg hc] at h
      refine aw_lload (pc := 27) (q := 2) dX0_draw_27 rfl ?_
      refine aw_ldc2 (pc := 29) (x := 6364136223846793005) dX0_draw_29 cl_RX0_39 ⟨by decide, by decide⟩ ?_
      refine aw_lmul (pc := 32) dX0_draw_32 ?_
      refine aw_ldc2 (pc := 33) (x := 1442695040888963407) dX0_draw_33 cl_RX0_41 ⟨by decide, by decide⟩ ?_
      refine aw_ladd (pc := 36) dX0_draw_36 ?_
      refine aw_lstore (pc := 37) (ls' := [(4, .inr (.inl (aw_wl ((aw_wl (x4 * 6364136223846793005)) + 1442695040888963407)))), (0, .inr (.inr 41)), (1, .inl x1), (6, .inl x6), (7, .inl x7)]) dX0_draw_37 (by decide) rfl ?_
      refine aw_aload_n (pc := 39) (q := 1) dX0_draw_39 rfl ?_
      refine aw_getf (pc := 40) (v := .inr (.inr 17)) dX0_draw_40 fl_RX0_22 (by decide) rfl rfl rfl ?_
      refine aw_getf (pc := 43) (v := .inr (.inr 21)) dX0_draw_43 fl_RX0_43 (by decide) rfl rfl rfl ?_
      refine aw_iload (pc := 46) (q := 4) dX0_draw_46 rfl ?_
      refine aw_aload_n (pc := 48) (q := 1) dX0_draw_48 rfl ?_
      refine aw_getf (pc := 49) (v := .inr (.inr 3)) dX0_draw_49 fl_RX0_18 (by decide) rfl rfl rfl ?_
      refine aw_getf (pc := 52) (v := .inr (.inr 5)) dX0_draw_52 fl_RX0_48 (by decide) rfl rfl rfl ?_
      refine aw_iconst (pc := 55) dX0_draw_55 ⟨by decide, by decide⟩ ?_
      refine aw_ialdv (pc := 56) (v := w 5 4) dX0_draw_56 rfl (by decide) (by decide) rfl ?_
      refine aw_iconst (pc := 57) dX0_draw_57 ⟨by decide, by decide⟩ ?_
      refine aw_iadd (pc := 58) dX0_draw_58 ?_
      refine aw_lload (pc := 59) (q := 0) dX0_draw_59 rfl ?_
      obtain ⟨r1, w1, h1, h⟩ := aw_b2s h
      refine aw_callS (pc := 61) (as := [.inl (aw_w ((w 5 4) + 1)), .inr (.inl (aw_wl ((aw_wl (x4 * 6364136223846793005)) + 1442695040888963407)))]) (st := [.inl x7, .inr (.inr 21)]) (st' := [.inl r1, .inl x7, .inr (.inr 21)]) dX0_draw_61 cs_RX0_51 rfl rfl (Nat.le_of_ble_eq_true rfl) (w_x_Book_drawOf N d (by omega) _ _ _ _ _ h1) rfl ?_
      obtain ⟨hb, h⟩ := aw_cks h
      refine aw_iast (pc := 64) dX0_draw_64 rfl hb.1 hb.2 ?_
      refine aw_iinc (pc := 65) (q := 4) (ls' := [(7, .inl (aw_w (x7 + 1))), (4, .inr (.inl (aw_wl ((aw_wl (x4 * 6364136223846793005)) + 1442695040888963407)))), (0, .inr (.inr 41)), (1, .inl x1), (6, .inl x6)]) dX0_draw_65 rfl (by decide) rfl ?_
      refine aw_goto (pc := 68) (tgt := 15) dX0_draw_68 (by decide) ?_
      exact aw_sel [2, 3, 1, 4, 0] rfl (ih _ _ _ _ _ _ h)
def x_Book_draw_6 (N : Nat) : Nat → Int → Int → Int → aw_W → Option (aw_W)
  | 0, _, _, _, _ => none
  | n + 1, x1, x4, x6, w =>
    if x1 ≤ x6 then
      x_Book_draw_88 N w
    else
      x_Book_draw_15 N (x_Book_draw_6 N n) N x1 x4 x6 0 w
theorem w_x_Book_draw_6 {l : Launch} {K : aw_K} (N d : Nat) (hd : 0 ≤ d) : ∀ (n : Nat) (x1 x4 x6 : Int) (w v : aw_W), x_Book_draw_6 N n x1 x4 x6 w = some v → aw_AW l K MX0_draw (d + 1) 6 [(0, .inr (.inr 41)), (1, .inl x1), (4, .inr (.inl x4)), (6, .inl x6)] [] w (none, v) := by
  intro n
  induction n with
  | zero => intro x1 x4 x6 w v h; rw [x_Book_draw_6] at h; cases h
  | succ n ih =>
    intro x1 x4 x6 w v h
    rw [x_Book_draw_6] at h
    refine aw_iload (pc := 6) (q := 3) dX0_draw_6 rfl ?_
    refine aw_iload_n (pc := 8) (q := 1) dX0_draw_8 rfl ?_
    refine aw_icmp_ge (pc := 9) (tgt := 88) dX0_draw_9 (by decide) (fun hc => ?_) (fun hc => ?_)
    · rw [if_pos hc] at h
      exact aw_sel [] rfl (w_x_Book_draw_88 N d hd  _ _ h)
    · rw [if_neg hc] at h
      refine aw_iconst (pc := 12) dX0_draw_12 ⟨by decide, by decide⟩ ?_
      refine aw_istore (pc := 13) (ls' := [(7, .inl 0), (0, .inr (.inr 41)), (1, .inl x1), (4, .inr (.inl x4)), (6, .inl x6)]) dX0_draw_13 (by decide) rfl ?_
      exact aw_sel [1, 2, 3, 4, 0] rfl (w_x_Book_draw_15 N d hd  _ ih N _ _ _ _ _ _ h)
def x_Book_draw (N : Nat) (x1 x2 : Int) (w : aw_W) : Option (aw_W) :=
  x_Book_draw_6 N N x1 x2 0 w
theorem w_x_Book_draw_d {l : Launch} {K : aw_K} (N d : Nat) (hd : 0 ≤ d) : ∀ (x1 x2 : Int) (w v : aw_W), x_Book_draw N x1 x2 w = some v → aw_Met l K MX0_draw (d + 1) [.inr (.inr 41), .inl x1, .inr (.inl x2)] w (none, v) := by
  intro x1 x2 w v h
  unfold x_Book_draw at h
  refine aw_enter rfl (Nat.le_of_ble_eq_true rfl) ?_
  show aw_AW l K MX0_draw (d + 1) 0 [(0, .inr (.inr 41)), (1, .inl x1), (2, .inr (.inl x2))] [] w (none, v)
  refine aw_lload_n (pc := 0) (q := 2) dX0_draw_0 rfl ?_
  refine aw_lstore (pc := 1) (ls' := [(4, .inr (.inl x2)), (0, .inr (.inr 41)), (1, .inl x1), (2, .inr (.inl x2))]) dX0_draw_1 (by decide) rfl ?_
  refine aw_iconst (pc := 3) dX0_draw_3 ⟨by decide, by decide⟩ ?_
  refine aw_istore (pc := 4) (ls' := [(6, .inl 0), (4, .inr (.inl x2)), (0, .inr (.inr 41)), (1, .inl x1), (2, .inr (.inl x2))]) dX0_draw_4 (by decide) rfl ?_
  exact aw_sel [2, 3, 1, 0] rfl (w_x_Book_draw_6 N d hd  N _ _ _ _ _ h)
theorem w_x_Book_draw {l : Launch} {K : aw_K} (N d : Nat) (hd : 1 ≤ d) : ∀ (x1 x2 : Int) (w v : aw_W), x_Book_draw N x1 x2 w = some v → aw_Met l K MX0_draw (d) [.inr (.inr 41), .inl x1, .inr (.inl x2)] w (none, v) := by
  obtain ⟨e, rfl⟩ : ∃ e, d = e + 1 := ⟨d - 1, by omega⟩
  exact w_x_Book_draw_d N e (by omega)
theorem dX11_years_0 : decode cX11_years 0 = .ok (.aload_n 0, 1) := by decide +kernel
theorem dX11_years_1 : decode cX11_years 1 = .ok (.getfield 19, 3) := by decide +kernel
theorem dX11_years_4 : decode cX11_years 4 = .ok (.getfield 136, 3) := by decide +kernel
theorem dX11_years_7 : decode cX11_years 7 = .ok (.ifCond .eq 22, 3) := by decide +kernel
theorem dX11_years_10 : decode cX11_years 10 = .ok (.iload_n 1, 1) := by decide +kernel
theorem dX11_years_11 : decode cX11_years 11 = .ok (.iconst 1, 1) := by decide +kernel
theorem dX11_years_12 : decode cX11_years 12 = .ok (.if_icmp .lt 17, 3) := by decide +kernel
theorem dX11_years_15 : decode cX11_years 15 = .ok (.iload_n 1, 1) := by decide +kernel
theorem dX11_years_16 : decode cX11_years 16 = .ok (.bipush 40, 2) := by decide +kernel
theorem dX11_years_18 : decode cX11_years 18 = .ok (.aload_n 0, 1) := by decide +kernel
theorem dX11_years_19 : decode cX11_years 19 = .ok (.getfield 84, 3) := by decide +kernel
theorem dX11_years_22 : decode cX11_years 22 = .ok (.getfield 132, 3) := by decide +kernel
theorem dX11_years_25 : decode cX11_years 25 = .ok (.isub, 1) := by decide +kernel
theorem dX11_years_26 : decode cX11_years 26 = .ok (.if_icmp .le 5, 3) := by decide +kernel
theorem dX11_years_29 : decode cX11_years 29 = .ok (.iconst (-1), 1) := by decide +kernel
theorem dX11_years_30 : decode cX11_years 30 = .ok (.ireturn, 1) := by decide +kernel
theorem dX11_years_31 : decode cX11_years 31 = .ok (.aload_n 0, 1) := by decide +kernel
theorem dX11_years_32 : decode cX11_years 32 = .ok (.getfield 84, 3) := by decide +kernel
theorem dX11_years_35 : decode cX11_years 35 = .ok (.iload_n 1, 1) := by decide +kernel
theorem dX11_years_36 : decode cX11_years 36 = .ok (.lload_n 2, 1) := by decide +kernel
theorem dX11_years_37 : decode cX11_years 37 = .ok (.invokevirtual 281, 3) := by decide +kernel
theorem dX11_years_40 : decode cX11_years 40 = .ok (.aload_n 0, 1) := by decide +kernel
theorem dX11_years_41 : decode cX11_years 41 = .ok (.getfield 84, 3) := by decide +kernel
theorem dX11_years_44 : decode cX11_years 44 = .ok (.getfield 132, 3) := by decide +kernel
theorem dX11_years_47 : decode cX11_years 47 = .ok (.ireturn, 1) := by decide +kernel
def x_years_29 (N : Nat) (w : aw_W) : Option (Int × aw_W) :=
  some ((-1), w)
theorem w_x_years_29 {l : Launch} {K : aw_K} (N d : Nat) (hd : 1 ≤ d) : ∀ (w : aw_W) (y : Int) (v : aw_W), x_years_29 N w = some (y, v) → aw_AW l K MX11_years (d + 1) 29 [] [] w (some (.inl y), v) := by
  intro w y v h
  unfold x_years_29 at h
  refine aw_iconst (pc := 29) dX11_years_29 ⟨by decide, by decide⟩ ?_
  cases h
  exact aw_iret (pc := 30) rfl dX11_years_30
def x_years (N : Nat) (x1 x2 : Int) (w : aw_W) : Option (Int × aw_W) :=
  if (w 3 4) = 0 then
    x_years_29 N w
  else
    if x1 < 1 then
      x_years_29 N w
    else
      if x1 ≤ (aw_w (40 - (w 41 4))) then
        aw_b1 (x_Book_draw N x1 x2 w) fun w1 =>
          some (w1 41 4, w1)
      else
        x_years_29 N w
theorem w_x_years_d {l : Launch} {K : aw_K} (N d : Nat) (hd : 1 ≤ d) : ∀ (x1 x2 : Int) (w : aw_W) (y : Int) (v : aw_W), x_years N x1 x2 w = some (y, v) → aw_Met l K MX11_years (d + 1) [.inr (.inr 0), .inl x1, .inr (.inl x2)] w (some (.inl y), v) := by
  intro x1 x2 w y v h
  unfold x_years at h
  refine aw_enter rfl (Nat.le_of_ble_eq_true rfl) ?_
  show aw_AW l K MX11_years (d + 1) 0 [(0, .inr (.inr 0)), (1, .inl x1), (2, .inr (.inl x2))] [] w (some (.inl y), v)
  refine aw_aload_n (pc := 0) (q := 0) dX11_years_0 rfl ?_
  refine aw_getf (pc := 1) (v := .inr (.inr 3)) dX11_years_1 fl_RX11_19 (by decide) rfl rfl rfl ?_
  refine aw_getf (pc := 4) (v := .inl (w 3 4)) dX11_years_4 fl_RX11_136 (by decide) rfl rfl rfl ?_
  refine aw_if_eq (pc := 7) (tgt := 29) dX11_years_7 (by decide) (fun hc => ?_) (fun hc => ?_)
  · rw [if_pos hc] at h
    exact aw_sel [] rfl (w_x_years_29 N d hd  _ _ _ h)
  · rw [if_neg hc] at h
    refine aw_iload_n (pc := 10) (q := 1) dX11_years_10 rfl ?_
    refine aw_iconst (pc := 11) dX11_years_11 ⟨by decide, by decide⟩ ?_
    refine aw_icmp_lt (pc := 12) (tgt := 29) dX11_years_12 (by decide) (fun hc => ?_) (fun hc => ?_)
    · rw [if_pos hc] at h
      exact aw_sel [] rfl (w_x_years_29 N d hd  _ _ _ h)
    · rw [if_neg hc] at h
      refine aw_iload_n (pc := 15) (q := 1) dX11_years_15 rfl ?_
      refine aw_bipush (pc := 16) dX11_years_16 (by decide) ⟨by decide, by decide⟩ ?_
      refine aw_aload_n (pc := 18) (q := 0) dX11_years_18 rfl ?_
      refine aw_getf (pc := 19) (v := .inr (.inr 41)) dX11_years_19 fl_RX11_84 (by decide) rfl rfl rfl ?_
      refine aw_getf (pc := 22) (v := .inl (w 41 4)) dX11_years_22 fl_RX11_132 (by decide) rfl rfl rfl ?_
      refine aw_isub (pc := 25) dX11_years_25 ?_
      refine aw_icmp_le (pc := 26) (tgt := 31) dX11_years_26 (by decide) (fun hc => ?_) (fun hc => ?_)
      · rw [if_pos hc] at h
        refine aw_aload_n (pc := 31) (q := 0) dX11_years_31 rfl ?_
        refine aw_getf (pc := 32) (v := .inr (.inr 41)) dX11_years_32 fl_RX11_84 (by decide) rfl rfl rfl ?_
        refine aw_iload_n (pc := 35) (q := 1) dX11_years_35 rfl ?_
        refine aw_lload_n (pc := 36) (q := 2) dX11_years_36 rfl ?_
        obtain ⟨w1, h1, h⟩ := aw_b1s h
        refine aw_callV (pc := 37) (as := [.inl x1, .inr (.inl x2)]) (st := []) (st' := []) dX11_years_37 cv_RX11_281 (by decide) rfl rfl rfl rfl (Nat.le_of_ble_eq_true rfl) (w_x_Book_draw N d (by omega) _ _ _ _ h1) rfl ?_
        refine aw_aload_n (pc := 40) (q := 0) dX11_years_40 rfl ?_
        refine aw_getf (pc := 41) (v := .inr (.inr 41)) dX11_years_41 fl_RX11_84 (by decide) rfl rfl rfl ?_
        refine aw_getf (pc := 44) (v := .inl (w1 41 4)) dX11_years_44 fl_RX11_132 (by decide) rfl rfl rfl ?_
        cases h
        exact aw_iret (pc := 47) rfl dX11_years_47
      · rw [if_neg hc] at h
        exact aw_sel [] rfl (w_x_years_29 N d hd  _ _ _ h)
theorem w_x_years {l : Launch} {K : aw_K} (N d : Nat) (hd : 2 ≤ d) : ∀ (x1 x2 : Int) (w : aw_W) (y : Int) (v : aw_W), x_years N x1 x2 w = some (y, v) → aw_Met l K MX11_years (d) [.inr (.inr 0), .inl x1, .inr (.inl x2)] w (some (.inl y), v) := by
  obtain ⟨e, rfl⟩ : ∃ e, d = e + 1 := ⟨d - 1, by omega⟩
  exact w_x_years_d N e (by omega)
