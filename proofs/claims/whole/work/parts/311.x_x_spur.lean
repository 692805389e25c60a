theorem dX11_spur_0 : decode cX11_spur 0 = .ok (.aload_n 0, 1) := by decide +kernel
theorem dX11_spur_1 : decode cX11_spur 1 = .ok (.getfield 19, 3) := by decide +kernel
theorem dX11_spur_4 : decode cX11_spur 4 = .ok (.getfield 136, 3) := by decide +kernel
theorem dX11_spur_7 : decode cX11_spur 7 = .ok (.ifCond .eq 14, 3) := by decide +kernel
theorem dX11_spur_10 : decode cX11_spur 10 = .ok (.iload_n 1, 1) := by decide +kernel
theorem dX11_spur_11 : decode cX11_spur 11 = .ok (.iconst 1, 1) := by decide +kernel
theorem dX11_spur_12 : decode cX11_spur 12 = .ok (.if_icmp .lt 9, 3) := by decide +kernel
theorem dX11_spur_15 : decode cX11_spur 15 = .ok (.iload_n 1, 1) := by decide +kernel
theorem dX11_spur_16 : decode cX11_spur 16 = .ok (.bipush 60, 2) := by decide +kernel
theorem dX11_spur_18 : decode cX11_spur 18 = .ok (.if_icmp .le 6, 3) := by decide +kernel
theorem dX11_spur_21 : decode cX11_spur 21 = .ok (.ldc 165, 2) := by decide +kernel
theorem dX11_spur_23 : decode cX11_spur 23 = .ok (.ireturn, 1) := by decide +kernel
theorem dX11_spur_24 : decode cX11_spur 24 = .ok (.aload_n 0, 1) := by decide +kernel
theorem dX11_spur_25 : decode cX11_spur 25 = .ok (.getfield 70, 3) := by decide +kernel
theorem dX11_spur_28 : decode cX11_spur 28 = .ok (.iload_n 1, 1) := by decide +kernel
theorem dX11_spur_29 : decode cX11_spur 29 = .ok (.invokevirtual 260, 3) := by decide +kernel
theorem dX11_spur_32 : decode cX11_spur 32 = .ok (.bipush 99, 2) := by decide +kernel
theorem dX11_spur_34 : decode cX11_spur 34 = .ok (.istore_n 2, 1) := by decide +kernel
theorem dX11_spur_35 : decode cX11_spur 35 = .ok (.iload_n 2, 1) := by decide +kernel
theorem dX11_spur_36 : decode cX11_spur 36 = .ok (.bipush (-99), 2) := by decide +kernel
theorem dX11_spur_38 : decode cX11_spur 38 = .ok (.if_icmp .lt 24, 3) := by decide +kernel
theorem dX11_spur_41 : decode cX11_spur 41 = .ok (.aload_n 0, 1) := by decide +kernel
theorem dX11_spur_42 : decode cX11_spur 42 = .ok (.getfield 70, 3) := by decide +kernel
theorem dX11_spur_45 : decode cX11_spur 45 = .ok (.iload_n 1, 1) := by decide +kernel
theorem dX11_spur_46 : decode cX11_spur 46 = .ok (.iload_n 2, 1) := by decide +kernel
theorem dX11_spur_47 : decode cX11_spur 47 = .ok (.invokevirtual 263, 3) := by decide +kernel
theorem dX11_spur_50 : decode cX11_spur 50 = .ok (.iconst (-1), 1) := by decide +kernel
theorem dX11_spur_51 : decode cX11_spur 51 = .ok (.if_icmp .eq 5, 3) := by decide +kernel
theorem dX11_spur_54 : decode cX11_spur 54 = .ok (.iload_n 2, 1) := by decide +kernel
theorem dX11_spur_55 : decode cX11_spur 55 = .ok (.ireturn, 1) := by decide +kernel
theorem dX11_spur_56 : decode cX11_spur 56 = .ok (.iinc 2 (-1), 3) := by decide +kernel
theorem dX11_spur_59 : decode cX11_spur 59 = .ok (.goto (-24), 3) := by decide +kernel
theorem dX11_spur_62 : decode cX11_spur 62 = .ok (.ldc 165, 2) := by decide +kernel
theorem dX11_spur_64 : decode cX11_spur 64 = .ok (.ireturn, 1) := by decide +kernel
def x_spur_21 (N : Nat) (w : aw_W) : Option (Int × aw_W) :=
  some ((-1000000), w)
theorem w_x_spur_21 {l : Launch} {K : aw_K} (N d : Nat) (hd : 3 ≤ d) : ∀ (w : aw_W) (y : Int) (v : aw_W), x_spur_21 N w = some (y, v) → aw_AW l K MX11_spur (d + 1) 21 [] [] w (some (.inl y), v) := by
  intro w y v h
  unfold x_spur_21 at h
  refine aw_ldc (pc := 21) (x := (-1000000)) dX11_spur_21 cn_RX11_165 ⟨by decide, by decide⟩ ?_
  cases h
  exact aw_iret (pc := 23) rfl dX11_spur_23
def x_spur_62 (N : Nat) (w : aw_W) : Option (Int × aw_W) :=
  some ((-1000000), w)
theorem w_x_spur_62 {l : Launch} {K : aw_K} (N d : Nat) (hd : 3 ≤ d) : ∀ (w : aw_W) (y : Int) (v : aw_W), x_spur_62 N w = some (y, v) → aw_AW l K MX11_spur (d + 1) 62 [] [] w (some (.inl y), v) := by
  intro w y v h
  unfold x_spur_62 at h
  refine aw_ldc (pc := 62) (x := (-1000000)) dX11_spur_62 cn_RX11_165 ⟨by decide, by decide⟩ ?_
  cases h
  exact aw_iret (pc := 64) rfl dX11_spur_64
def x_spur_54 (N : Nat) (x2 : Int) (w : aw_W) : Option (Int × aw_W) :=
  some (x2, w)
theorem w_x_spur_54 {l : Launch} {K : aw_K} (N d : Nat) (hd : 3 ≤ d) : ∀ (x2 : Int) (w : aw_W) (y : Int) (v : aw_W), x_spur_54 N x2 w = some (y, v) → aw_AW l K MX11_spur (d + 1) 54 [(2, .inl x2)] [] w (some (.inl y), v) := by
  intro x2 w y v h
  unfold x_spur_54 at h
  refine aw_iload_n (pc := 54) (q := 0) dX11_spur_54 rfl ?_
  cases h
  exact aw_iret (pc := 55) rfl dX11_spur_55
def x_spur_35 (N : Nat) : Nat → Int → Int → aw_W → Option (Int × aw_W)
  | 0, _, _, _ => none
  | n + 1, x1, x2, w =>
    if x2 < (-99) then
      x_spur_62 N w
    else
      aw_b2 (x_Waiting_tillTheFirst N x1 x2 w) fun r1 w1 =>
        if r1 = (-1) then
          x_spur_35 N n x1 (aw_w (x2 + (-1))) w1
        else
          x_spur_54 N x2 w1
theorem w_x_spur_35 {l : Launch} {K : aw_K} (N d : Nat) (hd : 3 ≤ d) : ∀ (n : Nat) (x1 x2 : Int) (w : aw_W) (y : Int) (v : aw_W), x_spur_35 N n x1 x2 w = some (y, v) → aw_AW l K MX11_spur (d + 1) 35 [(0, .inr (.inr 0)), (1, .inl x1), (2, .inl x2)] [] w (some (.inl y), v) := by
  intro n
  induction n with
  | zero => intro x1 x2 w y v h; rw [x_spur_35] at h; cases h
  | succ n ih =>
    intro x1 x2 w y v h
    rw [x_spur_35] at h
    refine aw_iload_n (pc := 35) (q := 2) dX11_spur_35 rfl ?_
    refine aw_bipush (pc := 36) dX11_spur_36 (by decide) ⟨by decide, by decide⟩ ?_
    refine aw_icmp_lt (pc := 38) (tgt := 62) dX11_spur_38 (by decide) (fun hc => ?_) (fun hc => ?_)
    · rw [if_pos hc] at h
      exact aw_sel [] rfl (w_x_spur_62 N d hd  _ _ _ h)
    · rw [if_neg hc] at h
      refine aw_aload_n (pc := 41) (q := 0) dX11_spur_41 rfl ?_
      refine aw_getf (pc := 42) (v := .inr (.inr 34)) dX11_spur_42 fl_RX11_70 (by decide) rfl rfl rfl ?_
      refine aw_iload_n (pc := 45) (q := 1) dX11_spur_45 rfl ?_
      refine aw_iload_n (pc := 46) (q := 2) dX11_spur_46 rfl ?_
      obtain ⟨r1, w1, h1, h⟩ := aw_b2s h
      refine aw_callV (pc := 47) (as := [.inl x1, .inl x2]) (st := []) (st' := [.inl r1]) dX11_spur_47 cv_RX11_263 (by decide) rfl rfl rfl rfl (Nat.le_of_ble_eq_true rfl) (w_x_Waiting_tillTheFirst N d (by omega) _ _ _ _ _ h1) rfl ?_
      refine aw_iconst (pc := 50) dX11_spur_50 ⟨by decide, by decide⟩ ?_
      refine aw_icmp_eq (pc := 51) (tgt := 56) dX11_spur_51 (by decide) (fun hc => ?_) (fun hc => ?_)
      · rw [if_pos hc] at h
        refine aw_iinc (pc := 56) (q := 2) (ls' := [(2, .inl (aw_w (x2 + (-1)))), (0, .inr (.inr 0)), (1, .inl x1)]) dX11_spur_56 rfl (by decide) rfl ?_
        refine aw_goto (pc := 59) (tgt := 35) dX11_spur_59 (by decide) ?_
        exact aw_sel [1, 2, 0] rfl (ih _ _ _ _ _ h)
      · rw [if_neg hc] at h
        exact aw_sel [2] rfl (w_x_spur_54 N d hd  _ _ _ _ h)
def x_spur (N : Nat) (x1 : Int) (w : aw_W) : Option (Int × aw_W) :=
  if (w 3 4) = 0 then
    x_spur_21 N w
  else
    if x1 < 1 then
      x_spur_21 N w
    else
      if x1 ≤ 60 then
        aw_b1 (x_Waiting_behindTheFirst N x1 w) fun w1 =>
          x_spur_35 N N x1 99 w1
      else
        x_spur_21 N w
theorem w_x_spur_d {l : Launch} {K : aw_K} (N d : Nat) (hd : 3 ≤ d) : ∀ (x1 : Int) (w : aw_W) (y : Int) (v : aw_W), x_spur N x1 w = some (y, v) → aw_Met l K MX11_spur (d + 1) [.inr (.inr 0), .inl x1] w (some (.inl y), v) := by
  intro x1 w y v h
  unfold x_spur at h
  refine aw_enter rfl (Nat.le_of_ble_eq_true rfl) ?_
  show aw_AW l K MX11_spur (d + 1) 0 [(0, .inr (.inr 0)), (1, .inl x1)] [] w (some (.inl y), v)
  refine aw_aload_n (pc := 0) (q := 0) dX11_spur_0 rfl ?_
  refine aw_getf (pc := 1) (v := .inr (.inr 3)) dX11_spur_1 fl_RX11_19 (by decide) rfl rfl rfl ?_
  refine aw_getf (pc := 4) (v := .inl (w 3 4)) dX11_spur_4 fl_RX11_136 (by decide) rfl rfl rfl ?_
  refine aw_if_eq (pc := 7) (tgt := 21) dX11_spur_7 (by decide) (fun hc => ?_) (fun hc => ?_)
  · rw [if_pos hc] at h
    exact aw_sel [] rfl (w_x_spur_21 N d hd  _ _ _ h)
  · rw [if_neg hc] at h
    refine aw_iload_n (pc := 10) (q := 1) dX11_spur_10 rfl ?_
    refine aw_iconst (pc := 11) dX11_spur_11 ⟨by decide, by decide⟩ ?_
    refine aw_icmp_lt (pc := 12) (tgt := 21) dX11_spur_12 (by decide) (fun hc => ?_) (fun hc => ?_)
    · rw [if_pos hc] at h
      exact aw_sel [] rfl (w_x_spur_21 N d hd  _ _ _ h)
    · rw [if_neg hc] at h
      refine aw_iload_n (pc := 15) (q := 1) dX11_spur_15 rfl ?_
      refine aw_bipush (pc := 16) dX11_spur_16 (by decide) ⟨by decide, by decide⟩ ?_
      refine aw_icmp_le (pc := 18) (tgt := 24) dX11_spur_18 (by decide) (fun hc => ?_) (fun hc => ?_)
      · rw [if_pos hc] at h
        refine aw_aload_n (pc := 24) (q := 0) dX11_spur_24 rfl ?_
        refine aw_getf (pc := 25) (v := .inr (.inr 34)) dX11_spur_25 fl_RX11_70 (by decide) rfl rfl rfl ?_
        refine aw_iload_n (pc := 28) (q := 1) dX11_spur_28 rfl ?_
        obtain ⟨w1, h1, h⟩ := aw_b1s h
        refine aw_callV (pc := 29) (as := [.inl x1]) (st := []) (st' := []) dX11_spur_29 cv_RX11_260 (by decide) rfl rfl rfl rfl (Nat.le_of_ble_eq_true rfl) (w_x_Waiting_behindTheFirst N d (by omega) _ _ _ h1) rfl ?_
        refine aw_bipush (pc := 32) dX11_spur_32 (by decide) ⟨by decide, by decide⟩ ?_
        refine aw_istore_n (pc := 34) (ls' := [(2, .inl 99), (0, .inr (.inr 0)), (1, .inl x1)]) dX11_spur_34 (by decide) rfl ?_
        exact aw_sel [1, 2, 0] rfl (w_x_spur_35 N d hd  N _ _ _ _ _ h)
      · rw [if_neg hc] at h
        exact aw_sel [] rfl (w_x_spur_21 N d hd  _ _ _ h)
theorem w_x_spur {l : Launch} {K : aw_K} (N d : Nat) (hd : 4 ≤ d) : ∀ (x1 : Int) (w : aw_W) (y : Int) (v : aw_W), x_spur N x1 w = some (y, v) → aw_Met l K MX11_spur (d) [.inr (.inr 0), .inl x1] w (some (.inl y), v) := by
  obtain ⟨e, rfl⟩ : ∃ e, d = e + 1 := ⟨d - 1, by omega⟩
  exact w_x_spur_d N e (by omega)
theorem dX11_step_0 : decode cX11_step 0 = .ok (.aload_n 0, 1) := by decide +kernel
theorem dX11_step_1 : decode cX11_step 1 = .ok (.getfield 19, 3) := by decide +kernel
theorem dX11_step_4 : decode cX11_step 4 = .ok (.iload_n 3, 1) := by decide +kernel
theorem dX11_step_5 : decode cX11_step 5 = .ok (.invokevirtual 137, 3) := by decide +kernel
theorem dX11_step_8 : decode cX11_step 8 = .ok (.ifCond .eq 22, 3) := by decide +kernel
theorem dX11_step_11 : decode cX11_step 11 = .ok (.iload_n 1, 1) := by decide +kernel
theorem dX11_step_12 : decode cX11_step 12 = .ok (.iload_n 2, 1) := by decide +kernel
theorem dX11_step_13 : decode cX11_step 13 = .ok (.invokestatic 161, 3) := by decide +kernel
theorem dX11_step_16 : decode cX11_step 16 = .ok (.ifCond .eq 14, 3) := by decide +kernel
theorem dX11_step_19 : decode cX11_step 19 = .ok (.iload 4, 2) := by decide +kernel
theorem dX11_step_21 : decode cX11_step 21 = .ok (.ifCond .lt 9, 3) := by decide +kernel
theorem dX11_step_24 : decode cX11_step 24 = .ok (.iload 4, 2) := by decide +kernel
theorem dX11_step_26 : decode cX11_step 26 = .ok (.iload_n 2, 1) := by decide +kernel
theorem dX11_step_27 : decode cX11_step 27 = .ok (.if_icmp .le 6, 3) := by decide +kernel
theorem dX11_step_30 : decode cX11_step 30 = .ok (.ldc 165, 2) := by decide +kernel
theorem dX11_step_32 : decode cX11_step 32 = .ok (.ireturn, 1) := by decide +kernel
theorem dX11_step_33 : decode cX11_step 33 = .ok (.aload_n 0, 1) := by decide +kernel
theorem dX11_step_34 : decode cX11_step 34 = .ok (.getfield 63, 3) := by decide +kernel
theorem dX11_step_37 : decode cX11_step 37 = .ok (.invokevirtual 166, 3) := by decide +kernel
theorem dX11_step_40 : decode cX11_step 40 = .ok (.aload_n 0, 1) := by decide +kernel
theorem dX11_step_41 : decode cX11_step 41 = .ok (.getfield 63, 3) := by decide +kernel
theorem dX11_step_44 : decode cX11_step 44 = .ok (.iload_n 1, 1) := by decide +kernel
theorem dX11_step_45 : decode cX11_step 45 = .ok (.iload_n 2, 1) := by decide +kernel
theorem dX11_step_46 : decode cX11_step 46 = .ok (.iload 4, 2) := by decide +kernel
theorem dX11_step_48 : decode cX11_step 48 = .ok (.invokevirtual 169, 3) := by decide +kernel
theorem dX11_step_51 : decode cX11_step 51 = .ok (.aload_n 0, 1) := by decide +kernel
theorem dX11_step_52 : decode cX11_step 52 = .ok (.getfield 63, 3) := by decide +kernel
theorem dX11_step_55 : decode cX11_step 55 = .ok (.getfield 185, 3) := by decide +kernel
theorem dX11_step_58 : decode cX11_step 58 = .ok (.iload_n 3, 1) := by decide +kernel
theorem dX11_step_59 : decode cX11_step 59 = .ok (.iaload, 1) := by decide +kernel
theorem dX11_step_60 : decode cX11_step 60 = .ok (.ireturn, 1) := by decide +kernel
def x_step_30 (N : Nat) (w : aw_W) : Option (Int × aw_W) :=
  some ((-1000000), w)
theorem w_x_step_30 {l : Launch} {K : aw_K} (N d : Nat) (hd : 4 ≤ d) : ∀ (w : aw_W) (y : Int) (v : aw_W), x_step_30 N w = some (y, v) → aw_AW l K MX11_step (d + 1) 30 [] [] w (some (.inl y), v) := by
  intro w y v h
  unfold x_step_30 at h
  refine aw_ldc (pc := 30) (x := (-1000000)) dX11_step_30 cn_RX11_165 ⟨by decide, by decide⟩ ?_
  cases h
  exact aw_iret (pc := 32) rfl dX11_step_32
def x_step (N : Nat) (x1 x2 x3 x4 : Int) (w : aw_W) : Option (Int × aw_W) :=
  aw_b2 (x_Land_holds N x3 w) fun r1 w1 =>
    if r1 = 0 then
      x_step_30 N w1
    else
      aw_b2 (x_mayRun N x1 x2 w1) fun r2 w2 =>
        if r2 = 0 then
          x_step_30 N w2
        else
          if x4 < 0 then
            x_step_30 N w2
          else
            if x4 ≤ x2 then
              aw_b1 (x_Race_rulesAsTold N w2) fun w3 =>
                aw_b1 (x_Race_go N x1 x2 x4 w3) fun w4 =>
                  if 0 ≤ x3 ∧ x3 < 6 then
                    some (w4 31 x3.toNat, w4)
                  else none
            else
              x_step_30 N w2
theorem w_x_step_d {l : Launch} {K : aw_K} (N d : Nat) (hd : 4 ≤ d) : ∀ (x1 x2 x3 x4 : Int) (w : aw_W) (y : Int) (v : aw_W), x_step N x1 x2 x3 x4 w = some (y, v) → aw_Met l K MX11_step (d + 1) [.inr (.inr 0), .inl x1, .inl x2, .inl x3, .inl x4] w (some (.inl y), v) := by
  intro x1 x2 x3 x4 w y v h
  unfold x_step at h
  refine aw_enter rfl (Nat.le_of_ble_eq_true rfl) ?_
  show aw_AW l K MX11_step (d + 1) 0 [(0, .inr (.inr 0)), (1, .inl x1), (2, .inl x2), (3, .inl x3), (4, .inl x4)] [] w (some (.inl y), v)
  refine aw_aload_n (pc := 0) (q := 0) dX11_step_0 rfl ?_
  refine aw_getf (pc := 1) (v := .inr (.inr 3)) dX11_step_1 fl_RX11_19 (by decide) rfl rfl rfl ?_
  refine aw_iload_n (pc := 4) (q := 3) dX11_step_4 rfl ?_
  obtain ⟨r1, w1, h1, h⟩ := aw_b2s h
  refine aw_callV (pc := 5) (as := [.inl x3]) (st := []) (st' := [.inl r1]) dX11_step_5 cv_RX11_137 (by decide) rfl rfl rfl rfl (Nat.le_of_ble_eq_true rfl) (w_x_Land_holds N d (by omega) _ _ _ _ h1) rfl ?_
  refine aw_if_eq (pc := 8) (tgt := 30) dX11_step_8 (by decide) (fun hc => ?_) (fun hc => ?_)
  · rw [if_pos hc] at h
    exact aw_sel [] rfl (w_x_step_30 N d hd  _ _ _ h)
  · rw [if_neg hc] at h
    refine aw_iload_n (pc := 11) (q := 1) dX11_step_11 rfl ?_
    refine aw_iload_n (pc := 12) (q := 2) dX11_step_12 rfl ?_
    obtain ⟨r2, w2, h2, h⟩ := aw_b2s h
    refine aw_callS (pc := 13) (as := [.inl x1, .inl x2]) (st := []) (st' := [.inl r2]) dX11_step_13 cs_RX11_161 rfl rfl (Nat.le_of_ble_eq_true rfl) (w_x_mayRun N d (by omega) _ _ _ _ _ h2) rfl ?_
    refine aw_if_eq (pc := 16) (tgt := 30) dX11_step_16 (by decide) (fun hc => ?_) (fun hc => ?_)
    · rw [if_pos hc] at h
      exact aw_sel [] rfl (w_x_step_30 N d hd  _ _ _ h)
    · rw [if_neg hc] at h
      refine aw_iload (pc := 19) (q := 4) dX11_step_19 rfl ?_
      refine aw_if_lt (pc := 21) (tgt := 30) dX11_step_21 (by decide) (fun hc => ?_) (fun hc => ?_)
      · rw [if_pos hc] at h
        exact aw_sel [] rfl (w_x_step_30 N d hd  _ _ _ h)
      · rw [if_neg hc] at h
        refine aw_iload (pc := 24) (q := 4) dX11_step_24 rfl ?_
        refine aw_iload_n (pc := 26) (q := 2) dX11_step_26 rfl ?_
        refine aw_icmp_le (pc := 27) (tgt := 33) dX11_step_27 (by decide) (fun hc => ?_) (fun hc => ?_)
        · rw [if_pos hc] at h
          refine aw_aload_n (pc := 33) (q := 0) dX11_step_33 rfl ?_
          refine aw_getf (pc := 34) (v := .inr (.inr 26)) dX11_step_34 fl_RX11_63 (by decide) rfl rfl rfl ?_
          obtain ⟨w3, h3, h⟩ := aw_b1s h
          refine aw_callV (pc := 37) (as := []) (st := []) (st' := []) dX11_step_37 cv_RX11_166 (by decide) rfl rfl rfl rfl (Nat.le_of_ble_eq_true rfl) (w_x_Race_rulesAsTold N d (by omega) _ _ h3) rfl ?_
          refine aw_aload_n (pc := 40) (q := 0) dX11_step_40 rfl ?_
          refine aw_getf (pc := 41) (v := .inr (.inr 26)) dX11_step_41 fl_RX11_63 (by decide) rfl rfl rfl ?_
          refine aw_iload_n (pc := 44) (q := 1) dX11_step_44 rfl ?_
          refine aw_iload_n (pc := 45) (q := 2) dX11_step_45 rfl ?_
          refine aw_iload (pc := 46) (q := 4) dX11_step_46 rfl ?_
          obtain ⟨w4, h4, h⟩ := aw_b1s h
          refine aw_callV (pc := 48) (as := [.inl x1, .inl x2, .inl x4]) (st := []) (st' := []) dX11_step_48 cv_RX11_169 (by decide) rfl rfl rfl rfl (Nat.le_of_ble_eq_true rfl) (w_x_Race_go N d (by omega) _ _ _ _ _ h4) rfl ?_
          refine aw_aload_n (pc := 51) (q := 0) dX11_step_51 rfl ?_
          refine aw_getf (pc := 52) (v := .inr (.inr 26)) dX11_step_52 fl_RX11_63 (by decide) rfl rfl rfl ?_
          refine aw_getf (pc := 55) (v := .inr (.inr 31)) dX11_step_55 fl_RX11_185 (by decide) rfl rfl rfl ?_
          refine aw_iload_n (pc := 58) (q := 3) dX11_step_58 rfl ?_
          obtain ⟨hb, h⟩ := aw_cks h
          refine aw_ialdv (pc := 59) (v := w4 31 x3.toNat) dX11_step_59 rfl hb.1 hb.2 rfl ?_
          cases h
          exact aw_iret (pc := 60) rfl dX11_step_60
        · rw [if_neg hc] at h
          exact aw_sel [] rfl (w_x_step_30 N d hd  _ _ _ h)
theorem w_x_step {l : Launch} {K : aw_K} (N d : Nat) (hd : 5 ≤ d) : ∀ (x1 x2 x3 x4 : Int) (w : aw_W) (y : Int) (v : aw_W), x_step N x1 x2 x3 x4 w = some (y, v) → aw_Met l K MX11_step (d) [.inr (.inr 0), .inl x1, .inl x2, .inl x3, .inl x4] w (some (.inl y), v) := by
  obtain ⟨e, rfl⟩ : ∃ e, d = e + 1 := ⟨d - 1, by omega⟩
  exact w_x_step_d N e (by omega)
theorem dX0_gainsOf_0 : decode cX0_gainsOf 0 = .ok (.iconst 0, 1) := by decide +kernel
theorem dX0_gainsOf_1 : decode cX0_gainsOf 1 = .ok (.istore_n 2, 1) := by decide +kernel
theorem dX0_gainsOf_2 : decode cX0_gainsOf 2 = .ok (.iconst 0, 1) := by decide +kernel
theorem dX0_gainsOf_3 : decode cX0_gainsOf 3 = .ok (.istore_n 3, 1) := by decide +kernel
theorem dX0_gainsOf_4 : decode cX0_gainsOf 4 = .ok (.iload_n 3, 1) := by decide +kernel
theorem dX0_gainsOf_5 : decode cX0_gainsOf 5 = .ok (.aload_n 0, 1) := by decide +kernel
theorem dX0_gainsOf_6 : decode cX0_gainsOf 6 = .ok (.getfield 32, 3) := by decide +kernel
theorem dX0_gainsOf_9 : decode cX0_gainsOf 9 = .ok (.if_icmp .ge 41, 3) := by decide +kernel
theorem dX0_gainsOf_12 : decode cX0_gainsOf 12 = .ok (.aload_n 0, 1) := by decide +kernel
theorem dX0_gainsOf_13 : decode cX0_gainsOf 13 = .ok (.getfield 22, 3) := by decide +kernel
theorem dX0_gainsOf_16 : decode cX0_gainsOf 16 = .ok (.aload_n 0, 1) := by decide +kernel
theorem dX0_gainsOf_17 : decode cX0_gainsOf 17 = .ok (.getfield 9, 3) := by decide +kernel
theorem dX0_gainsOf_20 : decode cX0_gainsOf 20 = .ok (.iload_n 3, 1) := by decide +kernel
theorem dX0_gainsOf_21 : decode cX0_gainsOf 21 = .ok (.iaload, 1) := by decide +kernel
theorem dX0_gainsOf_22 : decode cX0_gainsOf 22 = .ok (.invokevirtual 63, 3) := by decide +kernel
theorem dX0_gainsOf_25 : decode cX0_gainsOf 25 = .ok (.pop, 1) := by decide +kernel
theorem dX0_gainsOf_26 : decode cX0_gainsOf 26 = .ok (.aload_n 0, 1) := by decide +kernel
theorem dX0_gainsOf_27 : decode cX0_gainsOf 27 = .ok (.getfield 22, 3) := by decide +kernel
theorem dX0_gainsOf_30 : decode cX0_gainsOf 30 = .ok (.invokevirtual 67, 3) := by decide +kernel
theorem dX0_gainsOf_33 : decode cX0_gainsOf 33 = .ok (.iload_n 2, 1) := by decide +kernel
theorem dX0_gainsOf_34 : decode cX0_gainsOf 34 = .ok (.aload_n 0, 1) := by decide +kernel
theorem dX0_gainsOf_35 : decode cX0_gainsOf 35 = .ok (.getfield 22, 3) := by decide +kernel
theorem dX0_gainsOf_38 : decode cX0_gainsOf 38 = .ok (.iload_n 1, 1) := by decide +kernel
theorem dX0_gainsOf_39 : decode cX0_gainsOf 39 = .ok (.invokevirtual 73, 3) := by decide +kernel
theorem dX0_gainsOf_42 : decode cX0_gainsOf 42 = .ok (.iadd, 1) := by decide +kernel
theorem dX0_gainsOf_43 : decode cX0_gainsOf 43 = .ok (.istore_n 2, 1) := by decide +kernel
theorem dX0_gainsOf_44 : decode cX0_gainsOf 44 = .ok (.iinc 3 1, 3) := by decide +kernel
theorem dX0_gainsOf_47 : decode cX0_gainsOf 47 = .ok (.goto (-43), 3) := by decide +kernel
theorem dX0_gainsOf_50 : decode cX0_gainsOf 50 = .ok (.iload_n 2, 1) := by decide +kernel
theorem dX0_gainsOf_51 : decode cX0_gainsOf 51 = .ok (.ireturn, 1) := by decide +kernel
def x_Book_gainsOf_50 (N : Nat) (x2 : Int) (w : aw_W) : Option (Int × aw_W) :=
  some (x2, w)
theorem w_x_Book_gainsOf_50 {l : Launch} {K : aw_K} (N d : Nat) (hd : 2 ≤ d) : ∀ (x2 : Int) (w : aw_W) (y : Int) (v : aw_W), x_Book_gainsOf_50 N x2 w = some (y, v) → aw_AW l K MX0_gainsOf (d + 1) 50 [(2, .inl x2)] [] w (some (.inl y), v) := by
  intro x2 w y v h
  unfold x_Book_gainsOf_50 at h
  refine aw_iload_n (pc := 50) (q := 0) dX0_gainsOf_50 rfl ?_
  cases h
  exact aw_iret (pc := 51) rfl dX0_gainsOf_51
def x_Book_gainsOf_4 (N : Nat) : Nat → Int → Int → Int → aw_W → Option (Int × aw_W)
  | 0, _, _, _, _ => none
  | n + 1, x1, x2, x3, w =>
    if (w 41 4) ≤ x3 then
      x_Book_gainsOf_50 N x2 w
    else
      if 0 ≤ x3 ∧ x3 < 40 then
        aw_b2 (x_Sale_put N (w 42 x3.toNat) w) fun r1 w1 =>
          aw_b1 (x_Sale_settle N w1) fun w2 =>
            aw_b2 (x_Sale_gainOf N x1 w2) fun r3 w3 =>
              x_Book_gainsOf_4 N n x1 (aw_w (x2 + r3)) (aw_w (x3 + 1)) w3
      else none
theorem w_x_Book_gainsOf_4 {l : Launch} {K : aw_K} (N d : Nat) (hd : 2 ≤ d) : ∀ (n : Nat) (x1 x2 x3 : Int) (w : aw_W) (y : Int) (v : aw_W), x_Book_gainsOf_4 N n x1 x2 x3 w = some (y, v) → aw_AW l K MX0_gainsOf (d + 1) 4 [(0, .inr (.inr 41)), (1, .inl x1), (2, .inl x2), (3, .inl x3)] [] w (some (.inl y), v) := by
  intro n
  induction n with
  | zero => intro x1 x2 x3 w y v h; rw [x_Book_gainsOf_4] at h; cases h
  | succ n ih =>
    intro x1 x2 x3 w y v h
    rw [x_Book_gainsOf_4] at h
    refine aw_iload_n (pc := 4) (q := 3) dX0_gainsOf_4 rfl ?_
    refine aw_aload_n (pc := 5) (q := 0) dX0_gainsOf_5 rfl ?_
    refine aw_getf (pc := 6) (v := .inl (w 41 4)) dX0_gainsOf_6 fl_RX0_32 (by decide) rfl rfl rfl ?_
    refine aw_icmp_ge (pc := 9) (tgt := 50) dX0_gainsOf_9 (by decide) (fun hc => ?_) (fun hc => ?_)
    · rw [if_pos hc] at h
      exact aw_sel [2] rfl (w_x_Book_gainsOf_50 N d hd  _ _ _ _ h)
    · rw [if_neg hc] at h
      refine aw_aload_n (pc := 12) (q := 0) dX0_gainsOf_12 rfl ?_
      refine aw_getf (pc := 13) (v := .inr (.inr 17)) dX0_gainsOf_13 fl_RX0_22 (by decide) rfl rfl rfl ?_
      refine aw_aload_n (pc := 16) (q := 0) dX0_gainsOf_16 rfl ?_
      refine aw_getf (pc := 17) (v := .inr (.inr 42)) dX0_gainsOf_17 fl_RX0_9 (by decide) rfl rfl rfl ?_
      refine aw_iload_n (pc := 20) (q := 3) dX0_gainsOf_20 rfl ?_
      obtain ⟨hb, h⟩ := aw_cks h
      refine aw_ialdv (pc := 21) (v := w 42 x3.toNat) dX0_gainsOf_21 rfl hb.1 hb.2 rfl ?_
      obtain ⟨r1, w1, h1, h⟩ := aw_b2s h
      refine aw_callV (pc := 22) (as := [.inl (w 42 x3.toNat)]) (st := []) (st' := [.inl r1]) dX0_gainsOf_22 cv_RX0_63 (by decide) rfl rfl rfl rfl (Nat.le_of_ble_eq_true rfl) (w_x_Sale_put N d (by omega) _ _ _ _ h1) rfl ?_
      refine aw_pop (pc := 25) dX0_gainsOf_25 rfl ?_
      refine aw_aload_n (pc := 26) (q := 0) dX0_gainsOf_26 rfl ?_
      refine aw_getf (pc := 27) (v := .inr (.inr 17)) dX0_gainsOf_27 fl_RX0_22 (by decide) rfl rfl rfl ?_
      obtain ⟨w2, h2, h⟩ := aw_b1s h
      refine aw_callV (pc := 30) (as := []) (st := []) (st' := []) dX0_gainsOf_30 cv_RX0_67 (by decide) rfl rfl rfl rfl (Nat.le_of_ble_eq_true rfl) (w_x_Sale_settle N d (by omega) _ _ h2) rfl ?_
      refine aw_iload_n (pc := 33) (q := 2) dX0_gainsOf_33 rfl ?_
      refine aw_aload_n (pc := 34) (q := 0) dX0_gainsOf_34 rfl ?_
      refine aw_getf (pc := 35) (v := .inr (.inr 17)) dX0_gainsOf_35 fl_RX0_22 (by decide) rfl rfl rfl ?_
      refine aw_iload_n (pc := 38) (q := 1) dX0_gainsOf_38 rfl ?_
      obtain ⟨r3, w3, h3, h⟩ := aw_b2s h
      refine aw_callV (pc := 39) (as := [.inl x1]) (st := [.inl x2]) (st' := [.inl r3, .inl x2]) dX0_gainsOf_39 cv_RX0_73 (by decide) rfl rfl rfl rfl (Nat.le_of_ble_eq_true rfl) (w_x_Sale_gainOf N d (by omega) _ _ _ _ h3) rfl ?_
      refine aw_iadd (pc := 42) dX0_gainsOf_42 ?_
      refine aw_istore_n (pc := 43) (ls' := [(2, .inl (aw_w (x2 + r3))), (0, .inr (.inr 41)), (1, .inl x1), (3, .inl x3)]) dX0_gainsOf_43 (by decide) rfl ?_
      refine aw_iinc (pc := 44) (q := 3) (ls' := [(3, .inl (aw_w (x3 + 1))), (2, .inl (aw_w (x2 + r3))), (0, .inr (.inr 41)), (1, .inl x1)]) dX0_gainsOf_44 rfl (by decide) rfl ?_
      refine aw_goto (pc := 47) (tgt := 4) dX0_gainsOf_47 (by decide) ?_
      exact aw_sel [2, 3, 1, 0] rfl (ih _ _ _ _ _ _ h)
def x_Book_gainsOf (N : Nat) (x1 : Int) (w : aw_W) : Option (Int × aw_W) :=
  x_Book_gainsOf_4 N N x1 0 0 w
theorem w_x_Book_gainsOf_d {l : Launch} {K : aw_K} (N d : Nat) (hd : 2 ≤ d) : ∀ (x1 : Int) (w : aw_W) (y : Int) (v : aw_W), x_Book_gainsOf N x1 w = some (y, v) → aw_Met l K MX0_gainsOf (d + 1) [.inr (.inr 41), .inl x1] w (some (.inl y), v) := by
  intro x1 w y v h
  unfold x_Book_gainsOf at h
  refine aw_enter rfl (Nat.le_of_ble_eq_true rfl) ?_
  show aw_AW l K MX0_gainsOf (d + 1) 0 [(0, .inr (.inr 41)), (1, .inl x1)] [] w (some (.inl y), v)
  refine aw_iconst (pc := 0) dX0_gainsOf_0 ⟨by decide, by decide⟩ ?_
  refine aw_istore_n (pc := 1) (ls' := [(2, .inl 0), (0, .inr (.inr 41)), (1, .inl x1)]) dX0_gainsOf_1 (by decide) rfl ?_
  refine aw_iconst (pc := 2) dX0_gainsOf_2 ⟨by decide, by decide⟩ ?_
  refine aw_istore_n (pc := 3) (ls' := [(3, .inl 0), (2, .inl 0), (0, .inr (.inr 41)), (1, .inl x1)]) dX0_gainsOf_3 (by decide) rfl ?_
  exact aw_sel [2, 3, 1, 0] rfl (w_x_Book_gainsOf_4 N d hd  N _ _ _ _ _ _ h)
theorem w_x_Book_gainsOf {l : Launch} {K : aw_K} (N d : Nat) (hd : 3 ≤ d) : ∀ (x1 : Int) (w : aw_W) (y : Int) (v : aw_W), x_Book_gainsOf N x1 w = some (y, v) → aw_Met l K MX0_gainsOf (d) [.inr (.inr 41), .inl x1] w (some (.inl y), v) := by
  obtain ⟨e, rfl⟩ : ∃ e, d = e + 1 := ⟨d - 1, by omega⟩
  exact w_x_Book_gainsOf_d N e (by omega)
theorem dX11_sum_0 : decode cX11_sum 0 = .ok (.aload_n 0, 1) := by decide +kernel
theorem dX11_sum_1 : decode cX11_sum 1 = .ok (.getfield 19, 3) := by decide +kernel
theorem dX11_sum_4 : decode cX11_sum 4 = .ok (.iload_n 1, 1) := by decide +kernel
theorem dX11_sum_5 : decode cX11_sum 5 = .ok (.invokevirtual 137, 3) := by decide +kernel
theorem dX11_sum_8 : decode cX11_sum 8 = .ok (.ifCond .eq 14, 3) := by decide +kernel
theorem dX11_sum_11 : decode cX11_sum 11 = .ok (.aload_n 0, 1) := by decide +kernel
theorem dX11_sum_12 : decode cX11_sum 12 = .ok (.getfield 84, 3) := by decide +kernel
theorem dX11_sum_15 : decode cX11_sum 15 = .ok (.iload_n 1, 1) := by decide +kernel
theorem dX11_sum_16 : decode cX11_sum 16 = .ok (.invokevirtual 297, 3) := by decide +kernel
theorem dX11_sum_19 : decode cX11_sum 19 = .ok (.goto 5, 3) := by decide +kernel
theorem dX11_sum_22 : decode cX11_sum 22 = .ok (.ldc 165, 2) := by decide +kernel
theorem dX11_sum_24 : decode cX11_sum 24 = .ok (.ireturn, 1) := by decide +kernel
def x_sum_24 (N : Nat) (s0 : Int) (w : aw_W) : Option (Int × aw_W) :=
  some (s0, w)
theorem w_x_sum_24 {l : Launch} {K : aw_K} (N d : Nat) (hd : 3 ≤ d) : ∀ (s0 : Int) (w : aw_W) (y : Int) (v : aw_W), x_sum_24 N s0 w = some (y, v) → aw_AW l K MX11_sum (d + 1) 24 [] [.inl s0] w (some (.inl y), v) := by
  intro s0 w y v h
  unfold x_sum_24 at h
  cases h
  exact aw_iret (pc := 24) rfl dX11_sum_24
def x_sum (N : Nat) (x1 : Int) (w : aw_W) : Option (Int × aw_W) :=
  aw_b2 (x_Land_holds N x1 w) fun r1 w1 =>
    if r1 = 0 then
      x_sum_24 N (-1000000) w1
    else
      aw_b2 (x_Book_gainsOf N x1 w1) fun r2 w2 =>
        x_sum_24 N r2 w2
theorem w_x_sum_d {l : Launch} {K : aw_K} (N d : Nat) (hd : 3 ≤ d) : ∀ (x1 : Int) (w : aw_W) (y : Int) (v : aw_W), x_sum N x1 w = some (y, v) → aw_Met l K MX11_sum (d + 1) [.inr (.inr 0), .inl x1] w (some (.inl y), v) := by
  intro x1 w y v h
  unfold x_sum at h
  refine aw_enter rfl (Nat.le_of_ble_eq_true rfl) ?_
  show aw_AW l K MX11_sum (d + 1) 0 [(0, .inr (.inr 0)), (1, .inl x1)] [] w (some (.inl y), v)
  refine aw_aload_n (pc := 0) (q := 0) dX11_sum_0 rfl ?_
  refine aw_getf (pc := 1) (v := .inr (.inr 3)) dX11_sum_1 fl_RX11_19 (by decide) rfl rfl rfl ?_
  refine aw_iload_n (pc := 4) (q := 1) dX11_sum_4 rfl ?_
  obtain ⟨r1, w1, h1, h⟩ := aw_b2s h
  refine aw_callV (pc := 5) (as := [.inl x1]) (st := []) (st' := [.inl r1]) dX11_sum_5 cv_RX11_137 (by decide) rfl rfl rfl rfl (Nat.le_of_ble_eq_true rfl) (w_x_Land_holds N d (by omega) _ _ _ _ h1) rfl ?_
  refine aw_if_eq (pc := 8) (tgt := 22) dX11_sum_8 (by decide) (fun hc => ?_) (fun hc => ?_)
  · rw [if_pos hc] at h
    refine aw_ldc (pc := 22) (x := (-1000000)) dX11_sum_22 cn_RX11_165 ⟨by decide, by decide⟩ ?_
    exact aw_sel [] rfl (w_x_sum_24 N d hd  _ _ _ _ h)
  · rw [if_neg hc] at h
    refine aw_aload_n (pc := 11) (q := 0) dX11_sum_11 rfl ?_
    refine aw_getf (pc := 12) (v := .inr (.inr 41)) dX11_sum_12 fl_RX11_84 (by decide) rfl rfl rfl ?_
    refine aw_iload_n (pc := 15) (q := 1) dX11_sum_15 rfl ?_
    obtain ⟨r2, w2, h2, h⟩ := aw_b2s h
    refine aw_callV (pc := 16) (as := [.inl x1]) (st := []) (st' := [.inl r2]) dX11_sum_16 cv_RX11_297 (by decide) rfl rfl rfl rfl (Nat.le_of_ble_eq_true rfl) (w_x_Book_gainsOf N d (by omega) _ _ _ _ h2) rfl ?_
    refine aw_goto (pc := 19) (tgt := 24) dX11_sum_19 (by decide) ?_
    exact aw_sel [] rfl (w_x_sum_24 N d hd  _ _ _ _ h)
theorem w_x_sum {l : Launch} {K : aw_K} (N d : Nat) (hd : 4 ≤ d) : ∀ (x1 : Int) (w : aw_W) (y : Int) (v : aw_W), x_sum N x1 w = some (y, v) → aw_Met l K MX11_sum (d) [.inr (.inr 0), .inl x1] w (some (.inl y), v) := by
  obtain ⟨e, rfl⟩ : ∃ e, d = e + 1 := ⟨d - 1, by omega⟩
  exact w_x_sum_d N e (by omega)
theorem dX7_keep_0 : decode cX7_keep 0 = .ok (.aload_n 0, 1) := by decide +kernel
theorem dX7_keep_1 : decode cX7_keep 1 = .ok (.getfield 30, 3) := by decide +kernel
theorem dX7_keep_4 : decode cX7_keep 4 = .ok (.iconst 4, 1) := by decide +kernel
theorem dX7_keep_5 : decode cX7_keep 5 = .ok (.if_icmp .lt 5, 3) := by decide +kernel
theorem dX7_keep_8 : decode cX7_keep 8 = .ok (.iconst (-1), 1) := by decide +kernel
theorem dX7_keep_9 : decode cX7_keep 9 = .ok (.ireturn, 1) := by decide +kernel
theorem dX7_keep_10 : decode cX7_keep 10 = .ok (.aload_n 0, 1) := by decide +kernel
theorem dX7_keep_11 : decode cX7_keep 11 = .ok (.getfield 18, 3) := by decide +kernel
theorem dX7_keep_14 : decode cX7_keep 14 = .ok (.iconst 0, 1) := by decide +kernel
theorem dX7_keep_15 : decode cX7_keep 15 = .ok (.aload_n 0, 1) := by decide +kernel
theorem dX7_keep_16 : decode cX7_keep 16 = .ok (.getfield 11, 3) := by decide +kernel
theorem dX7_keep_19 : decode cX7_keep 19 = .ok (.aload_n 0, 1) := by decide +kernel
theorem dX7_keep_20 : decode cX7_keep 20 = .ok (.getfield 30, 3) := by decide +kernel
theorem dX7_keep_23 : decode cX7_keep 23 = .ok (.sipush 160, 3) := by decide +kernel
theorem dX7_keep_26 : decode cX7_keep 26 = .ok (.imul, 1) := by decide +kernel
theorem dX7_keep_27 : decode cX7_keep 27 = .ok (.aload_n 0, 1) := by decide +kernel
theorem dX7_keep_28 : decode cX7_keep 28 = .ok (.getfield 34, 3) := by decide +kernel
theorem dX7_keep_31 : decode cX7_keep 31 = .ok (.invokestatic 37, 3) := by decide +kernel
theorem dX7_keep_34 : decode cX7_keep 34 = .ok (.aload_n 0, 1) := by decide +kernel
theorem dX7_keep_35 : decode cX7_keep 35 = .ok (.getfield 15, 3) := by decide +kernel
theorem dX7_keep_38 : decode cX7_keep 38 = .ok (.aload_n 0, 1) := by decide +kernel
theorem dX7_keep_39 : decode cX7_keep 39 = .ok (.getfield 30, 3) := by decide +kernel
theorem dX7_keep_42 : decode cX7_keep 42 = .ok (.aload_n 0, 1) := by decide +kernel
theorem dX7_keep_43 : decode cX7_keep 43 = .ok (.getfield 34, 3) := by decide +kernel
theorem dX7_keep_46 : decode cX7_keep 46 = .ok (.iastore, 1) := by decide +kernel
theorem dX7_keep_47 : decode cX7_keep 47 = .ok (.aload_n 0, 1) := by decide +kernel
theorem dX7_keep_48 : decode cX7_keep 48 = .ok (.dup, 1) := by decide +kernel
theorem dX7_keep_49 : decode cX7_keep 49 = .ok (.getfield 30, 3) := by decide +kernel
theorem dX7_keep_52 : decode cX7_keep 52 = .ok (.iconst 1, 1) := by decide +kernel
theorem dX7_keep_53 : decode cX7_keep 53 = .ok (.iadd, 1) := by decide +kernel
theorem dX7_keep_54 : decode cX7_keep 54 = .ok (.putfield 30, 3) := by decide +kernel
theorem dX7_keep_57 : decode cX7_keep 57 = .ok (.aload_n 0, 1) := by decide +kernel
theorem dX7_keep_58 : decode cX7_keep 58 = .ok (.getfield 30, 3) := by decide +kernel
theorem dX7_keep_61 : decode cX7_keep 61 = .ok (.iconst 1, 1) := by decide +kernel
theorem dX7_keep_62 : decode cX7_keep 62 = .ok (.isub, 1) := by decide +kernel
theorem dX7_keep_63 : decode cX7_keep 63 = .ok (.ireturn, 1) := by decide +kernel
def x_Rules_keep (N : Nat) (w : aw_W) : Option (Int × aw_W) :=
  if (w 11 6) < 4 then
    if (0 : Int) ≤ 0 ∧ (0 : Int) ≤ (aw_w ((w 11 6) * 160)) ∧ (0 : Int) ≤ (w 11 5) ∧ ((0 + (w 11 5) : Int)) ≤ 160 ∧ (((aw_w ((w 11 6) * 160)) + (w 11 5) : Int)) ≤ 640 then
      if 0 ≤ (w 11 6) ∧ (w 11 6) < 4 then
        some (aw_w ((aw_w ((w 11 6) + 1)) - 1), (aw_up (aw_up (aw_cpy (w 14) w 12 0 ((aw_w ((w 11 6) * 160)).toNat) ((w 11 5).toNat)) 13 ((w 11 6).toNat) (w 11 5)) 11 6 (aw_w ((w 11 6) + 1))))
      else none
    else none
  else
    some ((-1), w)
theorem w_x_Rules_keep {l : Launch} {K : aw_K} (N d : Nat) (hd : 0 ≤ d) : ∀ (w : aw_W) (y : Int) (v : aw_W), x_Rules_keep N w = some (y, v) → aw_Met l K MX7_keep (d) [.inr (.inr 11)] w (some (.inl y), v) := by
  intro w y v h
  unfold x_Rules_keep at h
  refine aw_enter rfl (Nat.le_of_ble_eq_true rfl) ?_
  show aw_AW l K MX7_keep (d) 0 [(0, .inr (.inr 11))] [] w (some (.inl y), v)
  refine aw_aload_n (pc := 0) (q := 0) dX7_keep_0 rfl ?_
  refine aw_getf (pc := 1) (v := .inl (w 11 6)) dX7_keep_1 fl_RX7_30 (by decide) rfl rfl rfl ?_
  refine aw_iconst (pc := 4) dX7_keep_4 ⟨by decide, by decide⟩ ?_
  refine aw_icmp_lt (pc := 5) (tgt := 10) dX7_keep_5 (by decide) (fun hc => ?_) (fun hc => ?_)
  · rw [if_pos hc] at h
    refine aw_aload_n (pc := 10) (q := 0) dX7_keep_10 rfl ?_
    refine aw_getf (pc := 11) (v := .inr (.inr 14)) dX7_keep_11 fl_RX7_18 (by decide) rfl rfl rfl ?_
    refine aw_iconst (pc := 14) dX7_keep_14 ⟨by decide, by decide⟩ ?_
    refine aw_aload_n (pc := 15) (q := 0) dX7_keep_15 rfl ?_
    refine aw_getf (pc := 16) (v := .inr (.inr 12)) dX7_keep_16 fl_RX7_11 (by decide) rfl rfl rfl ?_
    refine aw_aload_n (pc := 19) (q := 0) dX7_keep_19 rfl ?_
    refine aw_getf (pc := 20) (v := .inl (w 11 6)) dX7_keep_20 fl_RX7_30 (by decide) rfl rfl rfl ?_
    refine aw_sipush (pc := 23) dX7_keep_23 (by decide) ⟨by decide, by decide⟩ ?_
    refine aw_imul (pc := 26) dX7_keep_26 ?_
    refine aw_aload_n (pc := 27) (q := 0) dX7_keep_27 rfl ?_
    refine aw_getf (pc := 28) (v := .inl (w 11 5)) dX7_keep_28 fl_RX7_34 (by decide) rfl rfl rfl ?_
    obtain ⟨hb, h⟩ := aw_cks h
    refine aw_copyW (pc := 31) dX7_keep_31 cc_RX7_37 rfl rfl (by decide) (by decide) hb.1 hb.2.1 hb.2.2.1 hb.2.2.2.1 hb.2.2.2.2 (Nat.le_of_ble_eq_true rfl) ?_
    refine aw_aload_n (pc := 34) (q := 0) dX7_keep_34 rfl ?_
    refine aw_getf (pc := 35) (v := .inr (.inr 13)) dX7_keep_35 fl_RX7_15 (by decide) rfl rfl rfl ?_
    refine aw_aload_n (pc := 38) (q := 0) dX7_keep_38 rfl ?_
    refine aw_getf (pc := 39) (v := .inl (w 11 6)) dX7_keep_39 fl_RX7_30 (by decide) rfl rfl rfl ?_
    refine aw_aload_n (pc := 42) (q := 0) dX7_keep_42 rfl ?_
    refine aw_getf (pc := 43) (v := .inl (w 11 5)) dX7_keep_43 fl_RX7_34 (by decide) rfl rfl rfl ?_
    obtain ⟨hb, h⟩ := aw_cks h
    refine aw_iast (pc := 46) dX7_keep_46 rfl hb.1 hb.2 ?_
    refine aw_aload_n (pc := 47) (q := 0) dX7_keep_47 rfl ?_
    refine aw_dup (pc := 48) dX7_keep_48 rfl ?_
    refine aw_getf (pc := 49) (v := .inl (w 11 6)) dX7_keep_49 fl_RX7_30 (by decide) rfl rfl rfl ?_
    refine aw_iconst (pc := 52) dX7_keep_52 ⟨by decide, by decide⟩ ?_
    refine aw_iadd (pc := 53) dX7_keep_53 ?_
    refine aw_puti (pc := 54) dX7_keep_54 fp_RX7_30 (by decide) rfl rfl ?_
    refine aw_aload_n (pc := 57) (q := 0) dX7_keep_57 rfl ?_
    refine aw_getf (pc := 58) (v := .inl (aw_w ((w 11 6) + 1))) dX7_keep_58 fl_RX7_30 (by decide) rfl rfl rfl ?_
    refine aw_iconst (pc := 61) dX7_keep_61 ⟨by decide, by decide⟩ ?_
    refine aw_isub (pc := 62) dX7_keep_62 ?_
    cases h
    exact aw_iret (pc := 63) rfl dX7_keep_63
  · rw [if_neg hc] at h
    refine aw_iconst (pc := 8) dX7_keep_8 ⟨by decide, by decide⟩ ?_
    cases h
    exact aw_iret (pc := 9) rfl dX7_keep_9
theorem dX11_text_0 : decode cX11_text 0 = .ok (.iload_n 1, 1) := by decide +kernel
theorem dX11_text_1 : decode cX11_text 1 = .ok (.ifCond .ne 23, 3) := by decide +kernel
theorem dX11_text_4 : decode cX11_text 4 = .ok (.aload_n 0, 1) := by decide +kernel
theorem dX11_text_5 : decode cX11_text 5 = .ok (.getfield 23, 3) := by decide +kernel
theorem dX11_text_8 : decode cX11_text 8 = .ok (.aload_n 0, 1) := by decide +kernel
theorem dX11_text_9 : decode cX11_text 9 = .ok (.getfield 10, 3) := by decide +kernel
theorem dX11_text_12 : decode cX11_text 12 = .ok (.invokevirtual 114, 3) := by decide +kernel
theorem dX11_text_15 : decode cX11_text 15 = .ok (.iconst (-1), 1) := by decide +kernel
theorem dX11_text_16 : decode cX11_text 16 = .ok (.if_icmp .ne 8, 3) := by decide +kernel
theorem dX11_text_19 : decode cX11_text 19 = .ok (.aload_n 0, 1) := by decide +kernel
theorem dX11_text_20 : decode cX11_text 20 = .ok (.invokevirtual 119, 3) := by decide +kernel
theorem dX11_text_23 : decode cX11_text 23 = .ok (.ireturn, 1) := by decide +kernel
theorem dX11_text_24 : decode cX11_text 24 = .ok (.iload_n 1, 1) := by decide +kernel
theorem dX11_text_25 : decode cX11_text 25 = .ok (.iconst 1, 1) := by decide +kernel
theorem dX11_text_26 : decode cX11_text 26 = .ok (.if_icmp .ne 45, 3) := by decide +kernel
theorem dX11_text_29 : decode cX11_text 29 = .ok (.aload_n 0, 1) := by decide +kernel
theorem dX11_text_30 : decode cX11_text 30 = .ok (.getfield 29, 3) := by decide +kernel
theorem dX11_text_33 : decode cX11_text 33 = .ok (.getfield 123, 3) := by decide +kernel
theorem dX11_text_36 : decode cX11_text 36 = .ok (.iconst 4, 1) := by decide +kernel
theorem dX11_text_37 : decode cX11_text 37 = .ok (.if_icmp .ge 34, 3) := by decide +kernel
theorem dX11_text_40 : decode cX11_text 40 = .ok (.aload_n 0, 1) := by decide +kernel
theorem dX11_text_41 : decode cX11_text 41 = .ok (.getfield 29, 3) := by decide +kernel
theorem dX11_text_44 : decode cX11_text 44 = .ok (.aload_n 0, 1) := by decide +kernel
theorem dX11_text_45 : decode cX11_text 45 = .ok (.getfield 10, 3) := by decide +kernel
theorem dX11_text_48 : decode cX11_text 48 = .ok (.invokevirtual 118, 3) := by decide +kernel
theorem dX11_text_51 : decode cX11_text 51 = .ok (.iconst (-1), 1) := by decide +kernel
theorem dX11_text_52 : decode cX11_text 52 = .ok (.if_icmp .ne 19, 3) := by decide +kernel
theorem dX11_text_55 : decode cX11_text 55 = .ok (.aload_n 0, 1) := by decide +kernel
theorem dX11_text_56 : decode cX11_text 56 = .ok (.getfield 10, 3) := by decide +kernel
theorem dX11_text_59 : decode cX11_text 59 = .ok (.iconst 0, 1) := by decide +kernel
theorem dX11_text_60 : decode cX11_text 60 = .ok (.putfield 106, 3) := by decide +kernel
theorem dX11_text_63 : decode cX11_text 63 = .ok (.aload_n 0, 1) := by decide +kernel
theorem dX11_text_64 : decode cX11_text 64 = .ok (.getfield 29, 3) := by decide +kernel
theorem dX11_text_67 : decode cX11_text 67 = .ok (.invokevirtual 126, 3) := by decide +kernel
theorem dX11_text_70 : decode cX11_text 70 = .ok (.ireturn, 1) := by decide +kernel
theorem dX11_text_71 : decode cX11_text 71 = .ok (.iconst (-1), 1) := by decide +kernel
theorem dX11_text_72 : decode cX11_text 72 = .ok (.ireturn, 1) := by decide +kernel
def x_text_71 (N : Nat) (w : aw_W) : Option (Int × aw_W) :=
  some ((-1), w)
theorem w_x_text_71 {l : Launch} {K : aw_K} (N d : Nat) (hd : 123 ≤ d) : ∀ (w : aw_W) (y : Int) (v : aw_W), x_text_71 N w = some (y, v) → aw_AW l K MX11_text (d + 1) 71 [] [] w (some (.inl y), v) := by
  intro w y v h
  unfold x_text_71 at h
  refine aw_iconst (pc := 71) dX11_text_71 ⟨by decide, by decide⟩ ?_
  cases h
  exact aw_iret (pc := 72) rfl dX11_text_72
def x_text_24 (N : Nat) (x1 : Int) (w : aw_W) : Option (Int × aw_W) :=
  if x1 = 1 then
    if 4 ≤ (w 11 6) then
      x_text_71 N w
    else
      aw_b2 (x_Rules_read N w) fun r1 w1 =>
        if r1 = (-1) then
          aw_b2 (x_Rules_keep N (aw_up w1 1 1 0)) fun r2 w2 =>
            some (r2, w2)
        else
          x_text_71 N w1
  else
    x_text_71 N w
theorem w_x_text_24 {l : Launch} {K : aw_K} (N d : Nat) (hd : 123 ≤ d) : ∀ (x1 : Int) (w : aw_W) (y : Int) (v : aw_W), x_text_24 N x1 w = some (y, v) → aw_AW l K MX11_text (d + 1) 24 [(0, .inr (.inr 0)), (1, .inl x1)] [] w (some (.inl y), v) := by
  intro x1 w y v h
  unfold x_text_24 at h
  refine aw_iload_n (pc := 24) (q := 1) dX11_text_24 rfl ?_
  refine aw_iconst (pc := 25) dX11_text_25 ⟨by decide, by decide⟩ ?_
  refine aw_icmp_ne (pc := 26) (tgt := 71) dX11_text_26 (by decide) (fun hc => ?_) (fun hc => ?_)
  · rw [if_neg hc] at h
    exact aw_sel [] rfl (w_x_text_71 N d hd  _ _ _ h)
  · rw [if_pos hc] at h
    refine aw_aload_n (pc := 29) (q := 0) dX11_text_29 rfl ?_
    refine aw_getf (pc := 30) (v := .inr (.inr 11)) dX11_text_30 fl_RX11_29 (by decide) rfl rfl rfl ?_
    refine aw_getf (pc := 33) (v := .inl (w 11 6)) dX11_text_33 fl_RX11_123 (by decide) rfl rfl rfl ?_
    refine aw_iconst (pc := 36) dX11_text_36 ⟨by decide, by decide⟩ ?_
    refine aw_icmp_ge (pc := 37) (tgt := 71) dX11_text_37 (by decide) (fun hc => ?_) (fun hc => ?_)
    · rw [if_pos hc] at h
      exact aw_sel [] rfl (w_x_text_71 N d hd  _ _ _ h)
    · rw [if_neg hc] at h
      refine aw_aload_n (pc := 40) (q := 0) dX11_text_40 rfl ?_
      refine aw_getf (pc := 41) (v := .inr (.inr 11)) dX11_text_41 fl_RX11_29 (by decide) rfl rfl rfl ?_
      refine aw_aload_n (pc := 44) (q := 0) dX11_text_44 rfl ?_
      refine aw_getf (pc := 45) (v := .inr (.inr 1)) dX11_text_45 fl_RX11_10 (by decide) rfl rfl rfl ?_
      obtain ⟨r1, w1, h1, h⟩ := aw_b2s h
      refine aw_callV (pc := 48) (as := [.inr (.inr 1)]) (st := []) (st' := [.inl r1]) dX11_text_48 cv_RX11_118 (by decide) rfl rfl rfl rfl (Nat.le_of_ble_eq_true rfl) (w_x_Rules_read N d (by omega) _ _ _ h1) rfl ?_
      refine aw_iconst (pc := 51) dX11_text_51 ⟨by decide, by decide⟩ ?_
      refine aw_icmp_ne (pc := 52) (tgt := 71) dX11_text_52 (by decide) (fun hc => ?_) (fun hc => ?_)
      · rw [if_neg hc] at h
        exact aw_sel [] rfl (w_x_text_71 N d hd  _ _ _ h)
      · rw [if_pos hc] at h
        refine aw_aload_n (pc := 55) (q := 0) dX11_text_55 rfl ?_
        refine aw_getf (pc := 56) (v := .inr (.inr 1)) dX11_text_56 fl_RX11_10 (by decide) rfl rfl rfl ?_
        refine aw_iconst (pc := 59) dX11_text_59 ⟨by decide, by decide⟩ ?_
        refine aw_puti (pc := 60) dX11_text_60 fp_RX11_106 (by decide) rfl rfl ?_
        refine aw_aload_n (pc := 63) (q := 0) dX11_text_63 rfl ?_
        refine aw_getf (pc := 64) (v := .inr (.inr 11)) dX11_text_64 fl_RX11_29 (by decide) rfl rfl rfl ?_
        obtain ⟨r2, w2, h2, h⟩ := aw_b2s h
        refine aw_callV (pc := 67) (as := []) (st := []) (st' := [.inl r2]) dX11_text_67 cv_RX11_126 (by decide) rfl rfl rfl rfl (Nat.le_of_ble_eq_true rfl) (w_x_Rules_keep N d (by omega) _ _ _ h2) rfl ?_
        cases h
        exact aw_iret (pc := 70) rfl dX11_text_70
def x_text (N : Nat) (x1 : Int) (w : aw_W) : Option (Int × aw_W) :=
  if x1 = 0 then
    aw_b2 (x_Land_read N w) fun r1 w1 =>
      if r1 = (-1) then
        aw_b2 (x_enterLand N w1) fun r2 w2 =>
          some (r2, w2)
      else
        x_text_24 N x1 w1
  else
    x_text_24 N x1 w
theorem w_x_text_d {l : Launch} {K : aw_K} (N d : Nat) (hd : 123 ≤ d) : ∀ (x1 : Int) (w : aw_W) (y : Int) (v : aw_W), x_text N x1 w = some (y, v) → aw_Met l K MX11_text (d + 1) [.inr (.inr 0), .inl x1] w (some (.inl y), v) := by
  intro x1 w y v h
  unfold x_text at h
  refine aw_enter rfl (Nat.le_of_ble_eq_true rfl) ?_
  show aw_AW l K MX11_text (d + 1) 0 [(0, .inr (.inr 0)), (1, .inl x1)] [] w (some (.inl y), v)
  refine aw_iload_n (pc := 0) (q := 1) dX11_text_0 rfl ?_
  refine aw_if_ne (pc := 1) (tgt := 24) dX11_text_1 (by decide) (fun hc => ?_) (fun hc => ?_)
  · rw [if_neg hc] at h
    exact aw_sel [0, 1] rfl (w_x_text_24 N d hd  _ _ _ _ h)
  · rw [if_pos hc] at h
    refine aw_aload_n (pc := 4) (q := 0) dX11_text_4 rfl ?_
    refine aw_getf (pc := 5) (v := .inr (.inr 7)) dX11_text_5 fl_RX11_23 (by decide) rfl rfl rfl ?_
    refine aw_aload_n (pc := 8) (q := 0) dX11_text_8 rfl ?_
    refine aw_getf (pc := 9) (v := .inr (.inr 1)) dX11_text_9 fl_RX11_10 (by decide) rfl rfl rfl ?_
    obtain ⟨r1, w1, h1, h⟩ := aw_b2s h
    refine aw_callV (pc := 12) (as := [.inr (.inr 1)]) (st := []) (st' := [.inl r1]) dX11_text_12 cv_RX11_114 (by decide) rfl rfl rfl rfl (Nat.le_of_ble_eq_true rfl) (w_x_Land_read N d (by omega) _ _ _ h1) rfl ?_
    refine aw_iconst (pc := 15) dX11_text_15 ⟨by decide, by decide⟩ ?_
    refine aw_icmp_ne (pc := 16) (tgt := 24) dX11_text_16 (by decide) (fun hc => ?_) (fun hc => ?_)
    · rw [if_neg hc] at h
      exact aw_sel [0, 1] rfl (w_x_text_24 N d hd  _ _ _ _ h)
    · rw [if_pos hc] at h
      refine aw_aload_n (pc := 19) (q := 0) dX11_text_19 rfl ?_
      obtain ⟨r2, w2, h2, h⟩ := aw_b2s h
      refine aw_callV (pc := 20) (as := []) (st := []) (st' := [.inl r2]) dX11_text_20 cv_RX11_119 (by decide) rfl rfl rfl rfl (Nat.le_of_ble_eq_true rfl) (w_x_enterLand N d (by omega) _ _ _ h2) rfl ?_
      cases h
      exact aw_iret (pc := 23) rfl dX11_text_23
theorem w_x_text {l : Launch} {K : aw_K} (N d : Nat) (hd : 124 ≤ d) : ∀ (x1 : Int) (w : aw_W) (y : Int) (v : aw_W), x_text N x1 w = some (y, v) → aw_Met l K MX11_text (d) [.inr (.inr 0), .inl x1] w (some (.inl y), v) := by
  obtain ⟨e, rfl⟩ : ∃ e, d = e + 1 := ⟨d - 1, by omega⟩
  exact w_x_text_d N e (by omega)
theorem dX4_gainOfSome_0 : decode cX4_gainOfSome 0 = .ok (.iconst 0, 1) := by decide +kernel
theorem dX4_gainOfSome_1 : decode cX4_gainOfSome 1 = .ok (.istore_n 2, 1) := by decide +kernel
theorem dX4_gainOfSome_2 : decode cX4_gainOfSome 2 = .ok (.iconst 0, 1) := by decide +kernel
theorem dX4_gainOfSome_3 : decode cX4_gainOfSome 3 = .ok (.istore_n 3, 1) := by decide +kernel
theorem dX4_gainOfSome_4 : decode cX4_gainOfSome 4 = .ok (.iload_n 3, 1) := by decide +kernel
theorem dX4_gainOfSome_5 : decode cX4_gainOfSome 5 = .ok (.aload_n 0, 1) := by decide +kernel
theorem dX4_gainOfSome_6 : decode cX4_gainOfSome 6 = .ok (.getfield 9, 3) := by decide +kernel
theorem dX4_gainOfSome_9 : decode cX4_gainOfSome 9 = .ok (.getfield 29, 3) := by decide +kernel
theorem dX4_gainOfSome_12 : decode cX4_gainOfSome 12 = .ok (.if_icmp .ge 28, 3) := by decide +kernel
theorem dX4_gainOfSome_15 : decode cX4_gainOfSome 15 = .ok (.iload_n 1, 1) := by decide +kernel
theorem dX4_gainOfSome_16 : decode cX4_gainOfSome 16 = .ok (.iload_n 3, 1) := by decide +kernel
theorem dX4_gainOfSome_17 : decode cX4_gainOfSome 17 = .ok (.ishr, 1) := by decide +kernel
theorem dX4_gainOfSome_18 : decode cX4_gainOfSome 18 = .ok (.iconst 1, 1) := by decide +kernel
theorem dX4_gainOfSome_19 : decode cX4_gainOfSome 19 = .ok (.iand, 1) := by decide +kernel
theorem dX4_gainOfSome_20 : decode cX4_gainOfSome 20 = .ok (.ifCond .eq 14, 3) := by decide +kernel
theorem dX4_gainOfSome_23 : decode cX4_gainOfSome 23 = .ok (.iload_n 2, 1) := by decide +kernel
theorem dX4_gainOfSome_24 : decode cX4_gainOfSome 24 = .ok (.aload_n 0, 1) := by decide +kernel
theorem dX4_gainOfSome_25 : decode cX4_gainOfSome 25 = .ok (.getfield 15, 3) := by decide +kernel
theorem dX4_gainOfSome_28 : decode cX4_gainOfSome 28 = .ok (.iload_n 3, 1) := by decide +kernel
theorem dX4_gainOfSome_29 : decode cX4_gainOfSome 29 = .ok (.invokevirtual 77, 3) := by decide +kernel
theorem dX4_gainOfSome_32 : decode cX4_gainOfSome 32 = .ok (.iadd, 1) := by decide +kernel
theorem dX4_gainOfSome_33 : decode cX4_gainOfSome 33 = .ok (.istore_n 2, 1) := by decide +kernel
theorem dX4_gainOfSome_34 : decode cX4_gainOfSome 34 = .ok (.iinc 3 1, 3) := by decide +kernel
theorem dX4_gainOfSome_37 : decode cX4_gainOfSome 37 = .ok (.goto (-33), 3) := by decide +kernel
theorem dX4_gainOfSome_40 : decode cX4_gainOfSome 40 = .ok (.iload_n 2, 1) := by decide +kernel
theorem dX4_gainOfSome_41 : decode cX4_gainOfSome 41 = .ok (.ireturn, 1) := by decide +kernel
def x_Replies_gainOfSome_40 (N : Nat) (x2 : Int) (w : aw_W) : Option (Int × aw_W) :=
  some (x2, w)
theorem w_x_Replies_gainOfSome_40 {l : Launch} {K : aw_K} (N d : Nat) (hd : 2 ≤ d) : ∀ (x2 : Int) (w : aw_W) (y : Int) (v : aw_W), x_Replies_gainOfSome_40 N x2 w = some (y, v) → aw_AW l K MX4_gainOfSome (d + 1) 40 [(2, .inl x2)] [] w (some (.inl y), v) := by
  intro x2 w y v h
  unfold x_Replies_gainOfSome_40 at h
  refine aw_iload_n (pc := 40) (q := 0) dX4_gainOfSome_40 rfl ?_
  cases h
  exact aw_iret (pc := 41) rfl dX4_gainOfSome_41
def x_Replies_gainOfSome_34 (N : Nat) (k4 : Int → Int → Int → aw_W → Option (Int × aw_W)) (x1 x2 x3 : Int) (w : aw_W) : Option (Int × aw_W) :=
  k4 x1 x2 (aw_w (x3 + 1)) w
theorem w_x_Replies_gainOfSome_34 {l : Launch} {K : aw_K} (N d : Nat) (hd : 2 ≤ d) (k4 : Int → Int → Int → aw_W → Option (Int × aw_W)) (hk4 : ∀ (x1 x2 x3 : Int) (w : aw_W) (y : Int) (v : aw_W), k4 x1 x2 x3 w = some (y, v) → aw_AW l K MX4_gainOfSome (d + 1) 4 [(0, .inr (.inr 22)), (1, .inl x1), (2, .inl x2), (3, .inl x3)] [] w (some (.inl y), v)) : ∀ (x1 x2 x3 : Int) (w : aw_W) (y : Int) (v : aw_W), x_Replies_gainOfSome_34 N k4 x1 x2 x3 w = some (y, v) → aw_AW l K MX4_gainOfSome (d + 1) 34 [(0, .inr (.inr 22)), (1, .inl x1), (2, .inl x2), (3, .inl x3)] [] w (some (.inl y), v) := by
  intro x1 x2 x3 w y v h
  unfold x_Replies_gainOfSome_34 at h
  refine aw_iinc (pc := 34) (q := 3) (ls' := [(3, .inl (aw_w (x3 + 1))), (0, .inr (.inr 22)), (1, .inl x1), (2, .inl x2)]) dX4_gainOfSome_34 rfl (by decide) rfl ?_
  refine aw_goto (pc := 37) (tgt := 4) dX4_gainOfSome_37 (by decide) ?_
  exact aw_sel [1, 2, 3, 0] rfl (hk4 _ _ _ _ _ _ h)
def x_Replies_gainOfSome_4 (N : Nat) : Nat → Int → Int → Int → aw_W → Option (Int × aw_W)
  | 0, _, _, _, _ => none
  | n + 1, x1, x2, x3, w =>
    if (w 3 4) ≤ x3 then
      x_Replies_gainOfSome_40 N x2 w
    else
      if (aw_and (aw_shr x1 x3) 1) = 0 then
        x_Replies_gainOfSome_34 N (x_Replies_gainOfSome_4 N n) x1 x2 x3 w
      else
        aw_b2 (x_Sale_gainOf N x3 w) fun r1 w1 =>
          x_Replies_gainOfSome_34 N (x_Replies_gainOfSome_4 N n) x1 (aw_w (x2 + r1)) x3 w1
theorem w_x_Replies_gainOfSome_4 {l : Launch} {K : aw_K} (N d : Nat) (hd : 2 ≤ d) : ∀ (n : Nat) (x1 x2 x3 : Int) (w : aw_W) (y : Int) (v : aw_W), x_Replies_gainOfSome_4 N n x1 x2 x3 w = some (y, v) → aw_AW l K MX4_gainOfSome (d + 1) 4 [(0, .inr (.inr 22)), (1, .inl x1), (2, .inl x2), (3, .inl x3)] [] w (some (.inl y), v) := by
  intro n
  induction n with
  | zero => intro x1 x2 x3 w y v h; rw [x_Replies_gainOfSome_4] at h; cases h
  | succ n ih =>
    intro x1 x2 x3 w y v h
    rw [x_Replies_gainOfSome_4] at h
    refine aw_iload_n (pc := 4) (q := 3) dX4_gainOfSome_4 rfl ?_
    refine aw_aload_n (pc := 5) (q := 0) dX4_gainOfSome_5 rfl ?_
    refine aw_getf (pc := 6) (v := .inr (.inr 3)) dX4_gainOfSome_6 fl_RX4_9 (by decide) rfl rfl rfl ?_
    refine aw_getf (pc := 9) (v := .inl (w 3 4)) dX4_gainOfSome_9 fl_RX4_29 (by decide) rfl rfl rfl ?_
    refine aw_icmp_ge (pc := 12) (tgt := 40) dX4_gainOfSome_12 (by decide) (fun hc => ?_) (fun hc => ?_)
    · rw [if_pos hc] at h
      exact aw_sel [2] rfl (w_x_Replies_gainOfSome_40 N d hd  _ _ _ _ h)
    · rw [if_neg hc] at h
      refine aw_iload_n (pc := 15) (q := 1) dX4_gainOfSome_15 rfl ?_
      refine aw_iload_n (pc := 16) (q := 3) dX4_gainOfSome_16 rfl ?_
      refine aw_ishr (pc := 17) dX4_gainOfSome_17 ?_
      refine aw_iconst (pc := 18) dX4_gainOfSome_18 ⟨by decide, by decide⟩ ?_
      refine aw_iand (pc := 19) dX4_gainOfSome_19 ?_
      refine aw_if_eq (pc := 20) (tgt := 34) dX4_gainOfSome_20 (by decide) (fun hc => ?_) (fun hc => ?_)
      · rw [if_pos hc] at h
        exact aw_sel [0, 1, 2, 3] rfl (w_x_Replies_gainOfSome_34 N d hd  _ ih _ _ _ _ _ _ h)
      · rw [if_neg hc] at h
        refine aw_iload_n (pc := 23) (q := 2) dX4_gainOfSome_23 rfl ?_
        refine aw_aload_n (pc := 24) (q := 0) dX4_gainOfSome_24 rfl ?_
        refine aw_getf (pc := 25) (v := .inr (.inr 17)) dX4_gainOfSome_25 fl_RX4_15 (by decide) rfl rfl rfl ?_
        refine aw_iload_n (pc := 28) (q := 3) dX4_gainOfSome_28 rfl ?_
        obtain ⟨r1, w1, h1, h⟩ := aw_b2s h
        refine aw_callV (pc := 29) (as := [.inl x3]) (st := [.inl x2]) (st' := [.inl r1, .inl x2]) dX4_gainOfSome_29 cv_RX4_77 (by decide) rfl rfl rfl rfl (Nat.le_of_ble_eq_true rfl) (w_x_Sale_gainOf N d (by omega) _ _ _ _ h1) rfl ?_
        refine aw_iadd (pc := 32) dX4_gainOfSome_32 ?_
        refine aw_istore_n (pc := 33) (ls' := [(2, .inl (aw_w (x2 + r1))), (0, .inr (.inr 22)), (1, .inl x1), (3, .inl x3)]) dX4_gainOfSome_33 (by decide) rfl ?_
        exact aw_sel [1, 2, 0, 3] rfl (w_x_Replies_gainOfSome_34 N d hd  _ ih _ _ _ _ _ _ h)
def x_Replies_gainOfSome (N : Nat) (x1 : Int) (w : aw_W) : Option (Int × aw_W) :=
  x_Replies_gainOfSome_4 N N x1 0 0 w
theorem w_x_Replies_gainOfSome_d {l : Launch} {K : aw_K} (N d : Nat) (hd : 2 ≤ d) : ∀ (x1 : Int) (w : aw_W) (y : Int) (v : aw_W), x_Replies_gainOfSome N x1 w = some (y, v) → aw_Met l K MX4_gainOfSome (d + 1) [.inr (.inr 22), .inl x1] w (some (.inl y), v) := by
  intro x1 w y v h
  unfold x_Replies_gainOfSome at h
  refine aw_enter rfl (Nat.le_of_ble_eq_true rfl) ?_
  show aw_AW l K MX4_gainOfSome (d + 1) 0 [(0, .inr (.inr 22)), (1, .inl x1)] [] w (some (.inl y), v)
  refine aw_iconst (pc := 0) dX4_gainOfSome_0 ⟨by decide, by decide⟩ ?_
  refine aw_istore_n (pc := 1) (ls' := [(2, .inl 0), (0, .inr (.inr 22)), (1, .inl x1)]) dX4_gainOfSome_1 (by decide) rfl ?_
  refine aw_iconst (pc := 2) dX4_gainOfSome_2 ⟨by decide, by decide⟩ ?_
  refine aw_istore_n (pc := 3) (ls' := [(3, .inl 0), (2, .inl 0), (0, .inr (.inr 22)), (1, .inl x1)]) dX4_gainOfSome_3 (by decide) rfl ?_
  exact aw_sel [2, 3, 1, 0] rfl (w_x_Replies_gainOfSome_4 N d hd  N _ _ _ _ _ _ h)
theorem w_x_Replies_gainOfSome {l : Launch} {K : aw_K} (N d : Nat) (hd : 3 ≤ d) : ∀ (x1 : Int) (w : aw_W) (y : Int) (v : aw_W), x_Replies_gainOfSome N x1 w = some (y, v) → aw_Met l K MX4_gainOfSome (d) [.inr (.inr 22), .inl x1] w (some (.inl y), v) := by
  obtain ⟨e, rfl⟩ : ∃ e, d = e + 1 := ⟨d - 1, by omega⟩
  exact w_x_Replies_gainOfSome_d N e (by omega)
theorem dX4_best_0 : decode cX4_best 0 = .ok (.aload_n 0, 1) := by decide +kernel
theorem dX4_best_1 : decode cX4_best 1 = .ok (.getfield 15, 3) := by decide +kernel
theorem dX4_best_4 : decode cX4_best 4 = .ok (.iload_n 1, 1) := by decide +kernel
theorem dX4_best_5 : decode cX4_best 5 = .ok (.invokevirtual 51, 3) := by decide +kernel
theorem dX4_best_8 : decode cX4_best 8 = .ok (.aload_n 0, 1) := by decide +kernel
theorem dX4_best_9 : decode cX4_best 9 = .ok (.getfield 15, 3) := by decide +kernel
theorem dX4_best_12 : decode cX4_best 12 = .ok (.iload_n 1, 1) := by decide +kernel
theorem dX4_best_13 : decode cX4_best 13 = .ok (.invokevirtual 55, 3) := by decide +kernel
theorem dX4_best_16 : decode cX4_best 16 = .ok (.istore_n 2, 1) := by decide +kernel
theorem dX4_best_17 : decode cX4_best 17 = .ok (.iconst 0, 1) := by decide +kernel
theorem dX4_best_18 : decode cX4_best 18 = .ok (.istore_n 3, 1) := by decide +kernel
theorem dX4_best_19 : decode cX4_best 19 = .ok (.iload_n 3, 1) := by decide +kernel
theorem dX4_best_20 : decode cX4_best 20 = .ok (.iload_n 2, 1) := by decide +kernel
theorem dX4_best_21 : decode cX4_best 21 = .ok (.if_icmp .ge 61, 3) := by decide +kernel
theorem dX4_best_24 : decode cX4_best 24 = .ok (.aload_n 0, 1) := by decide +kernel
theorem dX4_best_25 : decode cX4_best 25 = .ok (.getfield 15, 3) := by decide +kernel
theorem dX4_best_28 : decode cX4_best 28 = .ok (.invokevirtual 58, 3) := by decide +kernel
theorem dX4_best_31 : decode cX4_best 31 = .ok (.aload_n 0, 1) := by decide +kernel
theorem dX4_best_32 : decode cX4_best 32 = .ok (.iload_n 1, 1) := by decide +kernel
theorem dX4_best_33 : decode cX4_best 33 = .ok (.invokevirtual 61, 3) := by decide +kernel
theorem dX4_best_36 : decode cX4_best 36 = .ok (.istore 4, 2) := by decide +kernel
theorem dX4_best_38 : decode cX4_best 38 = .ok (.iload_n 3, 1) := by decide +kernel
theorem dX4_best_39 : decode cX4_best 39 = .ok (.ifCond .eq 12, 3) := by decide +kernel
theorem dX4_best_42 : decode cX4_best 42 = .ok (.iload 4, 2) := by decide +kernel
theorem dX4_best_44 : decode cX4_best 44 = .ok (.aload_n 0, 1) := by decide +kernel
theorem dX4_best_45 : decode cX4_best 45 = .ok (.getfield 64, 3) := by decide +kernel
theorem dX4_best_48 : decode cX4_best 48 = .ok (.if_icmp .le 20, 3) := by decide +kernel
theorem dX4_best_51 : decode cX4_best 51 = .ok (.aload_n 0, 1) := by decide +kernel
theorem dX4_best_52 : decode cX4_best 52 = .ok (.iload 4, 2) := by decide +kernel
theorem dX4_best_54 : decode cX4_best 54 = .ok (.putfield 64, 3) := by decide +kernel
theorem dX4_best_57 : decode cX4_best 57 = .ok (.aload_n 0, 1) := by decide +kernel
theorem dX4_best_58 : decode cX4_best 58 = .ok (.aload_n 0, 1) := by decide +kernel
theorem dX4_best_59 : decode cX4_best 59 = .ok (.getfield 15, 3) := by decide +kernel
theorem dX4_best_62 : decode cX4_best 62 = .ok (.invokevirtual 67, 3) := by decide +kernel
theorem dX4_best_65 : decode cX4_best 65 = .ok (.putfield 71, 3) := by decide +kernel
theorem dX4_best_68 : decode cX4_best 68 = .ok (.aload_n 0, 1) := by decide +kernel
theorem dX4_best_69 : decode cX4_best 69 = .ok (.getfield 15, 3) := by decide +kernel
theorem dX4_best_72 : decode cX4_best 72 = .ok (.iload_n 1, 1) := by decide +kernel
theorem dX4_best_73 : decode cX4_best 73 = .ok (.invokevirtual 74, 3) := by decide +kernel
theorem dX4_best_76 : decode cX4_best 76 = .ok (.iinc 3 1, 3) := by decide +kernel
theorem dX4_best_79 : decode cX4_best 79 = .ok (.goto (-60), 3) := by decide +kernel
theorem dX4_best_82 : decode cX4_best 82 = .ok (.return_, 1) := by decide +kernel
def x_Replies_best_82 (N : Nat) (w : aw_W) : Option (aw_W) :=
  some w
theorem w_x_Replies_best_82 {l : Launch} {K : aw_K} (N d : Nat) (hd : 3 ≤ d) : ∀ (w v : aw_W), x_Replies_best_82 N w = some v → aw_AW l K MX4_best (d + 1) 82 [] [] w (none, v) := by
  intro w v h
  unfold x_Replies_best_82 at h
  cases h
  exact aw_vret (pc := 82) rfl dX4_best_82
def x_Replies_best_68 (N : Nat) (k19 : Int → Int → Int → aw_W → Option (aw_W)) (x1 x2 x3 : Int) (w : aw_W) : Option (aw_W) :=
  aw_b1 (x_Sale_next N x1 w) fun w1 =>
    k19 x1 x2 (aw_w (x3 + 1)) w1
theorem w_x_Replies_best_68 {l : Launch} {K : aw_K} (N d : Nat) (hd : 3 ≤ d) (k19 : Int → Int → Int → aw_W → Option (aw_W)) (hk19 : ∀ (x1 x2 x3 : Int) (w v : aw_W), k19 x1 x2 x3 w = some v → aw_AW l K MX4_best (d + 1) 19 [(0, .inr (.inr 22)), (1, .inl x1), (2, .inl x2), (3, .inl x3)] [] w (none, v)) : ∀ (x1 x2 x3 : Int) (w v : aw_W), x_Replies_best_68 N k19 x1 x2 x3 w = some v → aw_AW l K MX4_best (d + 1) 68 [(0, .inr (.inr 22)), (1, .inl x1), (2, .inl x2), (3, .inl x3)] [] w (none, v) := by
  intro x1 x2 x3 w v h
  unfold x_Replies_best_68 at h
  refine aw_aload_n (pc := 68) (q := 0) dX4_best_68 rfl ?_
  refine aw_getf (pc := 69) (v := .inr (.inr 17)) dX4_best_69 fl_RX4_15 (by decide) rfl rfl rfl ?_
  refine aw_iload_n (pc := 72) (q := 1) dX4_best_72 rfl ?_
  obtain ⟨w1, h1, h⟩ := aw_b1s h
  refine aw_callV (pc := 73) (as := [.inl x1]) (st := []) (st' := []) dX4_best_73 cv_RX4_74 (by decide) rfl rfl rfl rfl (Nat.le_of_ble_eq_true rfl) (w_x_Sale_next N d (by omega) _ _ _ h1) rfl ?_
  refine aw_iinc (pc := 76) (q := 3) (ls' := [(3, .inl (aw_w (x3 + 1))), (0, .inr (.inr 22)), (1, .inl x1), (2, .inl x2)]) dX4_best_76 rfl (by decide) rfl ?_
  refine aw_goto (pc := 79) (tgt := 19) dX4_best_79 (by decide) ?_
  exact aw_sel [1, 2, 3, 0] rfl (hk19 _ _ _ _ _ h)
def x_Replies_best_51 (N : Nat) (k19 : Int → Int → Int → aw_W → Option (aw_W)) (x1 x2 x3 x4 : Int) (w : aw_W) : Option (aw_W) :=
  aw_b2 (x_Sale_row N (aw_up w 22 5 x4)) fun r1 w1 =>
    x_Replies_best_68 N k19 x1 x2 x3 (aw_up w1 22 6 r1)
theorem w_x_Replies_best_51 {l : Launch} {K : aw_K} (N d : Nat) (hd : 3 ≤ d) (k19 : Int → Int → Int → aw_W → Option (aw_W)) (hk19 : ∀ (x1 x2 x3 : Int) (w v : aw_W), k19 x1 x2 x3 w = some v → aw_AW l K MX4_best (d + 1) 19 [(0, .inr (.inr 22)), (1, .inl x1), (2, .inl x2), (3, .inl x3)] [] w (none, v)) : ∀ (x1 x2 x3 x4 : Int) (w v : aw_W), x_Replies_best_51 N k19 x1 x2 x3 x4 w = some v → aw_AW l K MX4_best (d + 1) 51 [(0, .inr (.inr 22)), (1, .inl x1), (2, .inl x2), (3, .inl x3), (4, .inl x4)] [] w (none, v) := by
  intro x1 x2 x3 x4 w v h
  unfold x_Replies_best_51 at h
  refine aw_aload_n (pc := 51) (q := 0) dX4_best_51 rfl ?_
  refine aw_iload (pc := 52) (q := 4) dX4_best_52 rfl ?_
  refine aw_puti (pc := 54) dX4_best_54 fp_RX4_64 (by decide) rfl rfl ?_
  refine aw_aload_n (pc := 57) (q := 0) dX4_best_57 rfl ?_
  refine aw_aload_n (pc := 58) (q := 0) dX4_best_58 rfl ?_
  refine aw_getf (pc := 59) (v := .inr (.inr 17)) dX4_best_59 fl_RX4_15 (by decide) rfl rfl rfl ?_
  obtain ⟨r1, w1, h1, h⟩ := aw_b2s h
  refine aw_callV (pc := 62) (as := []) (st := [.inr (.inr 22)]) (st' := [.inl r1, .inr (.inr 22)]) dX4_best_62 cv_RX4_67 (by decide) rfl rfl rfl rfl (Nat.le_of_ble_eq_true rfl) (w_x_Sale_row N d (by omega) _ _ _ h1) rfl ?_
  refine aw_puti (pc := 65) dX4_best_65 fp_RX4_71 (by decide) rfl rfl ?_
  exact aw_sel [0, 1, 2, 3] rfl (w_x_Replies_best_68 N d hd  _ hk19 _ _ _ _ _ h)
def x_Replies_best_19 (N : Nat) : Nat → Int → Int → Int → aw_W → Option (aw_W)
  | 0, _, _, _, _ => none
  | n + 1, x1, x2, x3, w =>
    if x2 ≤ x3 then
      x_Replies_best_82 N w
    else
      aw_b1 (x_Sale_settle N w) fun w1 =>
        aw_b2 (x_Replies_gainOfSome N x1 w1) fun r2 w2 =>
          if x3 = 0 then
            x_Replies_best_51 N (x_Replies_best_19 N n) x1 x2 x3 r2 w2
          else
            if r2 ≤ (w2 22 5) then
              x_Replies_best_68 N (x_Replies_best_19 N n) x1 x2 x3 w2
            else
              x_Replies_best_51 N (x_Replies_best_19 N n) x1 x2 x3 r2 w2
theorem w_x_Replies_best_19 {l : Launch} {K : aw_K} (N d : Nat) (hd : 3 ≤ d) : ∀ (n : Nat) (x1 x2 x3 : Int) (w v : aw_W), x_Replies_best_19 N n x1 x2 x3 w = some v → aw_AW l K MX4_best (d + 1) 19 [(0, .inr (.inr 22)), (1, .inl x1), (2, .inl x2), (3, .inl x3)] [] w (none, v) := by
  intro n
  induction n with
  | zero => intro x1 x2 x3 w v h; rw [x_Replies_best_19] at h; cases h
  | succ n ih =>
    intro x1 x2 x3 w v h
    rw [x_Replies_best_19] at h
    refine aw_iload_n (pc := 19) (q := 3) dX4_best_19 rfl ?_
    refine aw_iload_n (pc := 20) (q := 2) dX4_best_20 rfl ?_
    refine aw_icmp_ge (pc := 21) (tgt := 82) dX4_best_21 (by decide) (fun hc => ?_) (fun hc => ?_)
    · rw [if_pos hc] at h
      exact aw_sel [] rfl (w_x_Replies_best_82 N d hd  _ _ h)
    · rw [if_neg hc] at h
      refine aw_aload_n (pc := 24) (q := 0) dX4_best_24 rfl ?_
      refine aw_getf (pc := 25) (v := .inr (.inr 17)) dX4_best_25 fl_RX4_15 (by decide) rfl rfl rfl ?_
      obtain ⟨w1, h1, h⟩ := aw_b1s h
      refine aw_callV (pc := 28) (as := []) (st := []) (st' := []) dX4_best_28 cv_RX4_58 (by decide) rfl rfl rfl rfl (Nat.le_of_ble_eq_true rfl) (w_x_Sale_settle N d (by omega) _ _ h1) rfl ?_
      refine aw_aload_n (pc := 31) (q := 0) dX4_best_31 rfl ?_
      refine aw_iload_n (pc := 32) (q := 1) dX4_best_32 rfl ?_
      obtain ⟨r2, w2, h2, h⟩ := aw_b2s h
      refine aw_callV (pc := 33) (as := [.inl x1]) (st := []) (st' := [.inl r2]) dX4_best_33 cv_RX4_61 (by decide) rfl rfl rfl rfl (Nat.le_of_ble_eq_true rfl) (w_x_Replies_gainOfSome N d (by omega) _ _ _ _ h2) rfl ?_
      refine aw_istore (pc := 36) (ls' := [(4, .inl r2), (0, .inr (.inr 22)), (1, .inl x1), (2, .inl x2), (3, .inl x3)]) dX4_best_36 (by decide) rfl ?_
      refine aw_iload_n (pc := 38) (q := 4) dX4_best_38 rfl ?_
      refine aw_if_eq (pc := 39) (tgt := 51) dX4_best_39 (by decide) (fun hc => ?_) (fun hc => ?_)
      · rw [if_pos hc] at h
        exact aw_sel [1, 2, 3, 4, 0] rfl (w_x_Replies_best_51 N d hd  _ ih _ _ _ _ _ _ h)
      · rw [if_neg hc] at h
        refine aw_iload (pc := 42) (q := 0) dX4_best_42 rfl ?_
        refine aw_aload_n (pc := 44) (q := 1) dX4_best_44 rfl ?_
        refine aw_getf (pc := 45) (v := .inl (w2 22 5)) dX4_best_45 fl_RX4_64 (by decide) rfl rfl rfl ?_
        refine aw_icmp_le (pc := 48) (tgt := 68) dX4_best_48 (by decide) (fun hc => ?_) (fun hc => ?_)
        · rw [if_pos hc] at h
          exact aw_sel [1, 2, 3, 4] rfl (w_x_Replies_best_68 N d hd  _ ih _ _ _ _ _ h)
        · rw [if_neg hc] at h
          exact aw_sel [1, 2, 3, 4, 0] rfl (w_x_Replies_best_51 N d hd  _ ih _ _ _ _ _ _ h)
def x_Replies_best (N : Nat) (x1 : Int) (w : aw_W) : Option (aw_W) :=
  aw_b1 (x_Sale_lowest N x1 w) fun w1 =>
    aw_b2 (x_Sale_rowsOf N x1 w1) fun r2 w2 =>
      x_Replies_best_19 N N x1 r2 0 w2
theorem w_x_Replies_best_d {l : Launch} {K : aw_K} (N d : Nat) (hd : 3 ≤ d) : ∀ (x1 : Int) (w v : aw_W), x_Replies_best N x1 w = some v → aw_Met l K MX4_best (d + 1) [.inr (.inr 22), .inl x1] w (none, v) := by
  intro x1 w v h
  unfold x_Replies_best at h
  refine aw_enter rfl (Nat.le_of_ble_eq_true rfl) ?_
  show aw_AW l K MX4_best (d + 1) 0 [(0, .inr (.inr 22)), (1, .inl x1)] [] w (none, v)
  refine aw_aload_n (pc := 0) (q := 0) dX4_best_0 rfl ?_
  refine aw_getf (pc := 1) (v := .inr (.inr 17)) dX4_best_1 fl_RX4_15 (by decide) rfl rfl rfl ?_
  refine aw_iload_n (pc := 4) (q := 1) dX4_best_4 rfl ?_
  obtain ⟨w1, h1, h⟩ := aw_b1s h
  refine aw_callV (pc := 5) (as := [.inl x1]) (st := []) (st' := []) dX4_best_5 cv_RX4_51 (by decide) rfl rfl rfl rfl (Nat.le_of_ble_eq_true rfl) (w_x_Sale_lowest N d (by omega) _ _ _ h1) rfl ?_
  refine aw_aload_n (pc := 8) (q := 0) dX4_best_8 rfl ?_
  refine aw_getf (pc := 9) (v := .inr (.inr 17)) dX4_best_9 fl_RX4_15 (by decide) rfl rfl rfl ?_
  refine aw_iload_n (pc := 12) (q := 1) dX4_best_12 rfl ?_
  obtain ⟨r2, w2, h2, h⟩ := aw_b2s h
  refine aw_callV (pc := 13) (as := [.inl x1]) (st := []) (st' := [.inl r2]) dX4_best_13 cv_RX4_55 (by decide) rfl rfl rfl rfl (Nat.le_of_ble_eq_true rfl) (w_x_Sale_rowsOf N d (by omega) _ _ _ _ h2) rfl ?_
  refine aw_istore_n (pc := 16) (ls' := [(2, .inl r2), (0, .inr (.inr 22)), (1, .inl x1)]) dX4_best_16 (by decide) rfl ?_
  refine aw_iconst (pc := 17) dX4_best_17 ⟨by decide, by decide⟩ ?_
  refine aw_istore_n (pc := 18) (ls' := [(3, .inl 0), (2, .inl r2), (0, .inr (.inr 22)), (1, .inl x1)]) dX4_best_18 (by decide) rfl ?_
  exact aw_sel [2, 3, 1, 0] rfl (w_x_Replies_best_19 N d hd  N _ _ _ _ _ h)
theorem w_x_Replies_best {l : Launch} {K : aw_K} (N d : Nat) (hd : 4 ≤ d) : ∀ (x1 : Int) (w v : aw_W), x_Replies_best N x1 w = some v → aw_Met l K MX4_best (d) [.inr (.inr 22), .inl x1] w (none, v) := by
  obtain ⟨e, rfl⟩ : ∃ e, d = e + 1 := ⟨d - 1, by omega⟩
  exact w_x_Replies_best_d N e (by omega)
theorem dX11_together_0 : decode cX11_together 0 = .ok (.iload_n 3, 1) := by decide +kernel
theorem dX11_together_1 : decode cX11_together 1 = .ok (.ifCond .lt 17, 3) := by decide +kernel
theorem dX11_together_4 : decode cX11_together 4 = .ok (.iload_n 3, 1) := by decide +kernel
theorem dX11_together_5 : decode cX11_together 5 = .ok (.iconst 1, 1) := by decide +kernel
theorem dX11_together_6 : decode cX11_together 6 = .ok (.if_icmp .gt 12, 3) := by decide +kernel
theorem dX11_together_9 : decode cX11_together 9 = .ok (.aload_n 0, 1) := by decide +kernel
theorem dX11_together_10 : decode cX11_together 10 = .ok (.iload_n 1, 1) := by decide +kernel
theorem dX11_together_11 : decode cX11_together 11 = .ok (.iload_n 2, 1) := by decide +kernel
theorem dX11_together_12 : decode cX11_together 12 = .ok (.invokevirtual 245, 3) := by decide +kernel
theorem dX11_together_15 : decode cX11_together 15 = .ok (.ifCond .ne 6, 3) := by decide +kernel
theorem dX11_together_18 : decode cX11_together 18 = .ok (.ldc 165, 2) := by decide +kernel
theorem dX11_together_20 : decode cX11_together 20 = .ok (.ireturn, 1) := by decide +kernel
theorem dX11_together_21 : decode cX11_together 21 = .ok (.aload_n 0, 1) := by decide +kernel
theorem dX11_together_22 : decode cX11_together 22 = .ok (.getfield 47, 3) := by decide +kernel
theorem dX11_together_25 : decode cX11_together 25 = .ok (.iload_n 2, 1) := by decide +kernel
theorem dX11_together_26 : decode cX11_together 26 = .ok (.invokevirtual 248, 3) := by decide +kernel
theorem dX11_together_29 : decode cX11_together 29 = .ok (.iload_n 3, 1) := by decide +kernel
theorem dX11_together_30 : decode cX11_together 30 = .ok (.ifCond .ne 13, 3) := by decide +kernel
theorem dX11_together_33 : decode cX11_together 33 = .ok (.aload_n 0, 1) := by decide +kernel
theorem dX11_together_34 : decode cX11_together 34 = .ok (.getfield 47, 3) := by decide +kernel
theorem dX11_together_37 : decode cX11_together 37 = .ok (.getfield 251, 3) := by decide +kernel
theorem dX11_together_40 : decode cX11_together 40 = .ok (.goto 10, 3) := by decide +kernel
theorem dX11_together_43 : decode cX11_together 43 = .ok (.aload_n 0, 1) := by decide +kernel
theorem dX11_together_44 : decode cX11_together 44 = .ok (.getfield 47, 3) := by decide +kernel
theorem dX11_together_47 : decode cX11_together 47 = .ok (.getfield 254, 3) := by decide +kernel
theorem dX11_together_50 : decode cX11_together 50 = .ok (.ireturn, 1) := by decide +kernel
def x_together_18 (N : Nat) (w : aw_W) : Option (Int × aw_W) :=
  some ((-1000000), w)
theorem w_x_together_18 {l : Launch} {K : aw_K} (N d : Nat) (hd : 4 ≤ d) : ∀ (w : aw_W) (y : Int) (v : aw_W), x_together_18 N w = some (y, v) → aw_AW l K MX11_together (d + 1) 18 [] [] w (some (.inl y), v) := by
  intro w y v h
  unfold x_together_18 at h
  refine aw_ldc (pc := 18) (x := (-1000000)) dX11_together_18 cn_RX11_165 ⟨by decide, by decide⟩ ?_
  cases h
  exact aw_iret (pc := 20) rfl dX11_together_20
def x_together_50 (N : Nat) (s0 : Int) (w : aw_W) : Option (Int × aw_W) :=
  some (s0, w)
theorem w_x_together_50 {l : Launch} {K : aw_K} (N d : Nat) (hd : 4 ≤ d) : ∀ (s0 : Int) (w : aw_W) (y : Int) (v : aw_W), x_together_50 N s0 w = some (y, v) → aw_AW l K MX11_together (d + 1) 50 [] [.inl s0] w (some (.inl y), v) := by
  intro s0 w y v h
  unfold x_together_50 at h
  cases h
  exact aw_iret (pc := 50) rfl dX11_together_50
def x_together (N : Nat) (x1 x2 x3 : Int) (w : aw_W) : Option (Int × aw_W) :=
  if x3 < 0 then
    x_together_18 N w
  else
    if 1 < x3 then
      x_together_18 N w
    else
      aw_b2 (x_mayPact N x1 x2 w) fun r1 w1 =>
        if r1 = 0 then
          x_together_18 N w1
        else
          aw_b1 (x_Replies_best N x2 w1) fun w2 =>
            if x3 = 0 then
              x_together_50 N (w2 22 5) w2
            else
              x_together_50 N (w2 22 6) w2
theorem w_x_together_d {l : Launch} {K : aw_K} (N d : Nat) (hd : 4 ≤ d) : ∀ (x1 x2 x3 : Int) (w : aw_W) (y : Int) (v : aw_W), x_together N x1 x2 x3 w = some (y, v) → aw_Met l K MX11_together (d + 1) [.inr (.inr 0), .inl x1, .inl x2, .inl x3] w (some (.inl y), v) := by
  intro x1 x2 x3 w y v h
  unfold x_together at h
  refine aw_enter rfl (Nat.le_of_ble_eq_true rfl) ?_
  show aw_AW l K MX11_together (d + 1) 0 [(0, .inr (.inr 0)), (1, .inl x1), (2, .inl x2), (3, .inl x3)] [] w (some (.inl y), v)
  refine aw_iload_n (pc := 0) (q := 3) dX11_together_0 rfl ?_
  refine aw_if_lt (pc := 1) (tgt := 18) dX11_together_1 (by decide) (fun hc => ?_) (fun hc => ?_)
  · rw [if_pos hc] at h
    exact aw_sel [] rfl (w_x_together_18 N d hd  _ _ _ h)
  · rw [if_neg hc] at h
    refine aw_iload_n (pc := 4) (q := 3) dX11_together_4 rfl ?_
    refine aw_iconst (pc := 5) dX11_together_5 ⟨by decide, by decide⟩ ?_
    refine aw_icmp_gt (pc := 6) (tgt := 18) dX11_together_6 (by decide) (fun hc => ?_) (fun hc => ?_)
    · rw [if_pos hc] at h
      exact aw_sel [] rfl (w_x_together_18 N d hd  _ _ _ h)
    · rw [if_neg hc] at h
      refine aw_aload_n (pc := 9) (q := 0) dX11_together_9 rfl ?_
      refine aw_iload_n (pc := 10) (q := 1) dX11_together_10 rfl ?_
      refine aw_iload_n (pc := 11) (q := 2) dX11_together_11 rfl ?_
      obtain ⟨r1, w1, h1, h⟩ := aw_b2s h
      refine aw_callV (pc := 12) (as := [.inl x1, .inl x2]) (st := []) (st' := [.inl r1]) dX11_together_12 cv_RX11_245 (by decide) rfl rfl rfl rfl (Nat.le_of_ble_eq_true rfl) (w_x_mayPact N d (by omega) _ _ _ _ _ h1) rfl ?_
      refine aw_if_ne (pc := 15) (tgt := 21) dX11_together_15 (by decide) (fun hc => ?_) (fun hc => ?_)
      · rw [if_neg hc] at h
        refine aw_aload_n (pc := 21) (q := 0) dX11_together_21 rfl ?_
        refine aw_getf (pc := 22) (v := .inr (.inr 22)) dX11_together_22 fl_RX11_47 (by decide) rfl rfl rfl ?_
        refine aw_iload_n (pc := 25) (q := 2) dX11_together_25 rfl ?_
        obtain ⟨w2, h2, h⟩ := aw_b1s h
        refine aw_callV (pc := 26) (as := [.inl x2]) (st := []) (st' := []) dX11_together_26 cv_RX11_248 (by decide) rfl rfl rfl rfl (Nat.le_of_ble_eq_true rfl) (w_x_Replies_best N d (by omega) _ _ _ h2) rfl ?_
        refine aw_iload_n (pc := 29) (q := 3) dX11_together_29 rfl ?_
        refine aw_if_ne (pc := 30) (tgt := 43) dX11_together_30 (by decide) (fun hc => ?_) (fun hc => ?_)
        · rw [if_neg hc] at h
          refine aw_aload_n (pc := 43) (q := 0) dX11_together_43 rfl ?_
          refine aw_getf (pc := 44) (v := .inr (.inr 22)) dX11_together_44 fl_RX11_47 (by decide) rfl rfl rfl ?_
          refine aw_getf (pc := 47) (v := .inl (w2 22 6)) dX11_together_47 fl_RX11_254 (by decide) rfl rfl rfl ?_
          exact aw_sel [] rfl (w_x_together_50 N d hd  _ _ _ _ h)
        · rw [if_pos hc] at h
          refine aw_aload_n (pc := 33) (q := 0) dX11_together_33 rfl ?_
          refine aw_getf (pc := 34) (v := .inr (.inr 22)) dX11_together_34 fl_RX11_47 (by decide) rfl rfl rfl ?_
          refine aw_getf (pc := 37) (v := .inl (w2 22 5)) dX11_together_37 fl_RX11_251 (by decide) rfl rfl rfl ?_
          refine aw_goto (pc := 40) (tgt := 50) dX11_together_40 (by decide) ?_
          exact aw_sel [] rfl (w_x_together_50 N d hd  _ _ _ _ h)
      · rw [if_pos hc] at h
        exact aw_sel [] rfl (w_x_together_18 N d hd  _ _ _ h)
theorem w_x_together {l : Launch} {K : aw_K} (N d : Nat) (hd : 5 ≤ d) : ∀ (x1 x2 x3 : Int) (w : aw_W) (y : Int) (v : aw_W), x_together N x1 x2 x3 w = some (y, v) → aw_Met l K MX11_together (d) [.inr (.inr 0), .inl x1, .inl x2, .inl x3] w (some (.inl y), v) := by
  obtain ⟨e, rfl⟩ : ∃ e, d = e + 1 := ⟨d - 1, by omega⟩
  exact w_x_together_d N e (by omega)
theorem dX11_treason_0 : decode cX11_treason 0 = .ok (.aload_n 0, 1) := by decide +kernel
theorem dX11_treason_1 : decode cX11_treason 1 = .ok (.iload_n 1, 1) := by decide +kernel
theorem dX11_treason_2 : decode cX11_treason 2 = .ok (.iload_n 2, 1) := by decide +kernel
theorem dX11_treason_3 : decode cX11_treason 3 = .ok (.invokevirtual 245, 3) := by decide +kernel
theorem dX11_treason_6 : decode cX11_treason 6 = .ok (.ifCond .ne 6, 3) := by decide +kernel
theorem dX11_treason_9 : decode cX11_treason 9 = .ok (.ldc 165, 2) := by decide +kernel
theorem dX11_treason_11 : decode cX11_treason 11 = .ok (.ireturn, 1) := by decide +kernel
theorem dX11_treason_12 : decode cX11_treason 12 = .ok (.aload_n 0, 1) := by decide +kernel
theorem dX11_treason_13 : decode cX11_treason 13 = .ok (.getfield 47, 3) := by decide +kernel
theorem dX11_treason_16 : decode cX11_treason 16 = .ok (.iload_n 2, 1) := by decide +kernel
theorem dX11_treason_17 : decode cX11_treason 17 = .ok (.invokevirtual 248, 3) := by decide +kernel
theorem dX11_treason_20 : decode cX11_treason 20 = .ok (.aload_n 0, 1) := by decide +kernel
theorem dX11_treason_21 : decode cX11_treason 21 = .ok (.getfield 38, 3) := by decide +kernel
theorem dX11_treason_24 : decode cX11_treason 24 = .ok (.aload_n 0, 1) := by decide +kernel
theorem dX11_treason_25 : decode cX11_treason 25 = .ok (.getfield 47, 3) := by decide +kernel
theorem dX11_treason_28 : decode cX11_treason 28 = .ok (.getfield 254, 3) := by decide +kernel
theorem dX11_treason_31 : decode cX11_treason 31 = .ok (.invokevirtual 257, 3) := by decide +kernel
theorem dX11_treason_34 : decode cX11_treason 34 = .ok (.pop, 1) := by decide +kernel
theorem dX11_treason_35 : decode cX11_treason 35 = .ok (.aload_n 0, 1) := by decide +kernel
theorem dX11_treason_36 : decode cX11_treason 36 = .ok (.getfield 47, 3) := by decide +kernel
theorem dX11_treason_39 : decode cX11_treason 39 = .ok (.iload_n 2, 1) := by decide +kernel
theorem dX11_treason_40 : decode cX11_treason 40 = .ok (.invokevirtual 230, 3) := by decide +kernel
theorem dX11_treason_43 : decode cX11_treason 43 = .ok (.aload_n 0, 1) := by decide +kernel
theorem dX11_treason_44 : decode cX11_treason 44 = .ok (.getfield 47, 3) := by decide +kernel
theorem dX11_treason_47 : decode cX11_treason 47 = .ok (.getfield 233, 3) := by decide +kernel
theorem dX11_treason_50 : decode cX11_treason 50 = .ok (.ireturn, 1) := by decide +kernel
def x_treason (N : Nat) (x1 x2 : Int) (w : aw_W) : Option (Int × aw_W) :=
  aw_b2 (x_mayPact N x1 x2 w) fun r1 w1 =>
    if r1 = 0 then
      some ((-1000000), w1)
    else
      aw_b1 (x_Replies_best N x2 w1) fun w2 =>
        aw_b2 (x_Sale_put N (w2 22 6) w2) fun r3 w3 =>
          aw_b1 (x_Replies_better N x2 w3) fun w4 =>
            some (w4 22 2, w4)
theorem w_x_treason_d {l : Launch} {K : aw_K} (N d : Nat) (hd : 4 ≤ d) : ∀ (x1 x2 : Int) (w : aw_W) (y : Int) (v : aw_W), x_treason N x1 x2 w = some (y, v) → aw_Met l K MX11_treason (d + 1) [.inr (.inr 0), .inl x1, .inl x2] w (some (.inl y), v) := by
  intro x1 x2 w y v h
  unfold x_treason at h
  refine aw_enter rfl (Nat.le_of_ble_eq_true rfl) ?_
  show aw_AW l K MX11_treason (d + 1) 0 [(0, .inr (.inr 0)), (1, .inl x1), (2, .inl x2)] [] w (some (.inl y), v)
  refine aw_aload_n (pc := 0) (q := 0) dX11_treason_0 rfl ?_
  refine aw_iload_n (pc := 1) (q := 1) dX11_treason_1 rfl ?_
  refine aw_iload_n (pc := 2) (q := 2) dX11_treason_2 rfl ?_
  obtain ⟨r1, w1, h1, h⟩ := aw_b2s h
  refine aw_callV (pc := 3) (as := [.inl x1, .inl x2]) (st := []) (st' := [.inl r1]) dX11_treason_3 cv_RX11_245 (by decide) rfl rfl rfl rfl (Nat.le_of_ble_eq_true rfl) (w_x_mayPact N d (by omega) _ _ _ _ _ h1) rfl ?_
  refine aw_if_ne (pc := 6) (tgt := 12) dX11_treason_6 (by decide) (fun hc => ?_) (fun hc => ?_)
  · rw [if_neg hc] at h
    refine aw_aload_n (pc := 12) (q := 0) dX11_treason_12 rfl ?_
    refine aw_getf (pc := 13) (v := .inr (.inr 22)) dX11_treason_13 fl_RX11_47 (by decide) rfl rfl rfl ?_
    refine aw_iload_n (pc := 16) (q := 2) dX11_treason_16 rfl ?_
    obtain ⟨w2, h2, h⟩ := aw_b1s h
    refine aw_callV (pc := 17) (as := [.inl x2]) (st := []) (st' := []) dX11_treason_17 cv_RX11_248 (by decide) rfl rfl rfl rfl (Nat.le_of_ble_eq_true rfl) (w_x_Replies_best N d (by omega) _ _ _ h2) rfl ?_
    refine aw_aload_n (pc := 20) (q := 0) dX11_treason_20 rfl ?_
    refine aw_getf (pc := 21) (v := .inr (.inr 17)) dX11_treason_21 fl_RX11_38 (by decide) rfl rfl rfl ?_
    refine aw_aload_n (pc := 24) (q := 0) dX11_treason_24 rfl ?_
    refine aw_getf (pc := 25) (v := .inr (.inr 22)) dX11_treason_25 fl_RX11_47 (by decide) rfl rfl rfl ?_
    refine aw_getf (pc := 28) (v := .inl (w2 22 6)) dX11_treason_28 fl_RX11_254 (by decide) rfl rfl rfl ?_
    obtain ⟨r3, w3, h3, h⟩ := aw_b2s h
    refine aw_callV (pc := 31) (as := [.inl (w2 22 6)]) (st := []) (st' := [.inl r3]) dX11_treason_31 cv_RX11_257 (by decide) rfl rfl rfl rfl (Nat.le_of_ble_eq_true rfl) (w_x_Sale_put N d (by omega) _ _ _ _ h3) rfl ?_
    refine aw_pop (pc := 34) dX11_treason_34 rfl ?_
    refine aw_aload_n (pc := 35) (q := 0) dX11_treason_35 rfl ?_
    refine aw_getf (pc := 36) (v := .inr (.inr 22)) dX11_treason_36 fl_RX11_47 (by decide) rfl rfl rfl ?_
    refine aw_iload_n (pc := 39) (q := 2) dX11_treason_39 rfl ?_
    obtain ⟨w4, h4, h⟩ := aw_b1s h
    refine aw_callV (pc := 40) (as := [.inl x2]) (st := []) (st' := []) dX11_treason_40 cv_RX11_230 (by decide) rfl rfl rfl rfl (Nat.le_of_ble_eq_true rfl) (w_x_Replies_better N d (by omega) _ _ _ h4) rfl ?_
    refine aw_aload_n (pc := 43) (q := 0) dX11_treason_43 rfl ?_
    refine aw_getf (pc := 44) (v := .inr (.inr 22)) dX11_treason_44 fl_RX11_47 (by decide) rfl rfl rfl ?_
    refine aw_getf (pc := 47) (v := .inl (w4 22 2)) dX11_treason_47 fl_RX11_233 (by decide) rfl rfl rfl ?_
    cases h
    exact aw_iret (pc := 50) rfl dX11_treason_50
  · rw [if_pos hc] at h
    refine aw_ldc (pc := 9) (x := (-1000000)) dX11_treason_9 cn_RX11_165 ⟨by decide, by decide⟩ ?_
    cases h
    exact aw_iret (pc := 11) rfl dX11_treason_11
theorem w_x_treason {l : Launch} {K : aw_K} (N d : Nat) (hd : 5 ≤ d) : ∀ (x1 x2 : Int) (w : aw_W) (y : Int) (v : aw_W), x_treason N x1 x2 w = some (y, v) → aw_Met l K MX11_treason (d) [.inr (.inr 0), .inl x1, .inl x2] w (some (.inl y), v) := by
  obtain ⟨e, rfl⟩ : ∃ e, d = e + 1 := ⟨d - 1, by omega⟩
  exact w_x_treason_d N e (by omega)
theorem dX11_undo_0 : decode cX11_undo 0 = .ok (.aload_n 0, 1) := by decide +kernel
theorem dX11_undo_1 : decode cX11_undo 1 = .ok (.getfield 84, 3) := by decide +kernel
theorem dX11_undo_4 : decode cX11_undo 4 = .ok (.getfield 132, 3) := by decide +kernel
theorem dX11_undo_7 : decode cX11_undo 7 = .ok (.ifCond .ne 5, 3) := by decide +kernel
theorem dX11_undo_10 : decode cX11_undo 10 = .ok (.iconst (-1), 1) := by decide +kernel
theorem dX11_undo_11 : decode cX11_undo 11 = .ok (.ireturn, 1) := by decide +kernel
theorem dX11_undo_12 : decode cX11_undo 12 = .ok (.aload_n 0, 1) := by decide +kernel
theorem dX11_undo_13 : decode cX11_undo 13 = .ok (.getfield 84, 3) := by decide +kernel
theorem dX11_undo_16 : decode cX11_undo 16 = .ok (.dup, 1) := by decide +kernel
theorem dX11_undo_17 : decode cX11_undo 17 = .ok (.getfield 132, 3) := by decide +kernel
theorem dX11_undo_20 : decode cX11_undo 20 = .ok (.iconst 1, 1) := by decide +kernel
theorem dX11_undo_21 : decode cX11_undo 21 = .ok (.isub, 1) := by decide +kernel
theorem dX11_undo_22 : decode cX11_undo 22 = .ok (.putfield 132, 3) := by decide +kernel
theorem dX11_undo_25 : decode cX11_undo 25 = .ok (.aload_n 0, 1) := by decide +kernel
theorem dX11_undo_26 : decode cX11_undo 26 = .ok (.getfield 84, 3) := by decide +kernel
theorem dX11_undo_29 : decode cX11_undo 29 = .ok (.getfield 132, 3) := by decide +kernel
theorem dX11_undo_32 : decode cX11_undo 32 = .ok (.ireturn, 1) := by decide +kernel
def x_undo (N : Nat) (w : aw_W) : Option (Int × aw_W) :=
  if (w 41 4) = 0 then
    some ((-1), w)
  else
    some (aw_w ((w 41 4) - 1), (aw_up w 41 4 (aw_w ((w 41 4) - 1))))
theorem w_x_undo {l : Launch} {K : aw_K} (N d : Nat) (hd : 0 ≤ d) : ∀ (w : aw_W) (y : Int) (v : aw_W), x_undo N w = some (y, v) → aw_Met l K MX11_undo (d) [.inr (.inr 0)] w (some (.inl y), v) := by
  intro w y v h
  unfold x_undo at h
  refine aw_enter rfl (Nat.le_of_ble_eq_true rfl) ?_
  show aw_AW l K MX11_undo (d) 0 [(0, .inr (.inr 0))] [] w (some (.inl y), v)
  refine aw_aload_n (pc := 0) (q := 0) dX11_undo_0 rfl ?_
  refine aw_getf (pc := 1) (v := .inr (.inr 41)) dX11_undo_1 fl_RX11_84 (by decide) rfl rfl rfl ?_
  refine aw_getf (pc := 4) (v := .inl (w 41 4)) dX11_undo_4 fl_RX11_132 (by decide) rfl rfl rfl ?_
  refine aw_if_ne (pc := 7) (tgt := 12) dX11_undo_7 (by decide) (fun hc => ?_) (fun hc => ?_)
  · rw [if_neg hc] at h
    refine aw_aload_n (pc := 12) (q := 0) dX11_undo_12 rfl ?_
    refine aw_getf (pc := 13) (v := .inr (.inr 41)) dX11_undo_13 fl_RX11_84 (by decide) rfl rfl rfl ?_
    refine aw_dup (pc := 16) dX11_undo_16 rfl ?_
    refine aw_getf (pc := 17) (v := .inl (w 41 4)) dX11_undo_17 fl_RX11_132 (by decide) rfl rfl rfl ?_
    refine aw_iconst (pc := 20) dX11_undo_20 ⟨by decide, by decide⟩ ?_
    refine aw_isub (pc := 21) dX11_undo_21 ?_
    refine aw_puti (pc := 22) dX11_undo_22 fp_RX11_132 (by decide) rfl rfl ?_
    refine aw_aload_n (pc := 25) (q := 0) dX11_undo_25 rfl ?_
    refine aw_getf (pc := 26) (v := .inr (.inr 41)) dX11_undo_26 fl_RX11_84 (by decide) rfl rfl rfl ?_
    refine aw_getf (pc := 29) (v := .inl (aw_w ((w 41 4) - 1))) dX11_undo_29 fl_RX11_132 (by decide) rfl rfl rfl ?_
    cases h
    exact aw_iret (pc := 32) rfl dX11_undo_32
  · rw [if_pos hc] at h
    refine aw_iconst (pc := 10) dX11_undo_10 ⟨by decide, by decide⟩ ?_
    cases h
    exact aw_iret (pc := 11) rfl dX11_undo_11
theorem dX4_rowsOfNobody_0 : decode cX4_rowsOfNobody 0 = .ok (.iconst 0, 1) := by decide +kernel
theorem dX4_rowsOfNobody_1 : decode cX4_rowsOfNobody 1 = .ok (.istore_n 1, 1) := by decide +kernel
theorem dX4_rowsOfNobody_2 : decode cX4_rowsOfNobody 2 = .ok (.aload_n 0, 1) := by decide +kernel
theorem dX4_rowsOfNobody_3 : decode cX4_rowsOfNobody 3 = .ok (.getfield 15, 3) := by decide +kernel
theorem dX4_rowsOfNobody_6 : decode cX4_rowsOfNobody 6 = .ok (.aload_n 0, 1) := by decide +kernel
theorem dX4_rowsOfNobody_7 : decode cX4_rowsOfNobody 7 = .ok (.getfield 9, 3) := by decide +kernel
theorem dX4_rowsOfNobody_10 : decode cX4_rowsOfNobody 10 = .ok (.invokevirtual 86, 3) := by decide +kernel
theorem dX4_rowsOfNobody_13 : decode cX4_rowsOfNobody 13 = .ok (.invokevirtual 51, 3) := by decide +kernel
theorem dX4_rowsOfNobody_16 : decode cX4_rowsOfNobody 16 = .ok (.aload_n 0, 1) := by decide +kernel
theorem dX4_rowsOfNobody_17 : decode cX4_rowsOfNobody 17 = .ok (.getfield 15, 3) := by decide +kernel
theorem dX4_rowsOfNobody_20 : decode cX4_rowsOfNobody 20 = .ok (.aload_n 0, 1) := by decide +kernel
theorem dX4_rowsOfNobody_21 : decode cX4_rowsOfNobody 21 = .ok (.getfield 9, 3) := by decide +kernel
theorem dX4_rowsOfNobody_24 : decode cX4_rowsOfNobody 24 = .ok (.invokevirtual 86, 3) := by decide +kernel
theorem dX4_rowsOfNobody_27 : decode cX4_rowsOfNobody 27 = .ok (.invokevirtual 55, 3) := by decide +kernel
theorem dX4_rowsOfNobody_30 : decode cX4_rowsOfNobody 30 = .ok (.istore_n 2, 1) := by decide +kernel
theorem dX4_rowsOfNobody_31 : decode cX4_rowsOfNobody 31 = .ok (.iconst 0, 1) := by decide +kernel
theorem dX4_rowsOfNobody_32 : decode cX4_rowsOfNobody 32 = .ok (.istore_n 3, 1) := by decide +kernel
theorem dX4_rowsOfNobody_33 : decode cX4_rowsOfNobody 33 = .ok (.iload_n 3, 1) := by decide +kernel
theorem dX4_rowsOfNobody_34 : decode cX4_rowsOfNobody 34 = .ok (.iload_n 2, 1) := by decide +kernel
theorem dX4_rowsOfNobody_35 : decode cX4_rowsOfNobody 35 = .ok (.if_icmp .ge 49, 3) := by decide +kernel
theorem dX4_rowsOfNobody_38 : decode cX4_rowsOfNobody 38 = .ok (.aload_n 0, 1) := by decide +kernel
theorem dX4_rowsOfNobody_39 : decode cX4_rowsOfNobody 39 = .ok (.getfield 15, 3) := by decide +kernel
theorem dX4_rowsOfNobody_42 : decode cX4_rowsOfNobody 42 = .ok (.invokevirtual 58, 3) := by decide +kernel
theorem dX4_rowsOfNobody_45 : decode cX4_rowsOfNobody 45 = .ok (.iload_n 1, 1) := by decide +kernel
theorem dX4_rowsOfNobody_46 : decode cX4_rowsOfNobody 46 = .ok (.aload_n 0, 1) := by decide +kernel
theorem dX4_rowsOfNobody_47 : decode cX4_rowsOfNobody 47 = .ok (.getfield 15, 3) := by decide +kernel
theorem dX4_rowsOfNobody_50 : decode cX4_rowsOfNobody 50 = .ok (.getfield 89, 3) := by decide +kernel
theorem dX4_rowsOfNobody_53 : decode cX4_rowsOfNobody 53 = .ok (.iconst (-1), 1) := by decide +kernel
theorem dX4_rowsOfNobody_54 : decode cX4_rowsOfNobody 54 = .ok (.if_icmp .ne 7, 3) := by decide +kernel
theorem dX4_rowsOfNobody_57 : decode cX4_rowsOfNobody 57 = .ok (.iconst 1, 1) := by decide +kernel
theorem dX4_rowsOfNobody_58 : decode cX4_rowsOfNobody 58 = .ok (.goto 4, 3) := by decide +kernel
theorem dX4_rowsOfNobody_61 : decode cX4_rowsOfNobody 61 = .ok (.iconst 0, 1) := by decide +kernel
theorem dX4_rowsOfNobody_62 : decode cX4_rowsOfNobody 62 = .ok (.iadd, 1) := by decide +kernel
theorem dX4_rowsOfNobody_63 : decode cX4_rowsOfNobody 63 = .ok (.istore_n 1, 1) := by decide +kernel
theorem dX4_rowsOfNobody_64 : decode cX4_rowsOfNobody 64 = .ok (.aload_n 0, 1) := by decide +kernel
theorem dX4_rowsOfNobody_65 : decode cX4_rowsOfNobody 65 = .ok (.getfield 15, 3) := by decide +kernel
theorem dX4_rowsOfNobody_68 : decode cX4_rowsOfNobody 68 = .ok (.aload_n 0, 1) := by decide +kernel
theorem dX4_rowsOfNobody_69 : decode cX4_rowsOfNobody 69 = .ok (.getfield 9, 3) := by decide +kernel
theorem dX4_rowsOfNobody_72 : decode cX4_rowsOfNobody 72 = .ok (.invokevirtual 86, 3) := by decide +kernel
theorem dX4_rowsOfNobody_75 : decode cX4_rowsOfNobody 75 = .ok (.invokevirtual 74, 3) := by decide +kernel
theorem dX4_rowsOfNobody_78 : decode cX4_rowsOfNobody 78 = .ok (.iinc 3 1, 3) := by decide +kernel
theorem dX4_rowsOfNobody_81 : decode cX4_rowsOfNobody 81 = .ok (.goto (-48), 3) := by decide +kernel
theorem dX4_rowsOfNobody_84 : decode cX4_rowsOfNobody 84 = .ok (.iload_n 1, 1) := by decide +kernel
theorem dX4_rowsOfNobody_85 : decode cX4_rowsOfNobody 85 = .ok (.ireturn, 1) := by decide +kernel
def x_Replies_rowsOfNobody_84 (N : Nat) (x1 : Int) (w : aw_W) : Option (Int × aw_W) :=
  some (x1, w)
theorem w_x_Replies_rowsOfNobody_84 {l : Launch} {K : aw_K} (N d : Nat) (hd : 2 ≤ d) : ∀ (x1 : Int) (w : aw_W) (y : Int) (v : aw_W), x_Replies_rowsOfNobody_84 N x1 w = some (y, v) → aw_AW l K MX4_rowsOfNobody (d + 1) 84 [(1, .inl x1)] [] w (some (.inl y), v) := by
  intro x1 w y v h
  unfold x_Replies_rowsOfNobody_84 at h
  refine aw_iload_n (pc := 84) (q := 0) dX4_rowsOfNobody_84 rfl ?_
  cases h
  exact aw_iret (pc := 85) rfl dX4_rowsOfNobody_85
def x_Replies_rowsOfNobody_62 (N : Nat) (k33 : Int → Int → Int → aw_W → Option (Int × aw_W)) (x2 x3 s0 s1 : Int) (w : aw_W) : Option (Int × aw_W) :=
  aw_b2 (x_Land_all N w) fun r1 w1 =>
    aw_b1 (x_Sale_next N r1 w1) fun w2 =>
      k33 (aw_w (s1 + s0)) x2 (aw_w (x3 + 1)) w2
theorem w_x_Replies_rowsOfNobody_62 {l : Launch} {K : aw_K} (N d : Nat) (hd : 2 ≤ d) (k33 : Int → Int → Int → aw_W → Option (Int × aw_W)) (hk33 : ∀ (x1 x2 x3 : Int) (w : aw_W) (y : Int) (v : aw_W), k33 x1 x2 x3 w = some (y, v) → aw_AW l K MX4_rowsOfNobody (d + 1) 33 [(0, .inr (.inr 22)), (1, .inl x1), (2, .inl x2), (3, .inl x3)] [] w (some (.inl y), v)) : ∀ (x2 x3 s0 s1 : Int) (w : aw_W) (y : Int) (v : aw_W), x_Replies_rowsOfNobody_62 N k33 x2 x3 s0 s1 w = some (y, v) → aw_AW l K MX4_rowsOfNobody (d + 1) 62 [(0, .inr (.inr 22)), (2, .inl x2), (3, .inl x3)] [.inl s0, .inl s1] w (some (.inl y), v) := by
  intro x2 x3 s0 s1 w y v h
  unfold x_Replies_rowsOfNobody_62 at h
  refine aw_iadd (pc := 62) dX4_rowsOfNobody_62 ?_
  refine aw_istore_n (pc := 63) (ls' := [(1, .inl (aw_w (s1 + s0))), (0, .inr (.inr 22)), (2, .inl x2), (3, .inl x3)]) dX4_rowsOfNobody_63 (by decide) rfl ?_
  refine aw_aload_n (pc := 64) (q := 1) dX4_rowsOfNobody_64 rfl ?_
  refine aw_getf (pc := 65) (v := .inr (.inr 17)) dX4_rowsOfNobody_65 fl_RX4_15 (by decide) rfl rfl rfl ?_
  refine aw_aload_n (pc := 68) (q := 1) dX4_rowsOfNobody_68 rfl ?_
  refine aw_getf (pc := 69) (v := .inr (.inr 3)) dX4_rowsOfNobody_69 fl_RX4_9 (by decide) rfl rfl rfl ?_
  obtain ⟨r1, w1, h1, h⟩ := aw_b2s h
  refine aw_callV (pc := 72) (as := []) (st := [.inr (.inr 17)]) (st' := [.inl r1, .inr (.inr 17)]) dX4_rowsOfNobody_72 cv_RX4_86 (by decide) rfl rfl rfl rfl (Nat.le_of_ble_eq_true rfl) (w_x_Land_all N d (by omega) _ _ _ h1) rfl ?_
  obtain ⟨w2, h2, h⟩ := aw_b1s h
  refine aw_callV (pc := 75) (as := [.inl r1]) (st := []) (st' := []) dX4_rowsOfNobody_75 cv_RX4_74 (by decide) rfl rfl rfl rfl (Nat.le_of_ble_eq_true rfl) (w_x_Sale_next N d (by omega) _ _ _ h2) rfl ?_
  refine aw_iinc (pc := 78) (q := 3) (ls' := [(3, .inl (aw_w (x3 + 1))), (1, .inl (aw_w (s1 + s0))), (0, .inr (.inr 22)), (2, .inl x2)]) dX4_rowsOfNobody_78 rfl (by decide) rfl ?_
  refine aw_goto (pc := 81) (tgt := 33) dX4_rowsOfNobody_81 (by decide) ?_
  exact aw_sel [2, 1, 3, 0] rfl (hk33 _ _ _ _ _ _ h)
def x_Replies_rowsOfNobody_33 (N : Nat) : Nat → Int → Int → Int → aw_W → Option (Int × aw_W)
  | 0, _, _, _, _ => none
  | n + 1, x1, x2, x3, w =>
    if x2 ≤ x3 then
      x_Replies_rowsOfNobody_84 N x1 w
    else
      aw_b1 (x_Sale_settle N w) fun w1 =>
        if (w1 17 3) = (-1) then
          x_Replies_rowsOfNobody_62 N (x_Replies_rowsOfNobody_33 N n) x2 x3 1 x1 w1
        else
          x_Replies_rowsOfNobody_62 N (x_Replies_rowsOfNobody_33 N n) x2 x3 0 x1 w1
theorem w_x_Replies_rowsOfNobody_33 {l : Launch} {K : aw_K} (N d : Nat) (hd : 2 ≤ d) : ∀ (n : Nat) (x1 x2 x3 : Int) (w : aw_W) (y : Int) (v : aw_W), x_Replies_rowsOfNobody_33 N n x1 x2 x3 w = some (y, v) → aw_AW l K MX4_rowsOfNobody (d + 1) 33 [(0, .inr (.inr 22)), (1, .inl x1), (2, .inl x2), (3, .inl x3)] [] w (some (.inl y), v) := by
  intro n
  induction n with
  | zero => intro x1 x2 x3 w y v h; rw [x_Replies_rowsOfNobody_33] at h; cases h
  | succ n ih =>
    intro x1 x2 x3 w y v h
    rw [x_Replies_rowsOfNobody_33] at h
    refine aw_iload_n (pc := 33) (q := 3) dX4_rowsOfNobody_33 rfl ?_
    refine aw_iload_n (pc := 34) (q := 2) dX4_rowsOfNobody_34 rfl ?_
    refine aw_icmp_ge (pc := 35) (tgt := 84) dX4_rowsOfNobody_35 (by decide) (fun hc => ?_) (fun hc => ?_)
    · rw [if_pos hc] at h
      exact aw_sel [1] rfl (w_x_Replies_rowsOfNobody_84 N d hd  _ _ _ _ h)
    · rw [if_neg hc] at h
      refine aw_aload_n (pc := 38) (q := 0) dX4_rowsOfNobody_38 rfl ?_
      refine aw_getf (pc := 39) (v := .inr (.inr 17)) dX4_rowsOfNobody_39 fl_RX4_15 (by decide) rfl rfl rfl ?_
      obtain ⟨w1, h1, h⟩ := aw_b1s h
      refine aw_callV (pc := 42) (as := []) (st := []) (st' := []) dX4_rowsOfNobody_42 cv_RX4_58 (by decide) rfl rfl rfl rfl (Nat.le_of_ble_eq_true rfl) (w_x_Sale_settle N d (by omega) _ _ h1) rfl ?_
      refine aw_iload_n (pc := 45) (q := 1) dX4_rowsOfNobody_45 rfl ?_
      refine aw_aload_n (pc := 46) (q := 0) dX4_rowsOfNobody_46 rfl ?_
      refine aw_getf (pc := 47) (v := .inr (.inr 17)) dX4_rowsOfNobody_47 fl_RX4_15 (by decide) rfl rfl rfl ?_
      refine aw_getf (pc := 50) (v := .inl (w1 17 3)) dX4_rowsOfNobody_50 fl_RX4_89 (by decide) rfl rfl rfl ?_
      refine aw_iconst (pc := 53) dX4_rowsOfNobody_53 ⟨by decide, by decide⟩ ?_
      refine aw_icmp_ne (pc := 54) (tgt := 61) dX4_rowsOfNobody_54 (by decide) (fun hc => ?_) (fun hc => ?_)
      · rw [if_neg hc] at h
        refine aw_iconst (pc := 61) dX4_rowsOfNobody_61 ⟨by decide, by decide⟩ ?_
        exact aw_sel [0, 2, 3] rfl (w_x_Replies_rowsOfNobody_62 N d hd  _ ih _ _ _ _ _ _ _ h)
      · rw [if_pos hc] at h
        refine aw_iconst (pc := 57) dX4_rowsOfNobody_57 ⟨by decide, by decide⟩ ?_
        refine aw_goto (pc := 58) (tgt := 62) dX4_rowsOfNobody_58 (by decide) ?_
        exact aw_sel [0, 2, 3] rfl (w_x_Replies_rowsOfNobody_62 N d hd  _ ih _ _ _ _ _ _ _ h)
def x_Replies_rowsOfNobody (N : Nat) (w : aw_W) : Option (Int × aw_W) :=
  aw_b2 (x_Land_all N w) fun r1 w1 =>
    aw_b1 (x_Sale_lowest N r1 w1) fun w2 =>
      aw_b2 (x_Land_all N w2) fun r3 w3 =>
        aw_b2 (x_Sale_rowsOf N r3 w3) fun r4 w4 =>
          x_Replies_rowsOfNobody_33 N N 0 r4 0 w4
theorem w_x_Replies_rowsOfNobody_d {l : Launch} {K : aw_K} (N d : Nat) (hd : 2 ≤ d) : ∀ (w : aw_W) (y : Int) (v : aw_W), x_Replies_rowsOfNobody N w = some (y, v) → aw_Met l K MX4_rowsOfNobody (d + 1) [.inr (.inr 22)] w (some (.inl y), v) := by
  intro w y v h
  unfold x_Replies_rowsOfNobody at h
  refine aw_enter rfl (Nat.le_of_ble_eq_true rfl) ?_
  show aw_AW l K MX4_rowsOfNobody (d + 1) 0 [(0, .inr (.inr 22))] [] w (some (.inl y), v)
  refine aw_iconst (pc := 0) dX4_rowsOfNobody_0 ⟨by decide, by decide⟩ ?_
  refine aw_istore_n (pc := 1) (ls' := [(1, .inl 0), (0, .inr (.inr 22))]) dX4_rowsOfNobody_1 (by decide) rfl ?_
  refine aw_aload_n (pc := 2) (q := 1) dX4_rowsOfNobody_2 rfl ?_
  refine aw_getf (pc := 3) (v := .inr (.inr 17)) dX4_rowsOfNobody_3 fl_RX4_15 (by decide) rfl rfl rfl ?_
  refine aw_aload_n (pc := 6) (q := 1) dX4_rowsOfNobody_6 rfl ?_
  refine aw_getf (pc := 7) (v := .inr (.inr 3)) dX4_rowsOfNobody_7 fl_RX4_9 (by decide) rfl rfl rfl ?_
  obtain ⟨r1, w1, h1, h⟩ := aw_b2s h
  refine aw_callV (pc := 10) (as := []) (st := [.inr (.inr 17)]) (st' := [.inl r1, .inr (.inr 17)]) dX4_rowsOfNobody_10 cv_RX4_86 (by decide) rfl rfl rfl rfl (Nat.le_of_ble_eq_true rfl) (w_x_Land_all N d (by omega) _ _ _ h1) rfl ?_
  obtain ⟨w2, h2, h⟩ := aw_b1s h
  refine aw_callV (pc := 13) (as := [.inl r1]) (st := []) (st' := []) dX4_rowsOfNobody_13 cv_RX4_51 (by decide) rfl rfl rfl rfl (Nat.le_of_ble_eq_true rfl) (w_x_Sale_lowest N d (by omega) _ _ _ h2) rfl ?_
  refine aw_aload_n (pc := 16) (q := 1) dX4_rowsOfNobody_16 rfl ?_
  refine aw_getf (pc := 17) (v := .inr (.inr 17)) dX4_rowsOfNobody_17 fl_RX4_15 (by decide) rfl rfl rfl ?_
  refine aw_aload_n (pc := 20) (q := 1) dX4_rowsOfNobody_20 rfl ?_
  refine aw_getf (pc := 21) (v := .inr (.inr 3)) dX4_rowsOfNobody_21 fl_RX4_9 (by decide) rfl rfl rfl ?_
  obtain ⟨r3, w3, h3, h⟩ := aw_b2s h
  refine aw_callV (pc := 24) (as := []) (st := [.inr (.inr 17)]) (st' := [.inl r3, .inr (.inr 17)]) dX4_rowsOfNobody_24 cv_RX4_86 (by decide) rfl rfl rfl rfl (Nat.le_of_ble_eq_true rfl) (w_x_Land_all N d (by omega) _ _ _ h3) rfl ?_
  obtain ⟨r4, w4, h4, h⟩ := aw_b2s h
  refine aw_callV (pc := 27) (as := [.inl r3]) (st := []) (st' := [.inl r4]) dX4_rowsOfNobody_27 cv_RX4_55 (by decide) rfl rfl rfl rfl (Nat.le_of_ble_eq_true rfl) (w_x_Sale_rowsOf N d (by omega) _ _ _ _ h4) rfl ?_
  refine aw_istore_n (pc := 30) (ls' := [(2, .inl r4), (1, .inl 0), (0, .inr (.inr 22))]) dX4_rowsOfNobody_30 (by decide) rfl ?_
  refine aw_iconst (pc := 31) dX4_rowsOfNobody_31 ⟨by decide, by decide⟩ ?_
  refine aw_istore_n (pc := 32) (ls' := [(3, .inl 0), (2, .inl r4), (1, .inl 0), (0, .inr (.inr 22))]) dX4_rowsOfNobody_32 (by decide) rfl ?_
  exact aw_sel [3, 2, 1, 0] rfl (w_x_Replies_rowsOfNobody_33 N d hd  N _ _ _ _ _ _ h)
theorem w_x_Replies_rowsOfNobody {l : Launch} {K : aw_K} (N d : Nat) (hd : 3 ≤ d) : ∀ (w : aw_W) (y : Int) (v : aw_W), x_Replies_rowsOfNobody N w = some (y, v) → aw_Met l K MX4_rowsOfNobody (d) [.inr (.inr 22)] w (some (.inl y), v) := by
  obtain ⟨e, rfl⟩ : ∃ e, d = e + 1 := ⟨d - 1, by omega⟩
  exact w_x_Replies_rowsOfNobody_d N e (by omega)
theorem dX11_voids_0 : decode cX11_voids 0 = .ok (.aload_n 0, 1) := by decide +kernel
theorem dX11_voids_1 : decode cX11_voids 1 = .ok (.invokevirtual 208, 3) := by decide +kernel
theorem dX11_voids_4 : decode cX11_voids 4 = .ok (.ifCond .eq 13, 3) := by decide +kernel
theorem dX11_voids_7 : decode cX11_voids 7 = .ok (.aload_n 0, 1) := by decide +kernel
theorem dX11_voids_8 : decode cX11_voids 8 = .ok (.getfield 47, 3) := by decide +kernel
theorem dX11_voids_11 : decode cX11_voids 11 = .ok (.invokevirtual 313, 3) := by decide +kernel
theorem dX11_voids_14 : decode cX11_voids 14 = .ok (.goto 4, 3) := by decide +kernel
theorem dX11_voids_17 : decode cX11_voids 17 = .ok (.iconst (-1), 1) := by decide +kernel
theorem dX11_voids_18 : decode cX11_voids 18 = .ok (.ireturn, 1) := by decide +kernel
def x_voids_18 (N : Nat) (s0 : Int) (w : aw_W) : Option (Int × aw_W) :=
  some (s0, w)
theorem w_x_voids_18 {l : Launch} {K : aw_K} (N d : Nat) (hd : 3 ≤ d) : ∀ (s0 : Int) (w : aw_W) (y : Int) (v : aw_W), x_voids_18 N s0 w = some (y, v) → aw_AW l K MX11_voids (d + 1) 18 [] [.inl s0] w (some (.inl y), v) := by
  intro s0 w y v h
  unfold x_voids_18 at h
  cases h
  exact aw_iret (pc := 18) rfl dX11_voids_18
def x_voids (N : Nat) (w : aw_W) : Option (Int × aw_W) :=
  aw_b2 (x_isSmall N w) fun r1 w1 =>
    if r1 = 0 then
      x_voids_18 N (-1) w1
    else
      aw_b2 (x_Replies_rowsOfNobody N w1) fun r2 w2 =>
        x_voids_18 N r2 w2
theorem w_x_voids_d {l : Launch} {K : aw_K} (N d : Nat) (hd : 3 ≤ d) : ∀ (w : aw_W) (y : Int) (v : aw_W), x_voids N w = some (y, v) → aw_Met l K MX11_voids (d + 1) [.inr (.inr 0)] w (some (.inl y), v) := by
  intro w y v h
  unfold x_voids at h
  refine aw_enter rfl (Nat.le_of_ble_eq_true rfl) ?_
  show aw_AW l K MX11_voids (d + 1) 0 [(0, .inr (.inr 0))] [] w (some (.inl y), v)
  refine aw_aload_n (pc := 0) (q := 0) dX11_voids_0 rfl ?_
  obtain ⟨r1, w1, h1, h⟩ := aw_b2s h
  refine aw_callV (pc := 1) (as := []) (st := []) (st' := [.inl r1]) dX11_voids_1 cv_RX11_208 (by decide) rfl rfl rfl rfl (Nat.le_of_ble_eq_true rfl) (w_x_isSmall N d (by omega) _ _ _ h1) rfl ?_
  refine aw_if_eq (pc := 4) (tgt := 17) dX11_voids_4 (by decide) (fun hc => ?_) (fun hc => ?_)
  · rw [if_pos hc] at h
    refine aw_iconst (pc := 17) dX11_voids_17 ⟨by decide, by decide⟩ ?_
    exact aw_sel [] rfl (w_x_voids_18 N d hd  _ _ _ _ h)
  · rw [if_neg hc] at h
    refine aw_aload_n (pc := 7) (q := 0) dX11_voids_7 rfl ?_
    refine aw_getf (pc := 8) (v := .inr (.inr 22)) dX11_voids_8 fl_RX11_47 (by decide) rfl rfl rfl ?_
    obtain ⟨r2, w2, h2, h⟩ := aw_b2s h
    refine aw_callV (pc := 11) (as := []) (st := []) (st' := [.inl r2]) dX11_voids_11 cv_RX11_313 (by decide) rfl rfl rfl rfl (Nat.le_of_ble_eq_true rfl) (w_x_Replies_rowsOfNobody N d (by omega) _ _ _ h2) rfl ?_
    refine aw_goto (pc := 14) (tgt := 18) dX11_voids_14 (by decide) ?_
    exact aw_sel [] rfl (w_x_voids_18 N d hd  _ _ _ _ h)
theorem w_x_voids {l : Launch} {K : aw_K} (N d : Nat) (hd : 4 ≤ d) : ∀ (w : aw_W) (y : Int) (v : aw_W), x_voids N w = some (y, v) → aw_Met l K MX11_voids (d) [.inr (.inr 0)] w (some (.inl y), v) := by
  obtain ⟨e, rfl⟩ : ∃ e, d = e + 1 := ⟨d - 1, by omega⟩
  exact w_x_voids_d N e (by omega)
theorem dX10_turnOf_0 : decode cX10_turnOf 0 = .ok (.iconst 0, 1) := by decide +kernel
theorem dX10_turnOf_1 : decode cX10_turnOf 1 = .ok (.istore_n 3, 1) := by decide +kernel
theorem dX10_turnOf_2 : decode cX10_turnOf 2 = .ok (.iconst 0, 1) := by decide +kernel
theorem dX10_turnOf_3 : decode cX10_turnOf 3 = .ok (.istore 4, 2) := by decide +kernel
theorem dX10_turnOf_5 : decode cX10_turnOf 5 = .ok (.iload 4, 2) := by decide +kernel
theorem dX10_turnOf_7 : decode cX10_turnOf 7 = .ok (.iload_n 1, 1) := by decide +kernel
theorem dX10_turnOf_8 : decode cX10_turnOf 8 = .ok (.if_icmp .ge 101, 3) := by decide +kernel
theorem dX10_turnOf_11 : decode cX10_turnOf 11 = .ok (.iload 4, 2) := by decide +kernel
theorem dX10_turnOf_13 : decode cX10_turnOf 13 = .ok (.bipush 60, 2) := by decide +kernel
theorem dX10_turnOf_15 : decode cX10_turnOf 15 = .ok (.if_icmp .ge 94, 3) := by decide +kernel
theorem dX10_turnOf_18 : decode cX10_turnOf 18 = .ok (.aload_n 0, 1) := by decide +kernel
theorem dX10_turnOf_19 : decode cX10_turnOf 19 = .ok (.getfield 26, 3) := by decide +kernel
theorem dX10_turnOf_22 : decode cX10_turnOf 22 = .ok (.getfield 42, 3) := by decide +kernel
theorem dX10_turnOf_25 : decode cX10_turnOf 25 = .ok (.ifCond .le 84, 3) := by decide +kernel
theorem dX10_turnOf_28 : decode cX10_turnOf 28 = .ok (.iload 4, 2) := by decide +kernel
theorem dX10_turnOf_30 : decode cX10_turnOf 30 = .ok (.aload_n 0, 1) := by decide +kernel
theorem dX10_turnOf_31 : decode cX10_turnOf 31 = .ok (.getfield 26, 3) := by decide +kernel
theorem dX10_turnOf_34 : decode cX10_turnOf 34 = .ok (.getfield 42, 3) := by decide +kernel
theorem dX10_turnOf_37 : decode cX10_turnOf 37 = .ok (.irem, 1) := by decide +kernel
theorem dX10_turnOf_38 : decode cX10_turnOf 38 = .ok (.istore 5, 2) := by decide +kernel
theorem dX10_turnOf_40 : decode cX10_turnOf 40 = .ok (.iload_n 3, 1) := by decide +kernel
theorem dX10_turnOf_41 : decode cX10_turnOf 41 = .ok (.ifCond .ne 13, 3) := by decide +kernel
theorem dX10_turnOf_44 : decode cX10_turnOf 44 = .ok (.aload_n 0, 1) := by decide +kernel
theorem dX10_turnOf_45 : decode cX10_turnOf 45 = .ok (.getfield 22, 3) := by decide +kernel
theorem dX10_turnOf_48 : decode cX10_turnOf 48 = .ok (.iload 4, 2) := by decide +kernel
theorem dX10_turnOf_50 : decode cX10_turnOf 50 = .ok (.baload, 1) := by decide +kernel
theorem dX10_turnOf_51 : decode cX10_turnOf 51 = .ok (.goto 24, 3) := by decide +kernel
theorem dX10_turnOf_54 : decode cX10_turnOf 54 = .ok (.aload_n 0, 1) := by decide +kernel
theorem dX10_turnOf_55 : decode cX10_turnOf 55 = .ok (.getfield 15, 3) := by decide +kernel
theorem dX10_turnOf_58 : decode cX10_turnOf 58 = .ok (.iload 4, 2) := by decide +kernel
theorem dX10_turnOf_60 : decode cX10_turnOf 60 = .ok (.laload, 1) := by decide +kernel
theorem dX10_turnOf_61 : decode cX10_turnOf 61 = .ok (.iload_n 3, 1) := by decide +kernel
theorem dX10_turnOf_62 : decode cX10_turnOf 62 = .ok (.lushr, 1) := by decide +kernel
theorem dX10_turnOf_63 : decode cX10_turnOf 63 = .ok (.lconst 1, 1) := by decide +kernel
theorem dX10_turnOf_64 : decode cX10_turnOf 64 = .ok (.land, 1) := by decide +kernel
theorem dX10_turnOf_65 : decode cX10_turnOf 65 = .ok (.lconst 0, 1) := by decide +kernel
theorem dX10_turnOf_66 : decode cX10_turnOf 66 = .ok (.lcmp, 1) := by decide +kernel
theorem dX10_turnOf_67 : decode cX10_turnOf 67 = .ok (.ifCond .eq 7, 3) := by decide +kernel
theorem dX10_turnOf_70 : decode cX10_turnOf 70 = .ok (.iconst 1, 1) := by decide +kernel
theorem dX10_turnOf_71 : decode cX10_turnOf 71 = .ok (.goto 4, 3) := by decide +kernel
theorem dX10_turnOf_74 : decode cX10_turnOf 74 = .ok (.iconst 0, 1) := by decide +kernel
theorem dX10_turnOf_75 : decode cX10_turnOf 75 = .ok (.istore 6, 2) := by decide +kernel
theorem dX10_turnOf_77 : decode cX10_turnOf 77 = .ok (.iload 6, 2) := by decide +kernel
theorem dX10_turnOf_79 : decode cX10_turnOf 79 = .ok (.ifCond .eq 12, 3) := by decide +kernel
theorem dX10_turnOf_82 : decode cX10_turnOf 82 = .ok (.iload 5, 2) := by decide +kernel
theorem dX10_turnOf_84 : decode cX10_turnOf 84 = .ok (.iload_n 2, 1) := by decide +kernel
theorem dX10_turnOf_85 : decode cX10_turnOf 85 = .ok (.if_icmp .ne 6, 3) := by decide +kernel
theorem dX10_turnOf_88 : decode cX10_turnOf 88 = .ok (.iload 4, 2) := by decide +kernel
theorem dX10_turnOf_90 : decode cX10_turnOf 90 = .ok (.ireturn, 1) := by decide +kernel
theorem dX10_turnOf_91 : decode cX10_turnOf 91 = .ok (.iload 6, 2) := by decide +kernel
theorem dX10_turnOf_93 : decode cX10_turnOf 93 = .ok (.ifCond .eq 10, 3) := by decide +kernel
theorem dX10_turnOf_96 : decode cX10_turnOf 96 = .ok (.iload_n 3, 1) := by decide +kernel
theorem dX10_turnOf_97 : decode cX10_turnOf 97 = .ok (.iconst 1, 1) := by decide +kernel
theorem dX10_turnOf_98 : decode cX10_turnOf 98 = .ok (.iload 5, 2) := by decide +kernel
theorem dX10_turnOf_100 : decode cX10_turnOf 100 = .ok (.ishl, 1) := by decide +kernel
theorem dX10_turnOf_101 : decode cX10_turnOf 101 = .ok (.ior, 1) := by decide +kernel
theorem dX10_turnOf_102 : decode cX10_turnOf 102 = .ok (.istore_n 3, 1) := by decide +kernel
theorem dX10_turnOf_103 : decode cX10_turnOf 103 = .ok (.iinc 4 1, 3) := by decide +kernel
theorem dX10_turnOf_106 : decode cX10_turnOf 106 = .ok (.goto (-101), 3) := by decide +kernel
theorem dX10_turnOf_109 : decode cX10_turnOf 109 = .ok (.iconst (-1), 1) := by decide +kernel
theorem dX10_turnOf_110 : decode cX10_turnOf 110 = .ok (.ireturn, 1) := by decide +kernel
def x_Waiting_turnOf_109 (N : Nat) (w : aw_W) : Option (Int × aw_W) :=
  some ((-1), w)
theorem w_x_Waiting_turnOf_109 {l : Launch} {K : aw_K} (N d : Nat) : ∀ (w : aw_W) (y : Int) (v : aw_W), x_Waiting_turnOf_109 N w = some (y, v) → aw_AW l K MX10_turnOf (d) 109 [] [] w (some (.inl y), v) := by
  intro w y v h
  unfold x_Waiting_turnOf_109 at h
  refine aw_iconst (pc := 109) dX10_turnOf_109 ⟨by decide, by decide⟩ ?_
  cases h
  exact aw_iret (pc := 110) rfl dX10_turnOf_110
def x_Waiting_turnOf_103 (N : Nat) (k5 : Int → Int → Int → Int → aw_W → Option (Int × aw_W)) (x1 x2 x3 x4 : Int) (w : aw_W) : Option (Int × aw_W) :=
  k5 x1 x2 x3 (aw_w (x4 + 1)) w
theorem w_x_Waiting_turnOf_103 {l : Launch} {K : aw_K} (N d : Nat) (k5 : Int → Int → Int → Int → aw_W → Option (Int × aw_W)) (hk5 : ∀ (x1 x2 x3 x4 : Int) (w : aw_W) (y : Int) (v : aw_W), k5 x1 x2 x3 x4 w = some (y, v) → aw_AW l K MX10_turnOf (d) 5 [(0, .inr (.inr 34)), (1, .inl x1), (2, .inl x2), (3, .inl x3), (4, .inl x4)] [] w (some (.inl y), v)) : ∀ (x1 x2 x3 x4 : Int) (w : aw_W) (y : Int) (v : aw_W), x_Waiting_turnOf_103 N k5 x1 x2 x3 x4 w = some (y, v) → aw_AW l K MX10_turnOf (d) 103 [(0, .inr (.inr 34)), (1, .inl x1), (2, .inl x2), (3, .inl x3), (4, .inl x4)] [] w (some (.inl y), v) := by
  intro x1 x2 x3 x4 w y v h
  unfold x_Waiting_turnOf_103 at h
  refine aw_iinc (pc := 103) (q := 4) (ls' := [(4, .inl (aw_w (x4 + 1))), (0, .inr (.inr 34)), (1, .inl x1), (2, .inl x2), (3, .inl x3)]) dX10_turnOf_103 rfl (by decide) rfl ?_
  refine aw_goto (pc := 106) (tgt := 5) dX10_turnOf_106 (by decide) ?_
  exact aw_sel [1, 2, 3, 4, 0] rfl (hk5 _ _ _ _ _ _ _ h)
def x_Waiting_turnOf_91 (N : Nat) (k5 : Int → Int → Int → Int → aw_W → Option (Int × aw_W)) (x1 x2 x3 x4 x5 x6 : Int) (w : aw_W) : Option (Int × aw_W) :=
  if x6 = 0 then
    x_Waiting_turnOf_103 N k5 x1 x2 x3 x4 w
  else
    x_Waiting_turnOf_103 N k5 x1 x2 (aw_or x3 (aw_shl 1 x5)) x4 w
theorem w_x_Waiting_turnOf_91 {l : Launch} {K : aw_K} (N d : Nat) (k5 : Int → Int → Int → Int → aw_W → Option (Int × aw_W)) (hk5 : ∀ (x1 x2 x3 x4 : Int) (w : aw_W) (y : Int) (v : aw_W), k5 x1 x2 x3 x4 w = some (y, v) → aw_AW l K MX10_turnOf (d) 5 [(0, .inr (.inr 34)), (1, .inl x1), (2, .inl x2), (3, .inl x3), (4, .inl x4)] [] w (some (.inl y), v)) : ∀ (x1 x2 x3 x4 x5 x6 : Int) (w : aw_W) (y : Int) (v : aw_W), x_Waiting_turnOf_91 N k5 x1 x2 x3 x4 x5 x6 w = some (y, v) → aw_AW l K MX10_turnOf (d) 91 [(0, .inr (.inr 34)), (1, .inl x1), (2, .inl x2), (3, .inl x3), (4, .inl x4), (5, .inl x5), (6, .inl x6)] [] w (some (.inl y), v) := by
  intro x1 x2 x3 x4 x5 x6 w y v h
  unfold x_Waiting_turnOf_91 at h
  refine aw_iload (pc := 91) (q := 6) dX10_turnOf_91 rfl ?_
  refine aw_if_eq (pc := 93) (tgt := 103) dX10_turnOf_93 (by decide) (fun hc => ?_) (fun hc => ?_)
  · rw [if_pos hc] at h
    exact aw_sel [0, 1, 2, 3, 4] rfl (w_x_Waiting_turnOf_103 N d  _ hk5 _ _ _ _ _ _ _ h)
  · rw [if_neg hc] at h
    refine aw_iload_n (pc := 96) (q := 3) dX10_turnOf_96 rfl ?_
    refine aw_iconst (pc := 97) dX10_turnOf_97 ⟨by decide, by decide⟩ ?_
    refine aw_iload (pc := 98) (q := 5) dX10_turnOf_98 rfl ?_
    refine aw_ishl (pc := 100) dX10_turnOf_100 ?_
    refine aw_ior (pc := 101) dX10_turnOf_101 ?_
    refine aw_istore_n (pc := 102) (ls' := [(3, .inl (aw_or x3 (aw_shl 1 x5))), (0, .inr (.inr 34)), (1, .inl x1), (2, .inl x2), (4, .inl x4), (5, .inl x5), (6, .inl x6)]) dX10_turnOf_102 (by decide) rfl ?_
    exact aw_sel [1, 2, 3, 0, 4] rfl (w_x_Waiting_turnOf_103 N d  _ hk5 _ _ _ _ _ _ _ h)
def x_Waiting_turnOf_88 (N : Nat) (x4 : Int) (w : aw_W) : Option (Int × aw_W) :=
  some (x4, w)
theorem w_x_Waiting_turnOf_88 {l : Launch} {K : aw_K} (N d : Nat) : ∀ (x4 : Int) (w : aw_W) (y : Int) (v : aw_W), x_Waiting_turnOf_88 N x4 w = some (y, v) → aw_AW l K MX10_turnOf (d) 88 [(4, .inl x4)] [] w (some (.inl y), v) := by
  intro x4 w y v h
  unfold x_Waiting_turnOf_88 at h
  refine aw_iload (pc := 88) (q := 0) dX10_turnOf_88 rfl ?_
  cases h
  exact aw_iret (pc := 90) rfl dX10_turnOf_90
def x_Waiting_turnOf_75 (N : Nat) (k5 : Int → Int → Int → Int → aw_W → Option (Int × aw_W)) (x1 x2 x3 x4 x5 s0 : Int) (w : aw_W) : Option (Int × aw_W) :=
  if s0 = 0 then
    x_Waiting_turnOf_91 N k5 x1 x2 x3 x4 x5 s0 w
  else
    if x5 = x2 then
      x_Waiting_turnOf_88 N x4 w
    else
      x_Waiting_turnOf_91 N k5 x1 x2 x3 x4 x5 s0 w
theorem w_x_Waiting_turnOf_75 {l : Launch} {K : aw_K} (N d : Nat) (k5 : Int → Int → Int → Int → aw_W → Option (Int × aw_W)) (hk5 : ∀ (x1 x2 x3 x4 : Int) (w : aw_W) (y : Int) (v : aw_W), k5 x1 x2 x3 x4 w = some (y, v) → aw_AW l K MX10_turnOf (d) 5 [(0, .inr (.inr 34)), (1, .inl x1), (2, .inl x2), (3, .inl x3), (4, .inl x4)] [] w (some (.inl y), v)) : ∀ (x1 x2 x3 x4 x5 s0 : Int) (w : aw_W) (y : Int) (v : aw_W), x_Waiting_turnOf_75 N k5 x1 x2 x3 x4 x5 s0 w = some (y, v) → aw_AW l K MX10_turnOf (d) 75 [(0, .inr (.inr 34)), (1, .inl x1), (2, .inl x2), (3, .inl x3), (4, .inl x4), (5, .inl x5)] [.inl s0] w (some (.inl y), v) := by
  intro x1 x2 x3 x4 x5 s0 w y v h
  unfold x_Waiting_turnOf_75 at h
  refine aw_istore (pc := 75) (ls' := [(6, .inl s0), (0, .inr (.inr 34)), (1, .inl x1), (2, .inl x2), (3, .inl x3), (4, .inl x4), (5, .inl x5)]) dX10_turnOf_75 (by decide) rfl ?_
  refine aw_iload (pc := 77) (q := 0) dX10_turnOf_77 rfl ?_
  refine aw_if_eq (pc := 79) (tgt := 91) dX10_turnOf_79 (by decide) (fun hc => ?_) (fun hc => ?_)
  · rw [if_pos hc] at h
    exact aw_sel [1, 2, 3, 4, 5, 6, 0] rfl (w_x_Waiting_turnOf_91 N d  _ hk5 _ _ _ _ _ _ _ _ _ h)
  · rw [if_neg hc] at h
    refine aw_iload (pc := 82) (q := 6) dX10_turnOf_82 rfl ?_
    refine aw_iload_n (pc := 84) (q := 3) dX10_turnOf_84 rfl ?_
    refine aw_icmp_ne (pc := 85) (tgt := 91) dX10_turnOf_85 (by decide) (fun hc => ?_) (fun hc => ?_)
    · rw [if_neg hc] at h
      exact aw_sel [1, 2, 3, 4, 5, 6, 0] rfl (w_x_Waiting_turnOf_91 N d  _ hk5 _ _ _ _ _ _ _ _ _ h)
    · rw [if_pos hc] at h
      exact aw_sel [5] rfl (w_x_Waiting_turnOf_88 N d  _ _ _ _ h)
def x_Waiting_turnOf_5 (N : Nat) : Nat → Int → Int → Int → Int → aw_W → Option (Int × aw_W)
  | 0, _, _, _, _, _ => none
  | n + 1, x1, x2, x3, x4, w =>
    if x1 ≤ x4 then
      x_Waiting_turnOf_109 N w
    else
      if 60 ≤ x4 then
        x_Waiting_turnOf_109 N w
      else
        if (w 3 4) ≤ 0 then
          x_Waiting_turnOf_109 N w
        else
          if ¬ (w 3 4) = 0 then
            if x3 = 0 then
              if 0 ≤ x4 ∧ x4 < 60 then
                x_Waiting_turnOf_75 N (x_Waiting_turnOf_5 N n) x1 x2 x3 x4 (aw_w (Int.tmod x4 (w 3 4))) (w 38 x4.toNat) w
              else none
            else
              if 0 ≤ x4 ∧ x4 < 60 then
                if (aw_cmpL (aw_andL (aw_ushrL (w 36 x4.toNat) x3) 1) 0) = 0 then
                  x_Waiting_turnOf_75 N (x_Waiting_turnOf_5 N n) x1 x2 x3 x4 (aw_w (Int.tmod x4 (w 3 4))) 0 w
                else
                  x_Waiting_turnOf_75 N (x_Waiting_turnOf_5 N n) x1 x2 x3 x4 (aw_w (Int.tmod x4 (w 3 4))) 1 w
              else none
          else none
theorem w_x_Waiting_turnOf_5 {l : Launch} {K : aw_K} (N d : Nat) : ∀ (n : Nat) (x1 x2 x3 x4 : Int) (w : aw_W) (y : Int) (v : aw_W), x_Waiting_turnOf_5 N n x1 x2 x3 x4 w = some (y, v) → aw_AW l K MX10_turnOf (d) 5 [(0, .inr (.inr 34)), (1, .inl x1), (2, .inl x2), (3, .inl x3), (4, .inl x4)] [] w (some (.inl y), v) := by
  intro n
  induction n with
  | zero => intro x1 x2 x3 x4 w y v h; rw [x_Waiting_turnOf_5] at h; cases h
  | succ n ih =>
    intro x1 x2 x3 x4 w y v h
    rw [x_Waiting_turnOf_5] at h
    refine aw_iload (pc := 5) (q := 4) dX10_turnOf_5 rfl ?_
    refine aw_iload_n (pc := 7) (q := 1) dX10_turnOf_7 rfl ?_
    refine aw_icmp_ge (pc := 8) (tgt := 109) dX10_turnOf_8 (by decide) (fun hc => ?_) (fun hc => ?_)
    · rw [if_pos hc] at h
      exact aw_sel [] rfl (w_x_Waiting_turnOf_109 N d  _ _ _ h)
    · rw [if_neg hc] at h
      refine aw_iload (pc := 11) (q := 4) dX10_turnOf_11 rfl ?_
      refine aw_bipush (pc := 13) dX10_turnOf_13 (by decide) ⟨by decide, by decide⟩ ?_
      refine aw_icmp_ge (pc := 15) (tgt := 109) dX10_turnOf_15 (by decide) (fun hc => ?_) (fun hc => ?_)
      · rw [if_pos hc] at h
        exact aw_sel [] rfl (w_x_Waiting_turnOf_109 N d  _ _ _ h)
      · rw [if_neg hc] at h
        refine aw_aload_n (pc := 18) (q := 0) dX10_turnOf_18 rfl ?_
        refine aw_getf (pc := 19) (v := .inr (.inr 3)) dX10_turnOf_19 fl_RX10_26 (by decide) rfl rfl rfl ?_
        refine aw_getf (pc := 22) (v := .inl (w 3 4)) dX10_turnOf_22 fl_RX10_42 (by decide) rfl rfl rfl ?_
        refine aw_if_le (pc := 25) (tgt := 109) dX10_turnOf_25 (by decide) (fun hc => ?_) (fun hc => ?_)
        · rw [if_pos hc] at h
          exact aw_sel [] rfl (w_x_Waiting_turnOf_109 N d  _ _ _ h)
        · rw [if_neg hc] at h
          refine aw_iload (pc := 28) (q := 4) dX10_turnOf_28 rfl ?_
          refine aw_aload_n (pc := 30) (q := 0) dX10_turnOf_30 rfl ?_
          refine aw_getf (pc := 31) (v := .inr (.inr 3)) dX10_turnOf_31 fl_RX10_26 (by decide) rfl rfl rfl ?_
          refine aw_getf (pc := 34) (v := .inl (w 3 4)) dX10_turnOf_34 fl_RX10_42 (by decide) rfl rfl rfl ?_
          obtain ⟨hy, h⟩ := aw_cks h
          refine aw_irem (pc := 37) dX10_turnOf_37 hy ?_
          refine aw_istore (pc := 38) (ls' := [(5, .inl (aw_w (Int.tmod x4 (w 3 4)))), (0, .inr (.inr 34)), (1, .inl x1), (2, .inl x2), (3, .inl x3), (4, .inl x4)]) dX10_turnOf_38 (by decide) rfl ?_
          refine aw_iload_n (pc := 40) (q := 4) dX10_turnOf_40 rfl ?_
          refine aw_if_ne (pc := 41) (tgt := 54) dX10_turnOf_41 (by decide) (fun hc => ?_) (fun hc => ?_)
          · rw [if_neg hc] at h
            refine aw_aload_n (pc := 54) (q := 1) dX10_turnOf_54 rfl ?_
            refine aw_getf (pc := 55) (v := .inr (.inr 36)) dX10_turnOf_55 fl_RX10_15 (by decide) rfl rfl rfl ?_
            refine aw_iload (pc := 58) (q := 5) dX10_turnOf_58 rfl ?_
            obtain ⟨hb, h⟩ := aw_cks h
            refine aw_laldv (pc := 60) (v := w 36 x4.toNat) dX10_turnOf_60 rfl hb.1 hb.2 rfl ?_
            refine aw_iload_n (pc := 61) (q := 4) dX10_turnOf_61 rfl ?_
            refine aw_lushr (pc := 62) dX10_turnOf_62 ?_
            refine aw_lconst (pc := 63) (x := 1) dX10_turnOf_63 (by decide) ⟨by decide, by decide⟩ ?_
            refine aw_land (pc := 64) dX10_turnOf_64 ?_
            refine aw_lconst (pc := 65) (x := 0) dX10_turnOf_65 (by decide) ⟨by decide, by decide⟩ ?_
            refine aw_lcmp (pc := 66) dX10_turnOf_66 ?_
            refine aw_if_eq (pc := 67) (tgt := 74) dX10_turnOf_67 (by decide) (fun hc => ?_) (fun hc => ?_)
            · rw [if_pos hc] at h
              refine aw_iconst (pc := 74) dX10_turnOf_74 ⟨by decide, by decide⟩ ?_
              exact aw_sel [1, 2, 3, 4, 5, 0] rfl (w_x_Waiting_turnOf_75 N d  _ ih _ _ _ _ _ _ _ _ _ h)
            · rw [if_neg hc] at h
              refine aw_iconst (pc := 70) dX10_turnOf_70 ⟨by decide, by decide⟩ ?_
              refine aw_goto (pc := 71) (tgt := 75) dX10_turnOf_71 (by decide) ?_
              exact aw_sel [1, 2, 3, 4, 5, 0] rfl (w_x_Waiting_turnOf_75 N d  _ ih _ _ _ _ _ _ _ _ _ h)
          · rw [if_pos hc] at h
            refine aw_aload_n (pc := 44) (q := 1) dX10_turnOf_44 rfl ?_
            refine aw_getf (pc := 45) (v := .inr (.inr 38)) dX10_turnOf_45 fl_RX10_22 (by decide) rfl rfl rfl ?_
            refine aw_iload (pc := 48) (q := 5) dX10_turnOf_48 rfl ?_
            obtain ⟨hb, h⟩ := aw_cks h
            refine aw_zaldv (pc := 50) (v := w 38 x4.toNat) dX10_turnOf_50 rfl hb.1 hb.2 rfl ?_
            refine aw_goto (pc := 51) (tgt := 75) dX10_turnOf_51 (by decide) ?_
            exact aw_sel [1, 2, 3, 4, 5, 0] rfl (w_x_Waiting_turnOf_75 N d  _ ih _ _ _ _ _ _ _ _ _ h)
def x_Waiting_turnOf (N : Nat) (x1 x2 : Int) (w : aw_W) : Option (Int × aw_W) :=
  x_Waiting_turnOf_5 N N x1 x2 0 0 w
theorem w_x_Waiting_turnOf {l : Launch} {K : aw_K} (N d : Nat) (hd : 0 ≤ d) : ∀ (x1 x2 : Int) (w : aw_W) (y : Int) (v : aw_W), x_Waiting_turnOf N x1 x2 w = some (y, v) → aw_Met l K MX10_turnOf (d) [.inr (.inr 34), .inl x1, .inl x2] w (some (.inl y), v) := by
  intro x1 x2 w y v h
  unfold x_Waiting_turnOf at h
  refine aw_enter rfl (Nat.le_of_ble_eq_true rfl) ?_
  show aw_AW l K MX10_turnOf (d) 0 [(0, .inr (.inr 34)), (1, .inl x1), (2, .inl x2)] [] w (some (.inl y), v)
  refine aw_iconst (pc := 0) dX10_turnOf_0 ⟨by decide, by decide⟩ ?_
  refine aw_istore_n (pc := 1) (ls' := [(3, .inl 0), (0, .inr (.inr 34)), (1, .inl x1), (2, .inl x2)]) dX10_turnOf_1 (by decide) rfl ?_
  refine aw_iconst (pc := 2) dX10_turnOf_2 ⟨by decide, by decide⟩ ?_
  refine aw_istore (pc := 3) (ls' := [(4, .inl 0), (3, .inl 0), (0, .inr (.inr 34)), (1, .inl x1), (2, .inl x2)]) dX10_turnOf_3 (by decide) rfl ?_
  exact aw_sel [2, 3, 4, 1, 0] rfl (w_x_Waiting_turnOf_5 N d  N _ _ _ _ _ _ _ h)
