theorem dX4_nearest_0 : decode cX4_nearest 0 = .ok (.aload_n 0, 1) := by decide +kernel
theorem dX4_nearest_1 : decode cX4_nearest 1 = .ok (.getfield 15, 3) := by decide +kernel
theorem dX4_nearest_4 : decode cX4_nearest 4 = .ok (.getfield 34, 3) := by decide +kernel
theorem dX4_nearest_7 : decode cX4_nearest 7 = .ok (.iload_n 1, 1) := by decide +kernel
theorem dX4_nearest_8 : decode cX4_nearest 8 = .ok (.iaload, 1) := by decide +kernel
theorem dX4_nearest_9 : decode cX4_nearest 9 = .ok (.istore_n 2, 1) := by decide +kernel
theorem dX4_nearest_10 : decode cX4_nearest 10 = .ok (.iconst (-1), 1) := by decide +kernel
theorem dX4_nearest_11 : decode cX4_nearest 11 = .ok (.istore_n 3, 1) := by decide +kernel
theorem dX4_nearest_12 : decode cX4_nearest 12 = .ok (.iconst 0, 1) := by decide +kernel
theorem dX4_nearest_13 : decode cX4_nearest 13 = .ok (.istore 4, 2) := by decide +kernel
theorem dX4_nearest_15 : decode cX4_nearest 15 = .ok (.iload 4, 2) := by decide +kernel
theorem dX4_nearest_17 : decode cX4_nearest 17 = .ok (.aload_n 0, 1) := by decide +kernel
theorem dX4_nearest_18 : decode cX4_nearest 18 = .ok (.getfield 9, 3) := by decide +kernel
theorem dX4_nearest_21 : decode cX4_nearest 21 = .ok (.getfield 92, 3) := by decide +kernel
theorem dX4_nearest_24 : decode cX4_nearest 24 = .ok (.iconst 4, 1) := by decide +kernel
theorem dX4_nearest_25 : decode cX4_nearest 25 = .ok (.iaload, 1) := by decide +kernel
theorem dX4_nearest_26 : decode cX4_nearest 26 = .ok (.if_icmp .gt 67, 3) := by decide +kernel
theorem dX4_nearest_29 : decode cX4_nearest 29 = .ok (.aload_n 0, 1) := by decide +kernel
theorem dX4_nearest_30 : decode cX4_nearest 30 = .ok (.getfield 15, 3) := by decide +kernel
theorem dX4_nearest_33 : decode cX4_nearest 33 = .ok (.iload_n 1, 1) := by decide +kernel
theorem dX4_nearest_34 : decode cX4_nearest 34 = .ok (.iload 4, 2) := by decide +kernel
theorem dX4_nearest_36 : decode cX4_nearest 36 = .ok (.invokevirtual 40, 3) := by decide +kernel
theorem dX4_nearest_39 : decode cX4_nearest 39 = .ok (.pop, 1) := by decide +kernel
theorem dX4_nearest_40 : decode cX4_nearest 40 = .ok (.aload_n 0, 1) := by decide +kernel
theorem dX4_nearest_41 : decode cX4_nearest 41 = .ok (.getfield 15, 3) := by decide +kernel
theorem dX4_nearest_44 : decode cX4_nearest 44 = .ok (.getfield 89, 3) := by decide +kernel
theorem dX4_nearest_47 : decode cX4_nearest 47 = .ok (.iload_n 1, 1) := by decide +kernel
theorem dX4_nearest_48 : decode cX4_nearest 48 = .ok (.if_icmp .ne 7, 3) := by decide +kernel
theorem dX4_nearest_51 : decode cX4_nearest 51 = .ok (.iconst 1, 1) := by decide +kernel
theorem dX4_nearest_52 : decode cX4_nearest 52 = .ok (.goto 4, 3) := by decide +kernel
theorem dX4_nearest_55 : decode cX4_nearest 55 = .ok (.iconst 0, 1) := by decide +kernel
theorem dX4_nearest_56 : decode cX4_nearest 56 = .ok (.istore 5, 2) := by decide +kernel
theorem dX4_nearest_58 : decode cX4_nearest 58 = .ok (.iload 5, 2) := by decide +kernel
theorem dX4_nearest_60 : decode cX4_nearest 60 = .ok (.ifCond .eq 27, 3) := by decide +kernel
theorem dX4_nearest_63 : decode cX4_nearest 63 = .ok (.iload_n 3, 1) := by decide +kernel
theorem dX4_nearest_64 : decode cX4_nearest 64 = .ok (.iconst (-1), 1) := by decide +kernel
theorem dX4_nearest_65 : decode cX4_nearest 65 = .ok (.if_icmp .eq 19, 3) := by decide +kernel
theorem dX4_nearest_68 : decode cX4_nearest 68 = .ok (.iload 4, 2) := by decide +kernel
theorem dX4_nearest_70 : decode cX4_nearest 70 = .ok (.iload_n 2, 1) := by decide +kernel
theorem dX4_nearest_71 : decode cX4_nearest 71 = .ok (.isub, 1) := by decide +kernel
theorem dX4_nearest_72 : decode cX4_nearest 72 = .ok (.invokestatic 99, 3) := by decide +kernel
theorem dX4_nearest_75 : decode cX4_nearest 75 = .ok (.iload_n 3, 1) := by decide +kernel
theorem dX4_nearest_76 : decode cX4_nearest 76 = .ok (.iload_n 2, 1) := by decide +kernel
theorem dX4_nearest_77 : decode cX4_nearest 77 = .ok (.isub, 1) := by decide +kernel
theorem dX4_nearest_78 : decode cX4_nearest 78 = .ok (.invokestatic 99, 3) := by decide +kernel
theorem dX4_nearest_81 : decode cX4_nearest 81 = .ok (.if_icmp .ge 6, 3) := by decide +kernel
theorem dX4_nearest_84 : decode cX4_nearest 84 = .ok (.iload 4, 2) := by decide +kernel
theorem dX4_nearest_86 : decode cX4_nearest 86 = .ok (.istore_n 3, 1) := by decide +kernel
theorem dX4_nearest_87 : decode cX4_nearest 87 = .ok (.iinc 4 1, 3) := by decide +kernel
theorem dX4_nearest_90 : decode cX4_nearest 90 = .ok (.goto (-75), 3) := by decide +kernel
theorem dX4_nearest_93 : decode cX4_nearest 93 = .ok (.aload_n 0, 1) := by decide +kernel
theorem dX4_nearest_94 : decode cX4_nearest 94 = .ok (.getfield 15, 3) := by decide +kernel
theorem dX4_nearest_97 : decode cX4_nearest 97 = .ok (.getfield 34, 3) := by decide +kernel
theorem dX4_nearest_100 : decode cX4_nearest 100 = .ok (.iload_n 1, 1) := by decide +kernel
theorem dX4_nearest_101 : decode cX4_nearest 101 = .ok (.iload_n 2, 1) := by decide +kernel
theorem dX4_nearest_102 : decode cX4_nearest 102 = .ok (.iastore, 1) := by decide +kernel
theorem dX4_nearest_103 : decode cX4_nearest 103 = .ok (.iload_n 3, 1) := by decide +kernel
theorem dX4_nearest_104 : decode cX4_nearest 104 = .ok (.ireturn, 1) := by decide +kernel
def x_Replies_nearest_93 (N : Nat) (x1 x2 x3 : Int) (w : aw_W) : Option (Int × aw_W) :=
  if 0 ≤ x1 ∧ x1 < 6 then
    some (x3, (aw_up w 21 x1.toNat x2))
  else none
theorem w_x_Replies_nearest_93 {l : Launch} {K : aw_K} (N d : Nat) (hd : 3 ≤ d) : ∀ (x1 x2 x3 : Int) (w : aw_W) (y : Int) (v : aw_W), x_Replies_nearest_93 N x1 x2 x3 w = some (y, v) → aw_AW l K MX4_nearest (d + 1) 93 [(0, .inr (.inr 22)), (1, .inl x1), (2, .inl x2), (3, .inl x3)] [] w (some (.inl y), v) := by
  intro x1 x2 x3 w y v h
  unfold x_Replies_nearest_93 at h
  refine aw_aload_n (pc := 93) (q := 0) dX4_nearest_93 rfl ?_
  refine aw_getf (pc := 94) (v := .inr (.inr 17)) dX4_nearest_94 fl_RX4_15 (by decide) rfl rfl rfl ?_
  refine aw_getf (pc := 97) (v := .inr (.inr 21)) dX4_nearest_97 fl_RX4_34 (by decide) rfl rfl rfl ?_
  refine aw_iload_n (pc := 100) (q := 1) dX4_nearest_100 rfl ?_
  refine aw_iload_n (pc := 101) (q := 2) dX4_nearest_101 rfl ?_
  obtain ⟨hb, h⟩ := aw_cks h
  refine aw_iast (pc := 102) dX4_nearest_102 rfl hb.1 hb.2 ?_
  refine aw_iload_n (pc := 103) (q := 3) dX4_nearest_103 rfl ?_
  cases h
  exact aw_iret (pc := 104) rfl dX4_nearest_104
def x_Replies_nearest_87 (N : Nat) (k15 : Int → Int → Int → Int → aw_W → Option (Int × aw_W)) (x1 x2 x3 x4 : Int) (w : aw_W) : Option (Int × aw_W) :=
  k15 x1 x2 x3 (aw_w (x4 + 1)) w
theorem w_x_Replies_nearest_87 {l : Launch} {K : aw_K} (N d : Nat) (hd : 3 ≤ d) (k15 : Int → Int → Int → Int → aw_W → Option (Int × aw_W)) (hk15 : ∀ (x1 x2 x3 x4 : Int) (w : aw_W) (y : Int) (v : aw_W), k15 x1 x2 x3 x4 w = some (y, v) → aw_AW l K MX4_nearest (d + 1) 15 [(0, .inr (.inr 22)), (1, .inl x1), (2, .inl x2), (3, .inl x3), (4, .inl x4)] [] w (some (.inl y), v)) : ∀ (x1 x2 x3 x4 : Int) (w : aw_W) (y : Int) (v : aw_W), x_Replies_nearest_87 N k15 x1 x2 x3 x4 w = some (y, v) → aw_AW l K MX4_nearest (d + 1) 87 [(0, .inr (.inr 22)), (1, .inl x1), (2, .inl x2), (3, .inl x3), (4, .inl x4)] [] w (some (.inl y), v) := by
  intro x1 x2 x3 x4 w y v h
  unfold x_Replies_nearest_87 at h
  refine aw_iinc (pc := 87) (q := 4) (ls' := [(4, .inl (aw_w (x4 + 1))), (0, .inr (.inr 22)), (1, .inl x1), (2, .inl x2), (3, .inl x3)]) dX4_nearest_87 rfl (by decide) rfl ?_
  refine aw_goto (pc := 90) (tgt := 15) dX4_nearest_90 (by decide) ?_
  exact aw_sel [1, 2, 3, 4, 0] rfl (hk15 _ _ _ _ _ _ _ h)
def x_Replies_nearest_84 (N : Nat) (k15 : Int → Int → Int → Int → aw_W → Option (Int × aw_W)) (x1 x2 x4 : Int) (w : aw_W) : Option (Int × aw_W) :=
  x_Replies_nearest_87 N k15 x1 x2 x4 x4 w
theorem w_x_Replies_nearest_84 {l : Launch} {K : aw_K} (N d : Nat) (hd : 3 ≤ d) (k15 : Int → Int → Int → Int → aw_W → Option (Int × aw_W)) (hk15 : ∀ (x1 x2 x3 x4 : Int) (w : aw_W) (y : Int) (v : aw_W), k15 x1 x2 x3 x4 w = some (y, v) → aw_AW l K MX4_nearest (d + 1) 15 [(0, .inr (.inr 22)), (1, .inl x1), (2, .inl x2), (3, .inl x3), (4, .inl x4)] [] w (some (.inl y), v)) : ∀ (x1 x2 x4 : Int) (w : aw_W) (y : Int) (v : aw_W), x_Replies_nearest_84 N k15 x1 x2 x4 w = some (y, v) → aw_AW l K MX4_nearest (d + 1) 84 [(0, .inr (.inr 22)), (1, .inl x1), (2, .inl x2), (4, .inl x4)] [] w (some (.inl y), v) := by
  intro x1 x2 x4 w y v h
  unfold x_Replies_nearest_84 at h
  refine aw_iload (pc := 84) (q := 3) dX4_nearest_84 rfl ?_
  refine aw_istore_n (pc := 86) (ls' := [(3, .inl x4), (0, .inr (.inr 22)), (1, .inl x1), (2, .inl x2), (4, .inl x4)]) dX4_nearest_86 (by decide) rfl ?_
  exact aw_sel [1, 2, 3, 0, 4] rfl (w_x_Replies_nearest_87 N d hd  _ hk15 _ _ _ _ _ _ _ h)
def x_Replies_nearest_56 (N : Nat) (k15 : Int → Int → Int → Int → aw_W → Option (Int × aw_W)) (x1 x2 x3 x4 s0 : Int) (w : aw_W) : Option (Int × aw_W) :=
  if s0 = 0 then
    x_Replies_nearest_87 N k15 x1 x2 x3 x4 w
  else
    if x3 = (-1) then
      x_Replies_nearest_84 N k15 x1 x2 x4 w
    else
      if (aw_ab (aw_w (x3 - x2))) ≤ (aw_ab (aw_w (x4 - x2))) then
        x_Replies_nearest_87 N k15 x1 x2 x3 x4 w
      else
        x_Replies_nearest_84 N k15 x1 x2 x4 w
theorem w_x_Replies_nearest_56 {l : Launch} {K : aw_K} (N d : Nat) (hd : 3 ≤ d) (k15 : Int → Int → Int → Int → aw_W → Option (Int × aw_W)) (hk15 : ∀ (x1 x2 x3 x4 : Int) (w : aw_W) (y : Int) (v : aw_W), k15 x1 x2 x3 x4 w = some (y, v) → aw_AW l K MX4_nearest (d + 1) 15 [(0, .inr (.inr 22)), (1, .inl x1), (2, .inl x2), (3, .inl x3), (4, .inl x4)] [] w (some (.inl y), v)) : ∀ (x1 x2 x3 x4 s0 : Int) (w : aw_W) (y : Int) (v : aw_W), x_Replies_nearest_56 N k15 x1 x2 x3 x4 s0 w = some (y, v) → aw_AW l K MX4_nearest (d + 1) 56 [(0, .inr (.inr 22)), (1, .inl x1), (2, .inl x2), (3, .inl x3), (4, .inl x4)] [.inl s0] w (some (.inl y), v) := by
  intro x1 x2 x3 x4 s0 w y v h
  unfold x_Replies_nearest_56 at h
  refine aw_istore (pc := 56) (ls' := [(5, .inl s0), (0, .inr (.inr 22)), (1, .inl x1), (2, .inl x2), (3, .inl x3), (4, .inl x4)]) dX4_nearest_56 (by decide) rfl ?_
  refine aw_iload (pc := 58) (q := 0) dX4_nearest_58 rfl ?_
  refine aw_if_eq (pc := 60) (tgt := 87) dX4_nearest_60 (by decide) (fun hc => ?_) (fun hc => ?_)
  · rw [if_pos hc] at h
    exact aw_sel [1, 2, 3, 4, 5] rfl (w_x_Replies_nearest_87 N d hd  _ hk15 _ _ _ _ _ _ _ h)
  · rw [if_neg hc] at h
    refine aw_iload_n (pc := 63) (q := 4) dX4_nearest_63 rfl ?_
    refine aw_iconst (pc := 64) dX4_nearest_64 ⟨by decide, by decide⟩ ?_
    refine aw_icmp_eq (pc := 65) (tgt := 84) dX4_nearest_65 (by decide) (fun hc => ?_) (fun hc => ?_)
    · rw [if_pos hc] at h
      exact aw_sel [1, 2, 3, 5] rfl (w_x_Replies_nearest_84 N d hd  _ hk15 _ _ _ _ _ _ h)
    · rw [if_neg hc] at h
      refine aw_iload (pc := 68) (q := 5) dX4_nearest_68 rfl ?_
      refine aw_iload_n (pc := 70) (q := 3) dX4_nearest_70 rfl ?_
      refine aw_isub (pc := 71) dX4_nearest_71 ?_
      refine aw_mabs (pc := 72) dX4_nearest_72 cm_RX4_99 (Nat.le_of_ble_eq_true rfl) ?_
      refine aw_iload_n (pc := 75) (q := 4) dX4_nearest_75 rfl ?_
      refine aw_iload_n (pc := 76) (q := 3) dX4_nearest_76 rfl ?_
      refine aw_isub (pc := 77) dX4_nearest_77 ?_
      refine aw_mabs (pc := 78) dX4_nearest_78 cm_RX4_99 (Nat.le_of_ble_eq_true rfl) ?_
      refine aw_icmp_ge (pc := 81) (tgt := 87) dX4_nearest_81 (by decide) (fun hc => ?_) (fun hc => ?_)
      · rw [if_pos hc] at h
        exact aw_sel [1, 2, 3, 4, 5] rfl (w_x_Replies_nearest_87 N d hd  _ hk15 _ _ _ _ _ _ _ h)
      · rw [if_neg hc] at h
        exact aw_sel [1, 2, 3, 5] rfl (w_x_Replies_nearest_84 N d hd  _ hk15 _ _ _ _ _ _ h)
def x_Replies_nearest_15 (N : Nat) : Nat → Int → Int → Int → Int → aw_W → Option (Int × aw_W)
  | 0, _, _, _, _, _ => none
  | n + 1, x1, x2, x3, x4, w =>
    if (w 5 4) < x4 then
      x_Replies_nearest_93 N x1 x2 x3 w
    else
      aw_b2 (x_Sale_gainWith N x1 x4 w) fun r1 w1 =>
        if (w1 17 3) = x1 then
          x_Replies_nearest_56 N (x_Replies_nearest_15 N n) x1 x2 x3 x4 1 w1
        else
          x_Replies_nearest_56 N (x_Replies_nearest_15 N n) x1 x2 x3 x4 0 w1
theorem w_x_Replies_nearest_15 {l : Launch} {K : aw_K} (N d : Nat) (hd : 3 ≤ d) : ∀ (n : Nat) (x1 x2 x3 x4 : Int) (w : aw_W) (y : Int) (v : aw_W), x_Replies_nearest_15 N n x1 x2 x3 x4 w = some (y, v) → aw_AW l K MX4_nearest (d + 1) 15 [(0, .inr (.inr 22)), (1, .inl x1), (2, .inl x2), (3, .inl x3), (4, .inl x4)] [] w (some (.inl y), v) := by
  intro n
  induction n with
  | zero => intro x1 x2 x3 x4 w y v h; rw [x_Replies_nearest_15] at h; cases h
  | succ n ih =>
    intro x1 x2 x3 x4 w y v h
    rw [x_Replies_nearest_15] at h
    refine aw_iload (pc := 15) (q := 4) dX4_nearest_15 rfl ?_
    refine aw_aload_n (pc := 17) (q := 0) dX4_nearest_17 rfl ?_
    refine aw_getf (pc := 18) (v := .inr (.inr 3)) dX4_nearest_18 fl_RX4_9 (by decide) rfl rfl rfl ?_
    refine aw_getf (pc := 21) (v := .inr (.inr 5)) dX4_nearest_21 fl_RX4_92 (by decide) rfl rfl rfl ?_
    refine aw_iconst (pc := 24) dX4_nearest_24 ⟨by decide, by decide⟩ ?_
    refine aw_ialdv (pc := 25) (v := w 5 4) dX4_nearest_25 rfl (by decide) (by decide) rfl ?_
    refine aw_icmp_gt (pc := 26) (tgt := 93) dX4_nearest_26 (by decide) (fun hc => ?_) (fun hc => ?_)
    · rw [if_pos hc] at h
      exact aw_sel [0, 1, 2, 3] rfl (w_x_Replies_nearest_93 N d hd  _ _ _ _ _ _ h)
    · rw [if_neg hc] at h
      refine aw_aload_n (pc := 29) (q := 0) dX4_nearest_29 rfl ?_
      refine aw_getf (pc := 30) (v := .inr (.inr 17)) dX4_nearest_30 fl_RX4_15 (by decide) rfl rfl rfl ?_
      refine aw_iload_n (pc := 33) (q := 1) dX4_nearest_33 rfl ?_
      refine aw_iload (pc := 34) (q := 4) dX4_nearest_34 rfl ?_
      obtain ⟨r1, w1, h1, h⟩ := aw_b2s h
      refine aw_callV (pc := 36) (as := [.inl x1, .inl x4]) (st := []) (st' := [.inl r1]) dX4_nearest_36 cv_RX4_40 (by decide) rfl rfl rfl rfl (Nat.le_of_ble_eq_true rfl) (w_x_Sale_gainWith N d (by omega) _ _ _ _ _ h1) rfl ?_
      refine aw_pop (pc := 39) dX4_nearest_39 rfl ?_
      refine aw_aload_n (pc := 40) (q := 0) dX4_nearest_40 rfl ?_
      refine aw_getf (pc := 41) (v := .inr (.inr 17)) dX4_nearest_41 fl_RX4_15 (by decide) rfl rfl rfl ?_
      refine aw_getf (pc := 44) (v := .inl (w1 17 3)) dX4_nearest_44 fl_RX4_89 (by decide) rfl rfl rfl ?_
      refine aw_iload_n (pc := 47) (q := 1) dX4_nearest_47 rfl ?_
      refine aw_icmp_ne (pc := 48) (tgt := 55) dX4_nearest_48 (by decide) (fun hc => ?_) (fun hc => ?_)
      · rw [if_neg hc] at h
        refine aw_iconst (pc := 55) dX4_nearest_55 ⟨by decide, by decide⟩ ?_
        exact aw_sel [0, 1, 2, 3, 4] rfl (w_x_Replies_nearest_56 N d hd  _ ih _ _ _ _ _ _ _ _ h)
      · rw [if_pos hc] at h
        refine aw_iconst (pc := 51) dX4_nearest_51 ⟨by decide, by decide⟩ ?_
        refine aw_goto (pc := 52) (tgt := 56) dX4_nearest_52 (by decide) ?_
        exact aw_sel [0, 1, 2, 3, 4] rfl (w_x_Replies_nearest_56 N d hd  _ ih _ _ _ _ _ _ _ _ h)
def x_Replies_nearest (N : Nat) (x1 : Int) (w : aw_W) : Option (Int × aw_W) :=
  if 0 ≤ x1 ∧ x1 < 6 then
    x_Replies_nearest_15 N N x1 (w 21 x1.toNat) (-1) 0 w
  else none
theorem w_x_Replies_nearest_d {l : Launch} {K : aw_K} (N d : Nat) (hd : 3 ≤ d) : ∀ (x1 : Int) (w : aw_W) (y : Int) (v : aw_W), x_Replies_nearest N x1 w = some (y, v) → aw_Met l K MX4_nearest (d + 1) [.inr (.inr 22), .inl x1] w (some (.inl y), v) := by
  intro x1 w y v h
  unfold x_Replies_nearest at h
  refine aw_enter rfl (Nat.le_of_ble_eq_true rfl) ?_
  show aw_AW l K MX4_nearest (d + 1) 0 [(0, .inr (.inr 22)), (1, .inl x1)] [] w (some (.inl y), v)
  refine aw_aload_n (pc := 0) (q := 0) dX4_nearest_0 rfl ?_
  refine aw_getf (pc := 1) (v := .inr (.inr 17)) dX4_nearest_1 fl_RX4_15 (by decide) rfl rfl rfl ?_
  refine aw_getf (pc := 4) (v := .inr (.inr 21)) dX4_nearest_4 fl_RX4_34 (by decide) rfl rfl rfl ?_
  refine aw_iload_n (pc := 7) (q := 1) dX4_nearest_7 rfl ?_
  obtain ⟨hb, h⟩ := aw_cks h
  refine aw_ialdv (pc := 8) (v := w 21 x1.toNat) dX4_nearest_8 rfl hb.1 hb.2 rfl ?_
  refine aw_istore_n (pc := 9) (ls' := [(2, .inl (w 21 x1.toNat)), (0, .inr (.inr 22)), (1, .inl x1)]) dX4_nearest_9 (by decide) rfl ?_
  refine aw_iconst (pc := 10) dX4_nearest_10 ⟨by decide, by decide⟩ ?_
  refine aw_istore_n (pc := 11) (ls' := [(3, .inl (-1)), (2, .inl (w 21 x1.toNat)), (0, .inr (.inr 22)), (1, .inl x1)]) dX4_nearest_11 (by decide) rfl ?_
  refine aw_iconst (pc := 12) dX4_nearest_12 ⟨by decide, by decide⟩ ?_
  refine aw_istore (pc := 13) (ls' := [(4, .inl 0), (3, .inl (-1)), (2, .inl (w 21 x1.toNat)), (0, .inr (.inr 22)), (1, .inl x1)]) dX4_nearest_13 (by decide) rfl ?_
  exact aw_sel [3, 4, 2, 1, 0] rfl (w_x_Replies_nearest_15 N d hd  N _ _ _ _ _ _ _ h)
theorem w_x_Replies_nearest {l : Launch} {K : aw_K} (N d : Nat) (hd : 4 ≤ d) : ∀ (x1 : Int) (w : aw_W) (y : Int) (v : aw_W), x_Replies_nearest N x1 w = some (y, v) → aw_Met l K MX4_nearest (d) [.inr (.inr 22), .inl x1] w (some (.inl y), v) := by
  obtain ⟨e, rfl⟩ : ∃ e, d = e + 1 := ⟨d - 1, by omega⟩
  exact w_x_Replies_nearest_d N e (by omega)
theorem dX4_couldHave_0 : decode cX4_couldHave 0 = .ok (.aload_n 0, 1) := by decide +kernel
theorem dX4_couldHave_1 : decode cX4_couldHave 1 = .ok (.getfield 15, 3) := by decide +kernel
theorem dX4_couldHave_4 : decode cX4_couldHave 4 = .ok (.invokevirtual 58, 3) := by decide +kernel
theorem dX4_couldHave_7 : decode cX4_couldHave 7 = .ok (.aload_n 0, 1) := by decide +kernel
theorem dX4_couldHave_8 : decode cX4_couldHave 8 = .ok (.getfield 15, 3) := by decide +kernel
theorem dX4_couldHave_11 : decode cX4_couldHave 11 = .ok (.getfield 89, 3) := by decide +kernel
theorem dX4_couldHave_14 : decode cX4_couldHave 14 = .ok (.istore_n 1, 1) := by decide +kernel
theorem dX4_couldHave_15 : decode cX4_couldHave 15 = .ok (.iconst 0, 1) := by decide +kernel
theorem dX4_couldHave_16 : decode cX4_couldHave 16 = .ok (.istore_n 2, 1) := by decide +kernel
theorem dX4_couldHave_17 : decode cX4_couldHave 17 = .ok (.iconst 0, 1) := by decide +kernel
theorem dX4_couldHave_18 : decode cX4_couldHave 18 = .ok (.istore_n 3, 1) := by decide +kernel
theorem dX4_couldHave_19 : decode cX4_couldHave 19 = .ok (.iload_n 3, 1) := by decide +kernel
theorem dX4_couldHave_20 : decode cX4_couldHave 20 = .ok (.aload_n 0, 1) := by decide +kernel
theorem dX4_couldHave_21 : decode cX4_couldHave 21 = .ok (.getfield 9, 3) := by decide +kernel
theorem dX4_couldHave_24 : decode cX4_couldHave 24 = .ok (.getfield 29, 3) := by decide +kernel
theorem dX4_couldHave_27 : decode cX4_couldHave 27 = .ok (.if_icmp .ge 26, 3) := by decide +kernel
theorem dX4_couldHave_30 : decode cX4_couldHave 30 = .ok (.iload_n 3, 1) := by decide +kernel
theorem dX4_couldHave_31 : decode cX4_couldHave 31 = .ok (.iload_n 1, 1) := by decide +kernel
theorem dX4_couldHave_32 : decode cX4_couldHave 32 = .ok (.if_icmp .eq 15, 3) := by decide +kernel
theorem dX4_couldHave_35 : decode cX4_couldHave 35 = .ok (.aload_n 0, 1) := by decide +kernel
theorem dX4_couldHave_36 : decode cX4_couldHave 36 = .ok (.iload_n 3, 1) := by decide +kernel
theorem dX4_couldHave_37 : decode cX4_couldHave 37 = .ok (.invokevirtual 104, 3) := by decide +kernel
theorem dX4_couldHave_40 : decode cX4_couldHave 40 = .ok (.iconst (-1), 1) := by decide +kernel
theorem dX4_couldHave_41 : decode cX4_couldHave 41 = .ok (.if_icmp .eq 6, 3) := by decide +kernel
theorem dX4_couldHave_44 : decode cX4_couldHave 44 = .ok (.iinc 2 1, 3) := by decide +kernel
theorem dX4_couldHave_47 : decode cX4_couldHave 47 = .ok (.iinc 3 1, 3) := by decide +kernel
theorem dX4_couldHave_50 : decode cX4_couldHave 50 = .ok (.goto (-31), 3) := by decide +kernel
theorem dX4_couldHave_53 : decode cX4_couldHave 53 = .ok (.iload_n 2, 1) := by decide +kernel
theorem dX4_couldHave_54 : decode cX4_couldHave 54 = .ok (.ireturn, 1) := by decide +kernel
def x_Replies_couldHave_53 (N : Nat) (x2 : Int) (w : aw_W) : Option (Int × aw_W) :=
  some (x2, w)
theorem w_x_Replies_couldHave_53 {l : Launch} {K : aw_K} (N d : Nat) (hd : 4 ≤ d) : ∀ (x2 : Int) (w : aw_W) (y : Int) (v : aw_W), x_Replies_couldHave_53 N x2 w = some (y, v) → aw_AW l K MX4_couldHave (d + 1) 53 [(2, .inl x2)] [] w (some (.inl y), v) := by
  intro x2 w y v h
  unfold x_Replies_couldHave_53 at h
  refine aw_iload_n (pc := 53) (q := 0) dX4_couldHave_53 rfl ?_
  cases h
  exact aw_iret (pc := 54) rfl dX4_couldHave_54
def x_Replies_couldHave_47 (N : Nat) (k19 : Int → Int → Int → aw_W → Option (Int × aw_W)) (x1 x2 x3 : Int) (w : aw_W) : Option (Int × aw_W) :=
  k19 x1 x2 (aw_w (x3 + 1)) w
theorem w_x_Replies_couldHave_47 {l : Launch} {K : aw_K} (N d : Nat) (hd : 4 ≤ d) (k19 : Int → Int → Int → aw_W → Option (Int × aw_W)) (hk19 : ∀ (x1 x2 x3 : Int) (w : aw_W) (y : Int) (v : aw_W), k19 x1 x2 x3 w = some (y, v) → aw_AW l K MX4_couldHave (d + 1) 19 [(0, .inr (.inr 22)), (1, .inl x1), (2, .inl x2), (3, .inl x3)] [] w (some (.inl y), v)) : ∀ (x1 x2 x3 : Int) (w : aw_W) (y : Int) (v : aw_W), x_Replies_couldHave_47 N k19 x1 x2 x3 w = some (y, v) → aw_AW l K MX4_couldHave (d + 1) 47 [(0, .inr (.inr 22)), (1, .inl x1), (2, .inl x2), (3, .inl x3)] [] w (some (.inl y), v) := by
  intro x1 x2 x3 w y v h
  unfold x_Replies_couldHave_47 at h
  refine aw_iinc (pc := 47) (q := 3) (ls' := [(3, .inl (aw_w (x3 + 1))), (0, .inr (.inr 22)), (1, .inl x1), (2, .inl x2)]) dX4_couldHave_47 rfl (by decide) rfl ?_
  refine aw_goto (pc := 50) (tgt := 19) dX4_couldHave_50 (by decide) ?_
  exact aw_sel [1, 2, 3, 0] rfl (hk19 _ _ _ _ _ _ h)
def x_Replies_couldHave_19 (N : Nat) : Nat → Int → Int → Int → aw_W → Option (Int × aw_W)
  | 0, _, _, _, _ => none
  | n + 1, x1, x2, x3, w =>
    if (w 3 4) ≤ x3 then
      x_Replies_couldHave_53 N x2 w
    else
      if x3 = x1 then
        x_Replies_couldHave_47 N (x_Replies_couldHave_19 N n) x1 x2 x3 w
      else
        aw_b2 (x_Replies_nearest N x3 w) fun r1 w1 =>
          if r1 = (-1) then
            x_Replies_couldHave_47 N (x_Replies_couldHave_19 N n) x1 x2 x3 w1
          else
            x_Replies_couldHave_47 N (x_Replies_couldHave_19 N n) x1 (aw_w (x2 + 1)) x3 w1
theorem w_x_Replies_couldHave_19 {l : Launch} {K : aw_K} (N d : Nat) (hd : 4 ≤ d) : ∀ (n : Nat) (x1 x2 x3 : Int) (w : aw_W) (y : Int) (v : aw_W), x_Replies_couldHave_19 N n x1 x2 x3 w = some (y, v) → aw_AW l K MX4_couldHave (d + 1) 19 [(0, .inr (.inr 22)), (1, .inl x1), (2, .inl x2), (3, .inl x3)] [] w (some (.inl y), v) := by
  intro n
  induction n with
  | zero => intro x1 x2 x3 w y v h; rw [x_Replies_couldHave_19] at h; cases h
  | succ n ih =>
    intro x1 x2 x3 w y v h
    rw [x_Replies_couldHave_19] at h
    refine aw_iload_n (pc := 19) (q := 3) dX4_couldHave_19 rfl ?_
    refine aw_aload_n (pc := 20) (q := 0) dX4_couldHave_20 rfl ?_
    refine aw_getf (pc := 21) (v := .inr (.inr 3)) dX4_couldHave_21 fl_RX4_9 (by decide) rfl rfl rfl ?_
    refine aw_getf (pc := 24) (v := .inl (w 3 4)) dX4_couldHave_24 fl_RX4_29 (by decide) rfl rfl rfl ?_
    refine aw_icmp_ge (pc := 27) (tgt := 53) dX4_couldHave_27 (by decide) (fun hc => ?_) (fun hc => ?_)
    · rw [if_pos hc] at h
      exact aw_sel [2] rfl (w_x_Replies_couldHave_53 N d hd  _ _ _ _ h)
    · rw [if_neg hc] at h
      refine aw_iload_n (pc := 30) (q := 3) dX4_couldHave_30 rfl ?_
      refine aw_iload_n (pc := 31) (q := 1) dX4_couldHave_31 rfl ?_
      refine aw_icmp_eq (pc := 32) (tgt := 47) dX4_couldHave_32 (by decide) (fun hc => ?_) (fun hc => ?_)
      · rw [if_pos hc] at h
        exact aw_sel [0, 1, 2, 3] rfl (w_x_Replies_couldHave_47 N d hd  _ ih _ _ _ _ _ _ h)
      · rw [if_neg hc] at h
        refine aw_aload_n (pc := 35) (q := 0) dX4_couldHave_35 rfl ?_
        refine aw_iload_n (pc := 36) (q := 3) dX4_couldHave_36 rfl ?_
        obtain ⟨r1, w1, h1, h⟩ := aw_b2s h
        refine aw_callV (pc := 37) (as := [.inl x3]) (st := []) (st' := [.inl r1]) dX4_couldHave_37 cv_RX4_104 (by decide) rfl rfl rfl rfl (Nat.le_of_ble_eq_true rfl) (w_x_Replies_nearest N d (by omega) _ _ _ _ h1) rfl ?_
        refine aw_iconst (pc := 40) dX4_couldHave_40 ⟨by decide, by decide⟩ ?_
        refine aw_icmp_eq (pc := 41) (tgt := 47) dX4_couldHave_41 (by decide) (fun hc => ?_) (fun hc => ?_)
        · rw [if_pos hc] at h
          exact aw_sel [0, 1, 2, 3] rfl (w_x_Replies_couldHave_47 N d hd  _ ih _ _ _ _ _ _ h)
        · rw [if_neg hc] at h
          refine aw_iinc (pc := 44) (q := 2) (ls' := [(2, .inl (aw_w (x2 + 1))), (0, .inr (.inr 22)), (1, .inl x1), (3, .inl x3)]) dX4_couldHave_44 rfl (by decide) rfl ?_
          exact aw_sel [1, 2, 0, 3] rfl (w_x_Replies_couldHave_47 N d hd  _ ih _ _ _ _ _ _ h)
def x_Replies_couldHave (N : Nat) (w : aw_W) : Option (Int × aw_W) :=
  aw_b1 (x_Sale_settle N w) fun w1 =>
    x_Replies_couldHave_19 N N (w1 17 3) 0 0 w1
theorem w_x_Replies_couldHave_d {l : Launch} {K : aw_K} (N d : Nat) (hd : 4 ≤ d) : ∀ (w : aw_W) (y : Int) (v : aw_W), x_Replies_couldHave N w = some (y, v) → aw_Met l K MX4_couldHave (d + 1) [.inr (.inr 22)] w (some (.inl y), v) := by
  intro w y v h
  unfold x_Replies_couldHave at h
  refine aw_enter rfl (Nat.le_of_ble_eq_true rfl) ?_
  show aw_AW l K MX4_couldHave (d + 1) 0 [(0, .inr (.inr 22))] [] w (some (.inl y), v)
  refine aw_aload_n (pc := 0) (q := 0) dX4_couldHave_0 rfl ?_
  refine aw_getf (pc := 1) (v := .inr (.inr 17)) dX4_couldHave_1 fl_RX4_15 (by decide) rfl rfl rfl ?_
  obtain ⟨w1, h1, h⟩ := aw_b1s h
  refine aw_callV (pc := 4) (as := []) (st := []) (st' := []) dX4_couldHave_4 cv_RX4_58 (by decide) rfl rfl rfl rfl (Nat.le_of_ble_eq_true rfl) (w_x_Sale_settle N d (by omega) _ _ h1) rfl ?_
  refine aw_aload_n (pc := 7) (q := 0) dX4_couldHave_7 rfl ?_
  refine aw_getf (pc := 8) (v := .inr (.inr 17)) dX4_couldHave_8 fl_RX4_15 (by decide) rfl rfl rfl ?_
  refine aw_getf (pc := 11) (v := .inl (w1 17 3)) dX4_couldHave_11 fl_RX4_89 (by decide) rfl rfl rfl ?_
  refine aw_istore_n (pc := 14) (ls' := [(1, .inl (w1 17 3)), (0, .inr (.inr 22))]) dX4_couldHave_14 (by decide) rfl ?_
  refine aw_iconst (pc := 15) dX4_couldHave_15 ⟨by decide, by decide⟩ ?_
  refine aw_istore_n (pc := 16) (ls' := [(2, .inl 0), (1, .inl (w1 17 3)), (0, .inr (.inr 22))]) dX4_couldHave_16 (by decide) rfl ?_
  refine aw_iconst (pc := 17) dX4_couldHave_17 ⟨by decide, by decide⟩ ?_
  refine aw_istore_n (pc := 18) (ls' := [(3, .inl 0), (2, .inl 0), (1, .inl (w1 17 3)), (0, .inr (.inr 22))]) dX4_couldHave_18 (by decide) rfl ?_
  exact aw_sel [3, 2, 1, 0] rfl (w_x_Replies_couldHave_19 N d hd  N _ _ _ _ _ _ h)
theorem w_x_Replies_couldHave {l : Launch} {K : aw_K} (N d : Nat) (hd : 5 ≤ d) : ∀ (w : aw_W) (y : Int) (v : aw_W), x_Replies_couldHave N w = some (y, v) → aw_Met l K MX4_couldHave (d) [.inr (.inr 22)] w (some (.inl y), v) := by
  obtain ⟨e, rfl⟩ : ∃ e, d = e + 1 := ⟨d - 1, by omega⟩
  exact w_x_Replies_couldHave_d N e (by omega)
theorem dX11_changes_0 : decode cX11_changes 0 = .ok (.aload_n 0, 1) := by decide +kernel
theorem dX11_changes_1 : decode cX11_changes 1 = .ok (.getfield 38, 3) := by decide +kernel
theorem dX11_changes_4 : decode cX11_changes 4 = .ok (.iload_n 1, 1) := by decide +kernel
theorem dX11_changes_5 : decode cX11_changes 5 = .ok (.invokevirtual 188, 3) := by decide +kernel
theorem dX11_changes_8 : decode cX11_changes 8 = .ok (.ifCond .eq 13, 3) := by decide +kernel
theorem dX11_changes_11 : decode cX11_changes 11 = .ok (.aload_n 0, 1) := by decide +kernel
theorem dX11_changes_12 : decode cX11_changes 12 = .ok (.getfield 47, 3) := by decide +kernel
theorem dX11_changes_15 : decode cX11_changes 15 = .ok (.invokevirtual 319, 3) := by decide +kernel
theorem dX11_changes_18 : decode cX11_changes 18 = .ok (.goto 4, 3) := by decide +kernel
theorem dX11_changes_21 : decode cX11_changes 21 = .ok (.iconst (-1), 1) := by decide +kernel
theorem dX11_changes_22 : decode cX11_changes 22 = .ok (.ireturn, 1) := by decide +kernel
def x_changes_22 (N : Nat) (s0 : Int) (w : aw_W) : Option (Int × aw_W) :=
  some (s0, w)
theorem w_x_changes_22 {l : Launch} {K : aw_K} (N d : Nat) (hd : 5 ≤ d) : ∀ (s0 : Int) (w : aw_W) (y : Int) (v : aw_W), x_changes_22 N s0 w = some (y, v) → aw_AW l K MX11_changes (d + 1) 22 [] [.inl s0] w (some (.inl y), v) := by
  intro s0 w y v h
  unfold x_changes_22 at h
  cases h
  exact aw_iret (pc := 22) rfl dX11_changes_22
def x_changes (N : Nat) (x1 : Int) (w : aw_W) : Option (Int × aw_W) :=
  aw_b2 (x_Sale_take N x1 w) fun r1 w1 =>
    if r1 = 0 then
      x_changes_22 N (-1) w1
    else
      aw_b2 (x_Replies_couldHave N w1) fun r2 w2 =>
        x_changes_22 N r2 w2
theorem w_x_changes_d {l : Launch} {K : aw_K} (N d : Nat) (hd : 5 ≤ d) : ∀ (x1 : Int) (w : aw_W) (y : Int) (v : aw_W), x_changes N x1 w = some (y, v) → aw_Met l K MX11_changes (d + 1) [.inr (.inr 0), .inl x1] w (some (.inl y), v) := by
  intro x1 w y v h
  unfold x_changes at h
  refine aw_enter rfl (Nat.le_of_ble_eq_true rfl) ?_
  show aw_AW l K MX11_changes (d + 1) 0 [(0, .inr (.inr 0)), (1, .inl x1)] [] w (some (.inl y), v)
  refine aw_aload_n (pc := 0) (q := 0) dX11_changes_0 rfl ?_
  refine aw_getf (pc := 1) (v := .inr (.inr 17)) dX11_changes_1 fl_RX11_38 (by decide) rfl rfl rfl ?_
  refine aw_iload_n (pc := 4) (q := 1) dX11_changes_4 rfl ?_
  obtain ⟨r1, w1, h1, h⟩ := aw_b2s h
  refine aw_callV (pc := 5) (as := [.inl x1]) (st := []) (st' := [.inl r1]) dX11_changes_5 cv_RX11_188 (by decide) rfl rfl rfl rfl (Nat.le_of_ble_eq_true rfl) (w_x_Sale_take N d (by omega) _ _ _ _ h1) rfl ?_
  refine aw_if_eq (pc := 8) (tgt := 21) dX11_changes_8 (by decide) (fun hc => ?_) (fun hc => ?_)
  · rw [if_pos hc] at h
    refine aw_iconst (pc := 21) dX11_changes_21 ⟨by decide, by decide⟩ ?_
    exact aw_sel [] rfl (w_x_changes_22 N d hd  _ _ _ _ h)
  · rw [if_neg hc] at h
    refine aw_aload_n (pc := 11) (q := 0) dX11_changes_11 rfl ?_
    refine aw_getf (pc := 12) (v := .inr (.inr 22)) dX11_changes_12 fl_RX11_47 (by decide) rfl rfl rfl ?_
    obtain ⟨r2, w2, h2, h⟩ := aw_b2s h
    refine aw_callV (pc := 15) (as := []) (st := []) (st' := [.inl r2]) dX11_changes_15 cv_RX11_319 (by decide) rfl rfl rfl rfl (Nat.le_of_ble_eq_true rfl) (w_x_Replies_couldHave N d (by omega) _ _ _ h2) rfl ?_
    refine aw_goto (pc := 18) (tgt := 22) dX11_changes_18 (by decide) ?_
    exact aw_sel [] rfl (w_x_changes_22 N d hd  _ _ _ _ h)
theorem w_x_changes {l : Launch} {K : aw_K} (N d : Nat) (hd : 6 ≤ d) : ∀ (x1 : Int) (w : aw_W) (y : Int) (v : aw_W), x_changes N x1 w = some (y, v) → aw_Met l K MX11_changes (d) [.inr (.inr 0), .inl x1] w (some (.inl y), v) := by
  obtain ⟨e, rfl⟩ : ∃ e, d = e + 1 := ⟨d - 1, by omega⟩
  exact w_x_changes_d N e (by omega)
def x_Order_clear_27 (N : Nat) (w : aw_W) : Option (aw_W) :=
  some (aw_up w 27 2 0)
theorem w_x_Order_clear_27 {l : Launch} {K : aw_K} (N d : Nat) (hd : 0 ≤ d) : ∀ (w v : aw_W), x_Order_clear_27 N w = some v → aw_Met l K MX2_clear (d) [.inr (.inr 27)] w (none, v) := by
  intro w v h
  unfold x_Order_clear_27 at h
  refine aw_enter rfl (Nat.le_of_ble_eq_true rfl) ?_
  show aw_AW l K MX2_clear (d) 0 [(0, .inr (.inr 27))] [] w (none, v)
  refine aw_aload_n (pc := 0) (q := 0) dX2_clear_0 rfl ?_
  refine aw_iconst (pc := 1) dX2_clear_1 ⟨by decide, by decide⟩ ?_
  refine aw_puti (pc := 2) dX2_clear_2 fp_RX2_18 (by decide) rfl rfl ?_
  cases h
  exact aw_vret (pc := 5) rfl dX2_clear_5
def x_Order_enter_27_68 (N : Nat) (x1 x2 x3 : Int) (w : aw_W) : Option (aw_W) :=
  if 0 ≤ x3 ∧ x3 < 6 then
    if 0 ≤ x3 ∧ x3 < 6 then
      some (aw_up (aw_up (aw_up w 29 x3.toNat x2) 28 x3.toNat x1) 27 2 (aw_w ((w 27 2) + 1)))
    else none
  else none
theorem w_x_Order_enter_27_68 {l : Launch} {K : aw_K} (N d : Nat) : ∀ (x1 x2 x3 : Int) (w v : aw_W), x_Order_enter_27_68 N x1 x2 x3 w = some v → aw_AW l K MX2_enter (d) 68 [(0, .inr (.inr 27)), (1, .inl x1), (2, .inl x2), (3, .inl x3)] [] w (none, v) := by
  intro x1 x2 x3 w v h
  unfold x_Order_enter_27_68 at h
  refine aw_aload_n (pc := 68) (q := 0) dX2_enter_68 rfl ?_
  refine aw_getf (pc := 69) (v := .inr (.inr 29)) dX2_enter_69 fl_RX2_15 (by decide) rfl rfl rfl ?_
  refine aw_iload_n (pc := 72) (q := 3) dX2_enter_72 rfl ?_
  refine aw_iload_n (pc := 73) (q := 2) dX2_enter_73 rfl ?_
  obtain ⟨hb, h⟩ := aw_cks h
  refine aw_iast (pc := 74) dX2_enter_74 rfl hb.1 hb.2 ?_
  refine aw_aload_n (pc := 75) (q := 0) dX2_enter_75 rfl ?_
  refine aw_getf (pc := 76) (v := .inr (.inr 28)) dX2_enter_76 fl_RX2_9 (by decide) rfl rfl rfl ?_
  refine aw_iload_n (pc := 79) (q := 3) dX2_enter_79 rfl ?_
  refine aw_iload_n (pc := 80) (q := 1) dX2_enter_80 rfl ?_
  obtain ⟨hb, h⟩ := aw_cks h
  refine aw_iast (pc := 81) dX2_enter_81 rfl hb.1 hb.2 ?_
  refine aw_aload_n (pc := 82) (q := 0) dX2_enter_82 rfl ?_
  refine aw_dup (pc := 83) dX2_enter_83 rfl ?_
  refine aw_getf (pc := 84) (v := .inl (w 27 2)) dX2_enter_84 fl_RX2_18 (by decide) rfl rfl rfl ?_
  refine aw_iconst (pc := 87) dX2_enter_87 ⟨by decide, by decide⟩ ?_
  refine aw_iadd (pc := 88) dX2_enter_88 ?_
  refine aw_puti (pc := 89) dX2_enter_89 fp_RX2_18 (by decide) rfl rfl ?_
  cases h
  exact aw_vret (pc := 92) rfl dX2_enter_92
def x_Order_enter_27_18 (N : Nat) : Nat → Int → Int → Int → aw_W → Option (aw_W)
  | 0, _, _, _, _ => none
  | n + 1, x1, x2, x3, w =>
    if x3 ≤ 0 then
      x_Order_enter_27_68 N x1 x2 x3 w
    else
      if 0 ≤ (aw_w (x3 - 1)) ∧ (aw_w (x3 - 1)) < 6 then
        if x2 ≤ (w 29 ((aw_w (x3 - 1)).toNat)) then
          x_Order_enter_27_68 N x1 x2 x3 w
        else
          if 0 ≤ (aw_w (x3 - 1)) ∧ (aw_w (x3 - 1)) < 6 then
            if 0 ≤ x3 ∧ x3 < 6 then
              if 0 ≤ (aw_w (x3 - 1)) ∧ (aw_w (x3 - 1)) < 6 then
                if 0 ≤ x3 ∧ x3 < 6 then
                  x_Order_enter_27_18 N n x1 x2 (aw_w (x3 + (-1))) (aw_up (aw_up w 29 x3.toNat (w 29 ((aw_w (x3 - 1)).toNat))) 28 x3.toNat (w 28 ((aw_w (x3 - 1)).toNat)))
                else none
              else none
            else none
          else none
      else none
theorem w_x_Order_enter_27_18 {l : Launch} {K : aw_K} (N d : Nat) : ∀ (n : Nat) (x1 x2 x3 : Int) (w v : aw_W), x_Order_enter_27_18 N n x1 x2 x3 w = some v → aw_AW l K MX2_enter (d) 18 [(0, .inr (.inr 27)), (1, .inl x1), (2, .inl x2), (3, .inl x3)] [] w (none, v) := by
  intro n
  induction n with
  | zero => intro x1 x2 x3 w v h; rw [x_Order_enter_27_18] at h; cases h
  | succ n ih =>
    intro x1 x2 x3 w v h
    rw [x_Order_enter_27_18] at h
    refine aw_iload_n (pc := 18) (q := 3) dX2_enter_18 rfl ?_
    refine aw_if_le (pc := 19) (tgt := 68) dX2_enter_19 (by decide) (fun hc => ?_) (fun hc => ?_)
    · rw [if_pos hc] at h
      exact aw_sel [0, 1, 2, 3] rfl (w_x_Order_enter_27_68 N d  _ _ _ _ _ h)
    · rw [if_neg hc] at h
      refine aw_aload_n (pc := 22) (q := 0) dX2_enter_22 rfl ?_
      refine aw_getf (pc := 23) (v := .inr (.inr 29)) dX2_enter_23 fl_RX2_15 (by decide) rfl rfl rfl ?_
      refine aw_iload_n (pc := 26) (q := 3) dX2_enter_26 rfl ?_
      refine aw_iconst (pc := 27) dX2_enter_27 ⟨by decide, by decide⟩ ?_
      refine aw_isub (pc := 28) dX2_enter_28 ?_
      obtain ⟨hb, h⟩ := aw_cks h
      refine aw_ialdv (pc := 29) (v := w 29 ((aw_w (x3 - 1)).toNat)) dX2_enter_29 rfl hb.1 hb.2 rfl ?_
      refine aw_iload_n (pc := 30) (q := 2) dX2_enter_30 rfl ?_
      refine aw_icmp_ge (pc := 31) (tgt := 68) dX2_enter_31 (by decide) (fun hc => ?_) (fun hc => ?_)
      · rw [if_pos hc] at h
        exact aw_sel [0, 1, 2, 3] rfl (w_x_Order_enter_27_68 N d  _ _ _ _ _ h)
      · rw [if_neg hc] at h
        refine aw_aload_n (pc := 34) (q := 0) dX2_enter_34 rfl ?_
        refine aw_getf (pc := 35) (v := .inr (.inr 29)) dX2_enter_35 fl_RX2_15 (by decide) rfl rfl rfl ?_
        refine aw_iload_n (pc := 38) (q := 3) dX2_enter_38 rfl ?_
        refine aw_aload_n (pc := 39) (q := 0) dX2_enter_39 rfl ?_
        refine aw_getf (pc := 40) (v := .inr (.inr 29)) dX2_enter_40 fl_RX2_15 (by decide) rfl rfl rfl ?_
        refine aw_iload_n (pc := 43) (q := 3) dX2_enter_43 rfl ?_
        refine aw_iconst (pc := 44) dX2_enter_44 ⟨by decide, by decide⟩ ?_
        refine aw_isub (pc := 45) dX2_enter_45 ?_
        obtain ⟨hb, h⟩ := aw_cks h
        refine aw_ialdv (pc := 46) (v := w 29 ((aw_w (x3 - 1)).toNat)) dX2_enter_46 rfl hb.1 hb.2 rfl ?_
        obtain ⟨hb, h⟩ := aw_cks h
        refine aw_iast (pc := 47) dX2_enter_47 rfl hb.1 hb.2 ?_
        refine aw_aload_n (pc := 48) (q := 0) dX2_enter_48 rfl ?_
        refine aw_getf (pc := 49) (v := .inr (.inr 28)) dX2_enter_49 fl_RX2_9 (by decide) rfl rfl rfl ?_
        refine aw_iload_n (pc := 52) (q := 3) dX2_enter_52 rfl ?_
        refine aw_aload_n (pc := 53) (q := 0) dX2_enter_53 rfl ?_
        refine aw_getf (pc := 54) (v := .inr (.inr 28)) dX2_enter_54 fl_RX2_9 (by decide) rfl rfl rfl ?_
        refine aw_iload_n (pc := 57) (q := 3) dX2_enter_57 rfl ?_
        refine aw_iconst (pc := 58) dX2_enter_58 ⟨by decide, by decide⟩ ?_
        refine aw_isub (pc := 59) dX2_enter_59 ?_
        obtain ⟨hb, h⟩ := aw_cks h
        refine aw_ialdv (pc := 60) (v := w 28 ((aw_w (x3 - 1)).toNat)) dX2_enter_60 rfl hb.1 hb.2 rfl ?_
        obtain ⟨hb, h⟩ := aw_cks h
        refine aw_iast (pc := 61) dX2_enter_61 rfl hb.1 hb.2 ?_
        refine aw_iinc (pc := 62) (q := 3) (ls' := [(3, .inl (aw_w (x3 + (-1)))), (0, .inr (.inr 27)), (1, .inl x1), (2, .inl x2)]) dX2_enter_62 rfl (by decide) rfl ?_
        refine aw_goto (pc := 65) (tgt := 18) dX2_enter_65 (by decide) ?_
        exact aw_sel [1, 2, 3, 0] rfl (ih _ _ _ _ _ h)
def x_Order_enter_27 (N : Nat) (x1 x2 : Int) (w : aw_W) : Option (aw_W) :=
  if (w 27 2) < 6 then
    x_Order_enter_27_18 N N x1 x2 (w 27 2) w
  else
    some w
theorem w_x_Order_enter_27 {l : Launch} {K : aw_K} (N d : Nat) (hd : 0 ≤ d) : ∀ (x1 x2 : Int) (w v : aw_W), x_Order_enter_27 N x1 x2 w = some v → aw_Met l K MX2_enter (d) [.inr (.inr 27), .inl x1, .inl x2] w (none, v) := by
  intro x1 x2 w v h
  unfold x_Order_enter_27 at h
  refine aw_enter rfl (Nat.le_of_ble_eq_true rfl) ?_
  show aw_AW l K MX2_enter (d) 0 [(0, .inr (.inr 27)), (1, .inl x1), (2, .inl x2)] [] w (none, v)
  refine aw_aload_n (pc := 0) (q := 0) dX2_enter_0 rfl ?_
  refine aw_getf (pc := 1) (v := .inl (w 27 2)) dX2_enter_1 fl_RX2_18 (by decide) rfl rfl rfl ?_
  refine aw_aload_n (pc := 4) (q := 0) dX2_enter_4 rfl ?_
  refine aw_getf (pc := 5) (v := .inr (.inr 28)) dX2_enter_5 fl_RX2_9 (by decide) rfl rfl rfl ?_
  refine aw_alenv (pc := 8) (x := 6) dX2_enter_8 (by decide) rfl (by decide) rfl ⟨by decide, by decide⟩ ?_
  refine aw_icmp_lt (pc := 9) (tgt := 13) dX2_enter_9 (by decide) (fun hc => ?_) (fun hc => ?_)
  · rw [if_pos hc] at h
    refine aw_aload_n (pc := 13) (q := 0) dX2_enter_13 rfl ?_
    refine aw_getf (pc := 14) (v := .inl (w 27 2)) dX2_enter_14 fl_RX2_18 (by decide) rfl rfl rfl ?_
    refine aw_istore_n (pc := 17) (ls' := [(3, .inl (w 27 2)), (0, .inr (.inr 27)), (1, .inl x1), (2, .inl x2)]) dX2_enter_17 (by decide) rfl ?_
    exact aw_sel [1, 2, 3, 0] rfl (w_x_Order_enter_27_18 N d  N _ _ _ _ _ h)
  · rw [if_neg hc] at h
    cases h
    exact aw_vret (pc := 12) rfl dX2_enter_12
theorem dX3_rank_0 : decode cX3_rank 0 = .ok (.aload_n 0, 1) := by decide +kernel
theorem dX3_rank_1 : decode cX3_rank 1 = .ok (.getfield 12, 3) := by decide +kernel
theorem dX3_rank_4 : decode cX3_rank 4 = .ok (.invokevirtual 93, 3) := by decide +kernel
theorem dX3_rank_7 : decode cX3_rank 7 = .ok (.iconst 0, 1) := by decide +kernel
theorem dX3_rank_8 : decode cX3_rank 8 = .ok (.istore_n 1, 1) := by decide +kernel
theorem dX3_rank_9 : decode cX3_rank 9 = .ok (.iload_n 1, 1) := by decide +kernel
theorem dX3_rank_10 : decode cX3_rank 10 = .ok (.aload_n 0, 1) := by decide +kernel
theorem dX3_rank_11 : decode cX3_rank 11 = .ok (.getfield 31, 3) := by decide +kernel
theorem dX3_rank_14 : decode cX3_rank 14 = .ok (.getfield 61, 3) := by decide +kernel
theorem dX3_rank_17 : decode cX3_rank 17 = .ok (.if_icmp .ge 34, 3) := by decide +kernel
theorem dX3_rank_20 : decode cX3_rank 20 = .ok (.aload_n 0, 1) := by decide +kernel
theorem dX3_rank_21 : decode cX3_rank 21 = .ok (.getfield 25, 3) := by decide +kernel
theorem dX3_rank_24 : decode cX3_rank 24 = .ok (.iload_n 1, 1) := by decide +kernel
theorem dX3_rank_25 : decode cX3_rank 25 = .ok (.iaload, 1) := by decide +kernel
theorem dX3_rank_26 : decode cX3_rank 26 = .ok (.iconst (-1), 1) := by decide +kernel
theorem dX3_rank_27 : decode cX3_rank 27 = .ok (.if_icmp .eq 18, 3) := by decide +kernel
theorem dX3_rank_30 : decode cX3_rank 30 = .ok (.aload_n 0, 1) := by decide +kernel
theorem dX3_rank_31 : decode cX3_rank 31 = .ok (.getfield 12, 3) := by decide +kernel
theorem dX3_rank_34 : decode cX3_rank 34 = .ok (.iload_n 1, 1) := by decide +kernel
theorem dX3_rank_35 : decode cX3_rank 35 = .ok (.aload_n 0, 1) := by decide +kernel
theorem dX3_rank_36 : decode cX3_rank 36 = .ok (.getfield 25, 3) := by decide +kernel
theorem dX3_rank_39 : decode cX3_rank 39 = .ok (.iload_n 1, 1) := by decide +kernel
theorem dX3_rank_40 : decode cX3_rank 40 = .ok (.iaload, 1) := by decide +kernel
theorem dX3_rank_41 : decode cX3_rank 41 = .ok (.ineg, 1) := by decide +kernel
theorem dX3_rank_42 : decode cX3_rank 42 = .ok (.invokevirtual 96, 3) := by decide +kernel
theorem dX3_rank_45 : decode cX3_rank 45 = .ok (.iinc 1 1, 3) := by decide +kernel
theorem dX3_rank_48 : decode cX3_rank 48 = .ok (.goto (-39), 3) := by decide +kernel
theorem dX3_rank_51 : decode cX3_rank 51 = .ok (.return_, 1) := by decide +kernel
def x_Race_rank_51 (N : Nat) (w : aw_W) : Option (aw_W) :=
  some w
theorem w_x_Race_rank_51 {l : Launch} {K : aw_K} (N d : Nat) (hd : 0 ≤ d) : ∀ (w v : aw_W), x_Race_rank_51 N w = some v → aw_AW l K MX3_rank (d + 1) 51 [] [] w (none, v) := by
  intro w v h
  unfold x_Race_rank_51 at h
  cases h
  exact aw_vret (pc := 51) rfl dX3_rank_51
def x_Race_rank_45 (N : Nat) (k9 : Int → aw_W → Option (aw_W)) (x1 : Int) (w : aw_W) : Option (aw_W) :=
  k9 (aw_w (x1 + 1)) w
theorem w_x_Race_rank_45 {l : Launch} {K : aw_K} (N d : Nat) (hd : 0 ≤ d) (k9 : Int → aw_W → Option (aw_W)) (hk9 : ∀ (x1 : Int) (w v : aw_W), k9 x1 w = some v → aw_AW l K MX3_rank (d + 1) 9 [(0, .inr (.inr 26)), (1, .inl x1)] [] w (none, v)) : ∀ (x1 : Int) (w v : aw_W), x_Race_rank_45 N k9 x1 w = some v → aw_AW l K MX3_rank (d + 1) 45 [(0, .inr (.inr 26)), (1, .inl x1)] [] w (none, v) := by
  intro x1 w v h
  unfold x_Race_rank_45 at h
  refine aw_iinc (pc := 45) (q := 1) (ls' := [(1, .inl (aw_w (x1 + 1))), (0, .inr (.inr 26))]) dX3_rank_45 rfl (by decide) rfl ?_
  refine aw_goto (pc := 48) (tgt := 9) dX3_rank_48 (by decide) ?_
  exact aw_sel [1, 0] rfl (hk9 _ _ _ h)
def x_Race_rank_9 (N : Nat) : Nat → Int → aw_W → Option (aw_W)
  | 0, _, _ => none
  | n + 1, x1, w =>
    if (w 3 4) ≤ x1 then
      x_Race_rank_51 N w
    else
      if 0 ≤ x1 ∧ x1 < 6 then
        if (w 32 x1.toNat) = (-1) then
          x_Race_rank_45 N (x_Race_rank_9 N n) x1 w
        else
          if 0 ≤ x1 ∧ x1 < 6 then
            aw_b1 (x_Order_enter_27 N x1 (aw_w (-(w 32 x1.toNat))) w) fun w1 =>
              x_Race_rank_45 N (x_Race_rank_9 N n) x1 w1
          else none
      else none
theorem w_x_Race_rank_9 {l : Launch} {K : aw_K} (N d : Nat) (hd : 0 ≤ d) : ∀ (n : Nat) (x1 : Int) (w v : aw_W), x_Race_rank_9 N n x1 w = some v → aw_AW l K MX3_rank (d + 1) 9 [(0, .inr (.inr 26)), (1, .inl x1)] [] w (none, v) := by
  intro n
  induction n with
  | zero => intro x1 w v h; rw [x_Race_rank_9] at h; cases h
  | succ n ih =>
    intro x1 w v h
    rw [x_Race_rank_9] at h
    refine aw_iload_n (pc := 9) (q := 1) dX3_rank_9 rfl ?_
    refine aw_aload_n (pc := 10) (q := 0) dX3_rank_10 rfl ?_
    refine aw_getf (pc := 11) (v := .inr (.inr 3)) dX3_rank_11 fl_RX3_31 (by decide) rfl rfl rfl ?_
    refine aw_getf (pc := 14) (v := .inl (w 3 4)) dX3_rank_14 fl_RX3_61 (by decide) rfl rfl rfl ?_
    refine aw_icmp_ge (pc := 17) (tgt := 51) dX3_rank_17 (by decide) (fun hc => ?_) (fun hc => ?_)
    · rw [if_pos hc] at h
      exact aw_sel [] rfl (w_x_Race_rank_51 N d hd  _ _ h)
    · rw [if_neg hc] at h
      refine aw_aload_n (pc := 20) (q := 0) dX3_rank_20 rfl ?_
      refine aw_getf (pc := 21) (v := .inr (.inr 32)) dX3_rank_21 fl_RX3_25 (by decide) rfl rfl rfl ?_
      refine aw_iload_n (pc := 24) (q := 1) dX3_rank_24 rfl ?_
      obtain ⟨hb, h⟩ := aw_cks h
      refine aw_ialdv (pc := 25) (v := w 32 x1.toNat) dX3_rank_25 rfl hb.1 hb.2 rfl ?_
      refine aw_iconst (pc := 26) dX3_rank_26 ⟨by decide, by decide⟩ ?_
      refine aw_icmp_eq (pc := 27) (tgt := 45) dX3_rank_27 (by decide) (fun hc => ?_) (fun hc => ?_)
      · rw [if_pos hc] at h
        exact aw_sel [0, 1] rfl (w_x_Race_rank_45 N d hd  _ ih _ _ _ h)
      · rw [if_neg hc] at h
        refine aw_aload_n (pc := 30) (q := 0) dX3_rank_30 rfl ?_
        refine aw_getf (pc := 31) (v := .inr (.inr 27)) dX3_rank_31 fl_RX3_12 (by decide) rfl rfl rfl ?_
        refine aw_iload_n (pc := 34) (q := 1) dX3_rank_34 rfl ?_
        refine aw_aload_n (pc := 35) (q := 0) dX3_rank_35 rfl ?_
        refine aw_getf (pc := 36) (v := .inr (.inr 32)) dX3_rank_36 fl_RX3_25 (by decide) rfl rfl rfl ?_
        refine aw_iload_n (pc := 39) (q := 1) dX3_rank_39 rfl ?_
        obtain ⟨hb, h⟩ := aw_cks h
        refine aw_ialdv (pc := 40) (v := w 32 x1.toNat) dX3_rank_40 rfl hb.1 hb.2 rfl ?_
        refine aw_ineg (pc := 41) dX3_rank_41 ?_
        obtain ⟨w1, h1, h⟩ := aw_b1s h
        refine aw_callV (pc := 42) (as := [.inl x1, .inl (aw_w (-(w 32 x1.toNat)))]) (st := []) (st' := []) dX3_rank_42 cv_RX3_96 (by decide) rfl rfl rfl rfl (Nat.le_of_ble_eq_true rfl) (w_x_Order_enter_27 N d (by omega) _ _ _ _ h1) rfl ?_
        exact aw_sel [0, 1] rfl (w_x_Race_rank_45 N d hd  _ ih _ _ _ h)
def x_Race_rank (N : Nat) (w : aw_W) : Option (aw_W) :=
  aw_b1 (x_Order_clear_27 N w) fun w1 =>
    x_Race_rank_9 N N 0 w1
theorem w_x_Race_rank_d {l : Launch} {K : aw_K} (N d : Nat) (hd : 0 ≤ d) : ∀ (w v : aw_W), x_Race_rank N w = some v → aw_Met l K MX3_rank (d + 1) [.inr (.inr 26)] w (none, v) := by
  intro w v h
  unfold x_Race_rank at h
  refine aw_enter rfl (Nat.le_of_ble_eq_true rfl) ?_
  show aw_AW l K MX3_rank (d + 1) 0 [(0, .inr (.inr 26))] [] w (none, v)
  refine aw_aload_n (pc := 0) (q := 0) dX3_rank_0 rfl ?_
  refine aw_getf (pc := 1) (v := .inr (.inr 27)) dX3_rank_1 fl_RX3_12 (by decide) rfl rfl rfl ?_
  obtain ⟨w1, h1, h⟩ := aw_b1s h
  refine aw_callV (pc := 4) (as := []) (st := []) (st' := []) dX3_rank_4 cv_RX3_93 (by decide) rfl rfl rfl rfl (Nat.le_of_ble_eq_true rfl) (w_x_Order_clear_27 N d (by omega) _ _ h1) rfl ?_
  refine aw_iconst (pc := 7) dX3_rank_7 ⟨by decide, by decide⟩ ?_
  refine aw_istore_n (pc := 8) (ls' := [(1, .inl 0), (0, .inr (.inr 26))]) dX3_rank_8 (by decide) rfl ?_
  exact aw_sel [1, 0] rfl (w_x_Race_rank_9 N d hd  N _ _ _ h)
theorem w_x_Race_rank {l : Launch} {K : aw_K} (N d : Nat) (hd : 1 ≤ d) : ∀ (w v : aw_W), x_Race_rank N w = some v → aw_Met l K MX3_rank (d) [.inr (.inr 26)] w (none, v) := by
  obtain ⟨e, rfl⟩ : ∃ e, d = e + 1 := ⟨d - 1, by omega⟩
  exact w_x_Race_rank_d N e (by omega)
def x_Order_alike_27_32 (N : Nat) (s0 : Int) (w : aw_W) : Option (Int × aw_W) :=
  if s0 = 0 ∨ s0 = 1 then
    some (s0, w)
  else none
theorem w_x_Order_alike_27_32 {l : Launch} {K : aw_K} (N d : Nat) : ∀ (s0 : Int) (w : aw_W) (y : Int) (v : aw_W), x_Order_alike_27_32 N s0 w = some (y, v) → aw_AW l K MX2_alike (d) 32 [] [.inl s0] w (some (.inl y), v) := by
  intro s0 w y v h
  unfold x_Order_alike_27_32 at h
  obtain ⟨hz, h⟩ := aw_cks h
  cases h
  exact aw_zret (pc := 32) rfl hz dX2_alike_32
def x_Order_alike_27_31 (N : Nat) (w : aw_W) : Option (Int × aw_W) :=
  x_Order_alike_27_32 N 0 w
theorem w_x_Order_alike_27_31 {l : Launch} {K : aw_K} (N d : Nat) : ∀ (w : aw_W) (y : Int) (v : aw_W), x_Order_alike_27_31 N w = some (y, v) → aw_AW l K MX2_alike (d) 31 [] [] w (some (.inl y), v) := by
  intro w y v h
  unfold x_Order_alike_27_31 at h
  refine aw_iconst (pc := 31) dX2_alike_31 ⟨by decide, by decide⟩ ?_
  exact aw_sel [] rfl (w_x_Order_alike_27_32 N d  _ _ _ _ h)
def x_Order_alike_27 (N : Nat) (x1 x2 : Int) (w : aw_W) : Option (Int × aw_W) :=
  if x1 < 0 then
    x_Order_alike_27_31 N w
  else
    if (w 27 2) ≤ x2 then
      x_Order_alike_27_31 N w
    else
      if 0 ≤ x1 ∧ x1 < 6 then
        if 0 ≤ x2 ∧ x2 < 6 then
          if (w 29 x1.toNat) = (w 29 x2.toNat) then
            x_Order_alike_27_32 N 1 w
          else
            x_Order_alike_27_31 N w
        else none
      else none
theorem w_x_Order_alike_27 {l : Launch} {K : aw_K} (N d : Nat) (hd : 0 ≤ d) : ∀ (x1 x2 : Int) (w : aw_W) (y : Int) (v : aw_W), x_Order_alike_27 N x1 x2 w = some (y, v) → aw_Met l K MX2_alike (d) [.inr (.inr 27), .inl x1, .inl x2] w (some (.inl y), v) := by
  intro x1 x2 w y v h
  unfold x_Order_alike_27 at h
  refine aw_enter rfl (Nat.le_of_ble_eq_true rfl) ?_
  show aw_AW l K MX2_alike (d) 0 [(0, .inr (.inr 27)), (1, .inl x1), (2, .inl x2)] [] w (some (.inl y), v)
  refine aw_iload_n (pc := 0) (q := 1) dX2_alike_0 rfl ?_
  refine aw_if_lt (pc := 1) (tgt := 31) dX2_alike_1 (by decide) (fun hc => ?_) (fun hc => ?_)
  · rw [if_pos hc] at h
    exact aw_sel [] rfl (w_x_Order_alike_27_31 N d  _ _ _ h)
  · rw [if_neg hc] at h
    refine aw_iload_n (pc := 4) (q := 2) dX2_alike_4 rfl ?_
    refine aw_aload_n (pc := 5) (q := 0) dX2_alike_5 rfl ?_
    refine aw_getf (pc := 6) (v := .inl (w 27 2)) dX2_alike_6 fl_RX2_18 (by decide) rfl rfl rfl ?_
    refine aw_icmp_ge (pc := 9) (tgt := 31) dX2_alike_9 (by decide) (fun hc => ?_) (fun hc => ?_)
    · rw [if_pos hc] at h
      exact aw_sel [] rfl (w_x_Order_alike_27_31 N d  _ _ _ h)
    · rw [if_neg hc] at h
      refine aw_aload_n (pc := 12) (q := 0) dX2_alike_12 rfl ?_
      refine aw_getf (pc := 13) (v := .inr (.inr 29)) dX2_alike_13 fl_RX2_15 (by decide) rfl rfl rfl ?_
      refine aw_iload_n (pc := 16) (q := 1) dX2_alike_16 rfl ?_
      obtain ⟨hb, h⟩ := aw_cks h
      refine aw_ialdv (pc := 17) (v := w 29 x1.toNat) dX2_alike_17 rfl hb.1 hb.2 rfl ?_
      refine aw_aload_n (pc := 18) (q := 0) dX2_alike_18 rfl ?_
      refine aw_getf (pc := 19) (v := .inr (.inr 29)) dX2_alike_19 fl_RX2_15 (by decide) rfl rfl rfl ?_
      refine aw_iload_n (pc := 22) (q := 2) dX2_alike_22 rfl ?_
      obtain ⟨hb, h⟩ := aw_cks h
      refine aw_ialdv (pc := 23) (v := w 29 x2.toNat) dX2_alike_23 rfl hb.1 hb.2 rfl ?_
      refine aw_icmp_ne (pc := 24) (tgt := 31) dX2_alike_24 (by decide) (fun hc => ?_) (fun hc => ?_)
      · rw [if_neg hc] at h
        exact aw_sel [] rfl (w_x_Order_alike_27_31 N d  _ _ _ h)
      · rw [if_pos hc] at h
        refine aw_iconst (pc := 27) dX2_alike_27 ⟨by decide, by decide⟩ ?_
        refine aw_goto (pc := 28) (tgt := 32) dX2_alike_28 (by decide) ?_
        exact aw_sel [] rfl (w_x_Order_alike_27_32 N d  _ _ _ _ h)
def x_Order_holder_27_16 (N : Nat) (w : aw_W) : Option (Int × aw_W) :=
  some ((-1), w)
theorem w_x_Order_holder_27_16 {l : Launch} {K : aw_K} (N d : Nat) (hd : 0 ≤ d) : ∀ (w : aw_W) (y : Int) (v : aw_W), x_Order_holder_27_16 N w = some (y, v) → aw_AW l K MX2_holder (d + 1) 16 [] [] w (some (.inl y), v) := by
  intro w y v h
  unfold x_Order_holder_27_16 at h
  refine aw_iconst (pc := 16) dX2_holder_16 ⟨by decide, by decide⟩ ?_
  cases h
  exact aw_iret (pc := 17) rfl dX2_holder_17
def x_Order_holder_27_55 (N : Nat) (s0 : Int) (w : aw_W) : Option (Int × aw_W) :=
  some (s0, w)
theorem w_x_Order_holder_27_55 {l : Launch} {K : aw_K} (N d : Nat) (hd : 0 ≤ d) : ∀ (s0 : Int) (w : aw_W) (y : Int) (v : aw_W), x_Order_holder_27_55 N s0 w = some (y, v) → aw_AW l K MX2_holder (d + 1) 55 [] [.inl s0] w (some (.inl y), v) := by
  intro s0 w y v h
  unfold x_Order_holder_27_55 at h
  cases h
  exact aw_iret (pc := 55) rfl dX2_holder_55
def x_Order_holder_27_49 (N : Nat) (x3 : Int) (w : aw_W) : Option (Int × aw_W) :=
  if 0 ≤ x3 ∧ x3 < 6 then
    x_Order_holder_27_55 N (w 28 x3.toNat) w
  else none
theorem w_x_Order_holder_27_49 {l : Launch} {K : aw_K} (N d : Nat) (hd : 0 ≤ d) : ∀ (x3 : Int) (w : aw_W) (y : Int) (v : aw_W), x_Order_holder_27_49 N x3 w = some (y, v) → aw_AW l K MX2_holder (d + 1) 49 [(0, .inr (.inr 27)), (3, .inl x3)] [] w (some (.inl y), v) := by
  intro x3 w y v h
  unfold x_Order_holder_27_49 at h
  refine aw_aload_n (pc := 49) (q := 0) dX2_holder_49 rfl ?_
  refine aw_getf (pc := 50) (v := .inr (.inr 28)) dX2_holder_50 fl_RX2_9 (by decide) rfl rfl rfl ?_
  refine aw_iload_n (pc := 53) (q := 1) dX2_holder_53 rfl ?_
  obtain ⟨hb, h⟩ := aw_cks h
  refine aw_ialdv (pc := 54) (v := w 28 x3.toNat) dX2_holder_54 rfl hb.1 hb.2 rfl ?_
  exact aw_sel [] rfl (w_x_Order_holder_27_55 N d hd  _ _ _ _ h)
def x_Order_holder_27_45 (N : Nat) (w : aw_W) : Option (Int × aw_W) :=
  x_Order_holder_27_55 N (-1) w
theorem w_x_Order_holder_27_45 {l : Launch} {K : aw_K} (N d : Nat) (hd : 0 ≤ d) : ∀ (w : aw_W) (y : Int) (v : aw_W), x_Order_holder_27_45 N w = some (y, v) → aw_AW l K MX2_holder (d + 1) 45 [] [] w (some (.inl y), v) := by
  intro w y v h
  unfold x_Order_holder_27_45 at h
  refine aw_iconst (pc := 45) dX2_holder_45 ⟨by decide, by decide⟩ ?_
  refine aw_goto (pc := 46) (tgt := 55) dX2_holder_46 (by decide) ?_
  exact aw_sel [] rfl (w_x_Order_holder_27_55 N d hd  _ _ _ _ h)
def x_Order_holder_27 (N : Nat) (x1 x2 : Int) (w : aw_W) : Option (Int × aw_W) :=
  if (aw_w (x1 - 1)) < 0 then
    x_Order_holder_27_16 N w
  else
    if (aw_w (x1 - 1)) < (w 27 2) then
      if x2 = 1 then
        aw_b2 (x_Order_alike_27 N (aw_w ((aw_w (x1 - 1)) - 1)) (aw_w (x1 - 1)) w) fun r1 w1 =>
          if r1 = 0 then
            aw_b2 (x_Order_alike_27 N (aw_w (x1 - 1)) (aw_w ((aw_w (x1 - 1)) + 1)) w1) fun r2 w2 =>
              if r2 = 0 then
                x_Order_holder_27_49 N (aw_w (x1 - 1)) w2
              else
                x_Order_holder_27_45 N w2
          else
            x_Order_holder_27_45 N w1
      else
        x_Order_holder_27_49 N (aw_w (x1 - 1)) w
    else
      x_Order_holder_27_16 N w
theorem w_x_Order_holder_27_d {l : Launch} {K : aw_K} (N d : Nat) (hd : 0 ≤ d) : ∀ (x1 x2 : Int) (w : aw_W) (y : Int) (v : aw_W), x_Order_holder_27 N x1 x2 w = some (y, v) → aw_Met l K MX2_holder (d + 1) [.inr (.inr 27), .inl x1, .inl x2] w (some (.inl y), v) := by
  intro x1 x2 w y v h
  unfold x_Order_holder_27 at h
  refine aw_enter rfl (Nat.le_of_ble_eq_true rfl) ?_
  show aw_AW l K MX2_holder (d + 1) 0 [(0, .inr (.inr 27)), (1, .inl x1), (2, .inl x2)] [] w (some (.inl y), v)
  refine aw_iload_n (pc := 0) (q := 1) dX2_holder_0 rfl ?_
  refine aw_iconst (pc := 1) dX2_holder_1 ⟨by decide, by decide⟩ ?_
  refine aw_isub (pc := 2) dX2_holder_2 ?_
  refine aw_istore_n (pc := 3) (ls' := [(3, .inl (aw_w (x1 - 1))), (0, .inr (.inr 27)), (1, .inl x1), (2, .inl x2)]) dX2_holder_3 (by decide) rfl ?_
  refine aw_iload_n (pc := 4) (q := 0) dX2_holder_4 rfl ?_
  refine aw_if_lt (pc := 5) (tgt := 16) dX2_holder_5 (by decide) (fun hc => ?_) (fun hc => ?_)
  · rw [if_pos hc] at h
    exact aw_sel [] rfl (w_x_Order_holder_27_16 N d hd  _ _ _ h)
  · rw [if_neg hc] at h
    refine aw_iload_n (pc := 8) (q := 0) dX2_holder_8 rfl ?_
    refine aw_aload_n (pc := 9) (q := 1) dX2_holder_9 rfl ?_
    refine aw_getf (pc := 10) (v := .inl (w 27 2)) dX2_holder_10 fl_RX2_18 (by decide) rfl rfl rfl ?_
    refine aw_icmp_lt (pc := 13) (tgt := 18) dX2_holder_13 (by decide) (fun hc => ?_) (fun hc => ?_)
    · rw [if_pos hc] at h
      refine aw_iload_n (pc := 18) (q := 3) dX2_holder_18 rfl ?_
      refine aw_iconst (pc := 19) dX2_holder_19 ⟨by decide, by decide⟩ ?_
      refine aw_icmp_ne (pc := 20) (tgt := 49) dX2_holder_20 (by decide) (fun hc => ?_) (fun hc => ?_)
      · rw [if_neg hc] at h
        exact aw_sel [1, 0] rfl (w_x_Order_holder_27_49 N d hd  _ _ _ _ h)
      · rw [if_pos hc] at h
        refine aw_aload_n (pc := 23) (q := 1) dX2_holder_23 rfl ?_
        refine aw_iload_n (pc := 24) (q := 0) dX2_holder_24 rfl ?_
        refine aw_iconst (pc := 25) dX2_holder_25 ⟨by decide, by decide⟩ ?_
        refine aw_isub (pc := 26) dX2_holder_26 ?_
        refine aw_iload_n (pc := 27) (q := 0) dX2_holder_27 rfl ?_
        obtain ⟨r1, w1, h1, h⟩ := aw_b2s h
        refine aw_callV (pc := 28) (as := [.inl (aw_w ((aw_w (x1 - 1)) - 1)), .inl (aw_w (x1 - 1))]) (st := []) (st' := [.inl r1]) dX2_holder_28 cv_RX2_22 (by decide) rfl rfl rfl rfl (Nat.le_of_ble_eq_true rfl) (w_x_Order_alike_27 N d (by omega) _ _ _ _ _ h1) rfl ?_
        refine aw_if_ne (pc := 31) (tgt := 45) dX2_holder_31 (by decide) (fun hc => ?_) (fun hc => ?_)
        · rw [if_neg hc] at h
          exact aw_sel [] rfl (w_x_Order_holder_27_45 N d hd  _ _ _ h)
        · rw [if_pos hc] at h
          refine aw_aload_n (pc := 34) (q := 1) dX2_holder_34 rfl ?_
          refine aw_iload_n (pc := 35) (q := 0) dX2_holder_35 rfl ?_
          refine aw_iload_n (pc := 36) (q := 0) dX2_holder_36 rfl ?_
          refine aw_iconst (pc := 37) dX2_holder_37 ⟨by decide, by decide⟩ ?_
          refine aw_iadd (pc := 38) dX2_holder_38 ?_
          obtain ⟨r2, w2, h2, h⟩ := aw_b2s h
          refine aw_callV (pc := 39) (as := [.inl (aw_w (x1 - 1)), .inl (aw_w ((aw_w (x1 - 1)) + 1))]) (st := []) (st' := [.inl r2]) dX2_holder_39 cv_RX2_22 (by decide) rfl rfl rfl rfl (Nat.le_of_ble_eq_true rfl) (w_x_Order_alike_27 N d (by omega) _ _ _ _ _ h2) rfl ?_
          refine aw_if_eq (pc := 42) (tgt := 49) dX2_holder_42 (by decide) (fun hc => ?_) (fun hc => ?_)
          · rw [if_pos hc] at h
            exact aw_sel [1, 0] rfl (w_x_Order_holder_27_49 N d hd  _ _ _ _ h)
          · rw [if_neg hc] at h
            exact aw_sel [] rfl (w_x_Order_holder_27_45 N d hd  _ _ _ h)
    · rw [if_neg hc] at h
      exact aw_sel [] rfl (w_x_Order_holder_27_16 N d hd  _ _ _ h)
theorem w_x_Order_holder_27 {l : Launch} {K : aw_K} (N d : Nat) (hd : 1 ≤ d) : ∀ (x1 x2 : Int) (w : aw_W) (y : Int) (v : aw_W), x_Order_holder_27 N x1 x2 w = some (y, v) → aw_Met l K MX2_holder (d) [.inr (.inr 27), .inl x1, .inl x2] w (some (.inl y), v) := by
  obtain ⟨e, rfl⟩ : ∃ e, d = e + 1 := ⟨d - 1, by omega⟩
  exact w_x_Order_holder_27_d N e (by omega)
theorem dX3_holder_0 : decode cX3_holder 0 = .ok (.aload_n 0, 1) := by decide +kernel
theorem dX3_holder_1 : decode cX3_holder 1 = .ok (.invokevirtual 99, 3) := by decide +kernel
theorem dX3_holder_4 : decode cX3_holder 4 = .ok (.aload_n 0, 1) := by decide +kernel
theorem dX3_holder_5 : decode cX3_holder 5 = .ok (.getfield 12, 3) := by decide +kernel
theorem dX3_holder_8 : decode cX3_holder 8 = .ok (.aload_n 0, 1) := by decide +kernel
theorem dX3_holder_9 : decode cX3_holder 9 = .ok (.getfield 31, 3) := by decide +kernel
theorem dX3_holder_12 : decode cX3_holder 12 = .ok (.getfield 102, 3) := by decide +kernel
theorem dX3_holder_15 : decode cX3_holder 15 = .ok (.iconst 0, 1) := by decide +kernel
theorem dX3_holder_16 : decode cX3_holder 16 = .ok (.iaload, 1) := by decide +kernel
theorem dX3_holder_17 : decode cX3_holder 17 = .ok (.aload_n 0, 1) := by decide +kernel
theorem dX3_holder_18 : decode cX3_holder 18 = .ok (.getfield 31, 3) := by decide +kernel
theorem dX3_holder_21 : decode cX3_holder 21 = .ok (.getfield 102, 3) := by decide +kernel
theorem dX3_holder_24 : decode cX3_holder 24 = .ok (.iconst 1, 1) := by decide +kernel
theorem dX3_holder_25 : decode cX3_holder 25 = .ok (.iaload, 1) := by decide +kernel
theorem dX3_holder_26 : decode cX3_holder 26 = .ok (.invokevirtual 105, 3) := by decide +kernel
theorem dX3_holder_29 : decode cX3_holder 29 = .ok (.ireturn, 1) := by decide +kernel
def x_Race_holder (N : Nat) (w : aw_W) : Option (Int × aw_W) :=
  aw_b1 (x_Race_rank N w) fun w1 =>
    aw_b2 (x_Order_holder_27 N (w1 5 0) (w1 5 1) w1) fun r2 w2 =>
      some (r2, w2)
theorem w_x_Race_holder_d {l : Launch} {K : aw_K} (N d : Nat) (hd : 1 ≤ d) : ∀ (w : aw_W) (y : Int) (v : aw_W), x_Race_holder N w = some (y, v) → aw_Met l K MX3_holder (d + 1) [.inr (.inr 26)] w (some (.inl y), v) := by
  intro w y v h
  unfold x_Race_holder at h
  refine aw_enter rfl (Nat.le_of_ble_eq_true rfl) ?_
  show aw_AW l K MX3_holder (d + 1) 0 [(0, .inr (.inr 26))] [] w (some (.inl y), v)
  refine aw_aload_n (pc := 0) (q := 0) dX3_holder_0 rfl ?_
  obtain ⟨w1, h1, h⟩ := aw_b1s h
  refine aw_callV (pc := 1) (as := []) (st := []) (st' := []) dX3_holder_1 cv_RX3_99 (by decide) rfl rfl rfl rfl (Nat.le_of_ble_eq_true rfl) (w_x_Race_rank N d (by omega) _ _ h1) rfl ?_
  refine aw_aload_n (pc := 4) (q := 0) dX3_holder_4 rfl ?_
  refine aw_getf (pc := 5) (v := .inr (.inr 27)) dX3_holder_5 fl_RX3_12 (by decide) rfl rfl rfl ?_
  refine aw_aload_n (pc := 8) (q := 0) dX3_holder_8 rfl ?_
  refine aw_getf (pc := 9) (v := .inr (.inr 3)) dX3_holder_9 fl_RX3_31 (by decide) rfl rfl rfl ?_
  refine aw_getf (pc := 12) (v := .inr (.inr 5)) dX3_holder_12 fl_RX3_102 (by decide) rfl rfl rfl ?_
  refine aw_iconst (pc := 15) dX3_holder_15 ⟨by decide, by decide⟩ ?_
  refine aw_ialdv (pc := 16) (v := w1 5 0) dX3_holder_16 rfl (by decide) (by decide) rfl ?_
  refine aw_aload_n (pc := 17) (q := 0) dX3_holder_17 rfl ?_
  refine aw_getf (pc := 18) (v := .inr (.inr 3)) dX3_holder_18 fl_RX3_31 (by decide) rfl rfl rfl ?_
  refine aw_getf (pc := 21) (v := .inr (.inr 5)) dX3_holder_21 fl_RX3_102 (by decide) rfl rfl rfl ?_
  refine aw_iconst (pc := 24) dX3_holder_24 ⟨by decide, by decide⟩ ?_
  refine aw_ialdv (pc := 25) (v := w1 5 1) dX3_holder_25 rfl (by decide) (by decide) rfl ?_
  obtain ⟨r2, w2, h2, h⟩ := aw_b2s h
  refine aw_callV (pc := 26) (as := [.inl (w1 5 0), .inl (w1 5 1)]) (st := []) (st' := [.inl r2]) dX3_holder_26 cv_RX3_105 (by decide) rfl rfl rfl rfl (Nat.le_of_ble_eq_true rfl) (w_x_Order_holder_27 N d (by omega) _ _ _ _ _ h2) rfl ?_
  cases h
  exact aw_iret (pc := 29) rfl dX3_holder_29
theorem w_x_Race_holder {l : Launch} {K : aw_K} (N d : Nat) (hd : 2 ≤ d) : ∀ (w : aw_W) (y : Int) (v : aw_W), x_Race_holder N w = some (y, v) → aw_Met l K MX3_holder (d) [.inr (.inr 26)] w (some (.inl y), v) := by
  obtain ⟨e, rfl⟩ : ∃ e, d = e + 1 := ⟨d - 1, by omega⟩
  exact w_x_Race_holder_d N e (by omega)
theorem dX11_holderWith_0 : decode cX11_holderWith 0 = .ok (.aload_n 0, 1) := by decide +kernel
theorem dX11_holderWith_1 : decode cX11_holderWith 1 = .ok (.getfield 63, 3) := by decide +kernel
theorem dX11_holderWith_4 : decode cX11_holderWith 4 = .ok (.invokevirtual 166, 3) := by decide +kernel
theorem dX11_holderWith_7 : decode cX11_holderWith 7 = .ok (.aload_n 0, 1) := by decide +kernel
theorem dX11_holderWith_8 : decode cX11_holderWith 8 = .ok (.getfield 63, 3) := by decide +kernel
theorem dX11_holderWith_11 : decode cX11_holderWith 11 = .ok (.getfield 343, 3) := by decide +kernel
theorem dX11_holderWith_14 : decode cX11_holderWith 14 = .ok (.iload_n 3, 1) := by decide +kernel
theorem dX11_holderWith_15 : decode cX11_holderWith 15 = .ok (.iload 4, 2) := by decide +kernel
theorem dX11_holderWith_17 : decode cX11_holderWith 17 = .ok (.iastore, 1) := by decide +kernel
theorem dX11_holderWith_18 : decode cX11_holderWith 18 = .ok (.aload_n 0, 1) := by decide +kernel
theorem dX11_holderWith_19 : decode cX11_holderWith 19 = .ok (.getfield 63, 3) := by decide +kernel
theorem dX11_holderWith_22 : decode cX11_holderWith 22 = .ok (.iload_n 1, 1) := by decide +kernel
theorem dX11_holderWith_23 : decode cX11_holderWith 23 = .ok (.iload_n 2, 1) := by decide +kernel
theorem dX11_holderWith_24 : decode cX11_holderWith 24 = .ok (.iload_n 2, 1) := by decide +kernel
theorem dX11_holderWith_25 : decode cX11_holderWith 25 = .ok (.invokevirtual 169, 3) := by decide +kernel
theorem dX11_holderWith_28 : decode cX11_holderWith 28 = .ok (.aload_n 0, 1) := by decide +kernel
theorem dX11_holderWith_29 : decode cX11_holderWith 29 = .ok (.getfield 63, 3) := by decide +kernel
theorem dX11_holderWith_32 : decode cX11_holderWith 32 = .ok (.invokevirtual 173, 3) := by decide +kernel
theorem dX11_holderWith_35 : decode cX11_holderWith 35 = .ok (.ireturn, 1) := by decide +kernel
def x_holderWith (N : Nat) (x1 x2 x3 x4 : Int) (w : aw_W) : Option (Int × aw_W) :=
  aw_b1 (x_Race_rulesAsTold N w) fun w1 =>
    if 0 ≤ x3 ∧ x3 < 6 then
      aw_b1 (x_Race_go N x1 x2 x2 (aw_up w1 30 x3.toNat x4)) fun w2 =>
        aw_b2 (x_Race_holder N w2) fun r3 w3 =>
          some (r3, w3)
    else none
theorem w_x_holderWith_d {l : Launch} {K : aw_K} (N d : Nat) (hd : 4 ≤ d) : ∀ (x1 x2 x3 x4 : Int) (w : aw_W) (y : Int) (v : aw_W), x_holderWith N x1 x2 x3 x4 w = some (y, v) → aw_Met l K MX11_holderWith (d + 1) [.inr (.inr 0), .inl x1, .inl x2, .inl x3, .inl x4] w (some (.inl y), v) := by
  intro x1 x2 x3 x4 w y v h
  unfold x_holderWith at h
  refine aw_enter rfl (Nat.le_of_ble_eq_true rfl) ?_
  show aw_AW l K MX11_holderWith (d + 1) 0 [(0, .inr (.inr 0)), (1, .inl x1), (2, .inl x2), (3, .inl x3), (4, .inl x4)] [] w (some (.inl y), v)
  refine aw_aload_n (pc := 0) (q := 0) dX11_holderWith_0 rfl ?_
  refine aw_getf (pc := 1) (v := .inr (.inr 26)) dX11_holderWith_1 fl_RX11_63 (by decide) rfl rfl rfl ?_
  obtain ⟨w1, h1, h⟩ := aw_b1s h
  refine aw_callV (pc := 4) (as := []) (st := []) (st' := []) dX11_holderWith_4 cv_RX11_166 (by decide) rfl rfl rfl rfl (Nat.le_of_ble_eq_true rfl) (w_x_Race_rulesAsTold N d (by omega) _ _ h1) rfl ?_
  refine aw_aload_n (pc := 7) (q := 0) dX11_holderWith_7 rfl ?_
  refine aw_getf (pc := 8) (v := .inr (.inr 26)) dX11_holderWith_8 fl_RX11_63 (by decide) rfl rfl rfl ?_
  refine aw_getf (pc := 11) (v := .inr (.inr 30)) dX11_holderWith_11 fl_RX11_343 (by decide) rfl rfl rfl ?_
  refine aw_iload_n (pc := 14) (q := 3) dX11_holderWith_14 rfl ?_
  refine aw_iload (pc := 15) (q := 4) dX11_holderWith_15 rfl ?_
  obtain ⟨hb, h⟩ := aw_cks h
  refine aw_iast (pc := 17) dX11_holderWith_17 rfl hb.1 hb.2 ?_
  refine aw_aload_n (pc := 18) (q := 0) dX11_holderWith_18 rfl ?_
  refine aw_getf (pc := 19) (v := .inr (.inr 26)) dX11_holderWith_19 fl_RX11_63 (by decide) rfl rfl rfl ?_
  refine aw_iload_n (pc := 22) (q := 1) dX11_holderWith_22 rfl ?_
  refine aw_iload_n (pc := 23) (q := 2) dX11_holderWith_23 rfl ?_
  refine aw_iload_n (pc := 24) (q := 2) dX11_holderWith_24 rfl ?_
  obtain ⟨w2, h2, h⟩ := aw_b1s h
  refine aw_callV (pc := 25) (as := [.inl x1, .inl x2, .inl x2]) (st := []) (st' := []) dX11_holderWith_25 cv_RX11_169 (by decide) rfl rfl rfl rfl (Nat.le_of_ble_eq_true rfl) (w_x_Race_go N d (by omega) _ _ _ _ _ h2) rfl ?_
  refine aw_aload_n (pc := 28) (q := 0) dX11_holderWith_28 rfl ?_
  refine aw_getf (pc := 29) (v := .inr (.inr 26)) dX11_holderWith_29 fl_RX11_63 (by decide) rfl rfl rfl ?_
  obtain ⟨r3, w3, h3, h⟩ := aw_b2s h
  refine aw_callV (pc := 32) (as := []) (st := []) (st' := [.inl r3]) dX11_holderWith_32 cv_RX11_173 (by decide) rfl rfl rfl rfl (Nat.le_of_ble_eq_true rfl) (w_x_Race_holder N d (by omega) _ _ _ h3) rfl ?_
  cases h
  exact aw_iret (pc := 35) rfl dX11_holderWith_35
theorem w_x_holderWith {l : Launch} {K : aw_K} (N d : Nat) (hd : 5 ≤ d) : ∀ (x1 x2 x3 x4 : Int) (w : aw_W) (y : Int) (v : aw_W), x_holderWith N x1 x2 x3 x4 w = some (y, v) → aw_Met l K MX11_holderWith (d) [.inr (.inr 0), .inl x1, .inl x2, .inl x3, .inl x4] w (some (.inl y), v) := by
  obtain ⟨e, rfl⟩ : ∃ e, d = e + 1 := ⟨d - 1, by omega⟩
  exact w_x_holderWith_d N e (by omega)
theorem dX11_choice_0 : decode cX11_choice 0 = .ok (.aload_n 0, 1) := by decide +kernel
theorem dX11_choice_1 : decode cX11_choice 1 = .ok (.getfield 19, 3) := by decide +kernel
theorem dX11_choice_4 : decode cX11_choice 4 = .ok (.iload_n 3, 1) := by decide +kernel
theorem dX11_choice_5 : decode cX11_choice 5 = .ok (.invokevirtual 137, 3) := by decide +kernel
theorem dX11_choice_8 : decode cX11_choice 8 = .ok (.ifCond .eq 11, 3) := by decide +kernel
theorem dX11_choice_11 : decode cX11_choice 11 = .ok (.iload_n 1, 1) := by decide +kernel
theorem dX11_choice_12 : decode cX11_choice 12 = .ok (.iload_n 2, 1) := by decide +kernel
theorem dX11_choice_13 : decode cX11_choice 13 = .ok (.invokestatic 161, 3) := by decide +kernel
theorem dX11_choice_16 : decode cX11_choice 16 = .ok (.ifCond .ne 6, 3) := by decide +kernel
theorem dX11_choice_19 : decode cX11_choice 19 = .ok (.ldc 165, 2) := by decide +kernel
theorem dX11_choice_21 : decode cX11_choice 21 = .ok (.ireturn, 1) := by decide +kernel
theorem dX11_choice_22 : decode cX11_choice 22 = .ok (.iconst 0, 1) := by decide +kernel
theorem dX11_choice_23 : decode cX11_choice 23 = .ok (.istore 4, 2) := by decide +kernel
theorem dX11_choice_25 : decode cX11_choice 25 = .ok (.iload 4, 2) := by decide +kernel
theorem dX11_choice_27 : decode cX11_choice 27 = .ok (.aload_n 0, 1) := by decide +kernel
theorem dX11_choice_28 : decode cX11_choice 28 = .ok (.getfield 29, 3) := by decide +kernel
theorem dX11_choice_31 : decode cX11_choice 31 = .ok (.getfield 123, 3) := by decide +kernel
theorem dX11_choice_34 : decode cX11_choice 34 = .ok (.if_icmp .ge 25, 3) := by decide +kernel
theorem dX11_choice_37 : decode cX11_choice 37 = .ok (.aload_n 0, 1) := by decide +kernel
theorem dX11_choice_38 : decode cX11_choice 38 = .ok (.iload_n 1, 1) := by decide +kernel
theorem dX11_choice_39 : decode cX11_choice 39 = .ok (.iload_n 2, 1) := by decide +kernel
theorem dX11_choice_40 : decode cX11_choice 40 = .ok (.iload_n 3, 1) := by decide +kernel
theorem dX11_choice_41 : decode cX11_choice 41 = .ok (.iload 4, 2) := by decide +kernel
theorem dX11_choice_43 : decode cX11_choice 43 = .ok (.invokevirtual 322, 3) := by decide +kernel
theorem dX11_choice_46 : decode cX11_choice 46 = .ok (.iload_n 3, 1) := by decide +kernel
theorem dX11_choice_47 : decode cX11_choice 47 = .ok (.if_icmp .ne 6, 3) := by decide +kernel
theorem dX11_choice_50 : decode cX11_choice 50 = .ok (.iload 4, 2) := by decide +kernel
theorem dX11_choice_52 : decode cX11_choice 52 = .ok (.ireturn, 1) := by decide +kernel
theorem dX11_choice_53 : decode cX11_choice 53 = .ok (.iinc 4 1, 3) := by decide +kernel
theorem dX11_choice_56 : decode cX11_choice 56 = .ok (.goto (-31), 3) := by decide +kernel
theorem dX11_choice_59 : decode cX11_choice 59 = .ok (.iconst (-1), 1) := by decide +kernel
theorem dX11_choice_60 : decode cX11_choice 60 = .ok (.ireturn, 1) := by decide +kernel
def x_choice_19 (N : Nat) (w : aw_W) : Option (Int × aw_W) :=
  some ((-1000000), w)
theorem w_x_choice_19 {l : Launch} {K : aw_K} (N d : Nat) (hd : 5 ≤ d) : ∀ (w : aw_W) (y : Int) (v : aw_W), x_choice_19 N w = some (y, v) → aw_AW l K MX11_choice (d + 1) 19 [] [] w (some (.inl y), v) := by
  intro w y v h
  unfold x_choice_19 at h
  refine aw_ldc (pc := 19) (x := (-1000000)) dX11_choice_19 cn_RX11_165 ⟨by decide, by decide⟩ ?_
  cases h
  exact aw_iret (pc := 21) rfl dX11_choice_21
def x_choice_59 (N : Nat) (w : aw_W) : Option (Int × aw_W) :=
  some ((-1), w)
theorem w_x_choice_59 {l : Launch} {K : aw_K} (N d : Nat) (hd : 5 ≤ d) : ∀ (w : aw_W) (y : Int) (v : aw_W), x_choice_59 N w = some (y, v) → aw_AW l K MX11_choice (d + 1) 59 [] [] w (some (.inl y), v) := by
  intro w y v h
  unfold x_choice_59 at h
  refine aw_iconst (pc := 59) dX11_choice_59 ⟨by decide, by decide⟩ ?_
  cases h
  exact aw_iret (pc := 60) rfl dX11_choice_60
def x_choice_50 (N : Nat) (x4 : Int) (w : aw_W) : Option (Int × aw_W) :=
  some (x4, w)
theorem w_x_choice_50 {l : Launch} {K : aw_K} (N d : Nat) (hd : 5 ≤ d) : ∀ (x4 : Int) (w : aw_W) (y : Int) (v : aw_W), x_choice_50 N x4 w = some (y, v) → aw_AW l K MX11_choice (d + 1) 50 [(4, .inl x4)] [] w (some (.inl y), v) := by
  intro x4 w y v h
  unfold x_choice_50 at h
  refine aw_iload (pc := 50) (q := 0) dX11_choice_50 rfl ?_
  cases h
  exact aw_iret (pc := 52) rfl dX11_choice_52
def x_choice_25 (N : Nat) : Nat → Int → Int → Int → Int → aw_W → Option (Int × aw_W)
  | 0, _, _, _, _, _ => none
  | n + 1, x1, x2, x3, x4, w =>
    if (w 11 6) ≤ x4 then
      x_choice_59 N w
    else
      aw_b2 (x_holderWith N x1 x2 x3 x4 w) fun r1 w1 =>
        if r1 = x3 then
          x_choice_50 N x4 w1
        else
          x_choice_25 N n x1 x2 x3 (aw_w (x4 + 1)) w1
theorem w_x_choice_25 {l : Launch} {K : aw_K} (N d : Nat) (hd : 5 ≤ d) : ∀ (n : Nat) (x1 x2 x3 x4 : Int) (w : aw_W) (y : Int) (v : aw_W), x_choice_25 N n x1 x2 x3 x4 w = some (y, v) → aw_AW l K MX11_choice (d + 1) 25 [(0, .inr (.inr 0)), (1, .inl x1), (2, .inl x2), (3, .inl x3), (4, .inl x4)] [] w (some (.inl y), v) := by
  intro n
  induction n with
  | zero => intro x1 x2 x3 x4 w y v h; rw [x_choice_25] at h; cases h
  | succ n ih =>
    intro x1 x2 x3 x4 w y v h
    rw [x_choice_25] at h
    refine aw_iload (pc := 25) (q := 4) dX11_choice_25 rfl ?_
    refine aw_aload_n (pc := 27) (q := 0) dX11_choice_27 rfl ?_
    refine aw_getf (pc := 28) (v := .inr (.inr 11)) dX11_choice_28 fl_RX11_29 (by decide) rfl rfl rfl ?_
    refine aw_getf (pc := 31) (v := .inl (w 11 6)) dX11_choice_31 fl_RX11_123 (by decide) rfl rfl rfl ?_
    refine aw_icmp_ge (pc := 34) (tgt := 59) dX11_choice_34 (by decide) (fun hc => ?_) (fun hc => ?_)
    · rw [if_pos hc] at h
      exact aw_sel [] rfl (w_x_choice_59 N d hd  _ _ _ h)
    · rw [if_neg hc] at h
      refine aw_aload_n (pc := 37) (q := 0) dX11_choice_37 rfl ?_
      refine aw_iload_n (pc := 38) (q := 1) dX11_choice_38 rfl ?_
      refine aw_iload_n (pc := 39) (q := 2) dX11_choice_39 rfl ?_
      refine aw_iload_n (pc := 40) (q := 3) dX11_choice_40 rfl ?_
      refine aw_iload (pc := 41) (q := 4) dX11_choice_41 rfl ?_
      obtain ⟨r1, w1, h1, h⟩ := aw_b2s h
      refine aw_callV (pc := 43) (as := [.inl x1, .inl x2, .inl x3, .inl x4]) (st := []) (st' := [.inl r1]) dX11_choice_43 cv_RX11_322 (by decide) rfl rfl rfl rfl (Nat.le_of_ble_eq_true rfl) (w_x_holderWith N d (by omega) _ _ _ _ _ _ _ h1) rfl ?_
      refine aw_iload_n (pc := 46) (q := 3) dX11_choice_46 rfl ?_
      refine aw_icmp_ne (pc := 47) (tgt := 53) dX11_choice_47 (by decide) (fun hc => ?_) (fun hc => ?_)
      · rw [if_neg hc] at h
        refine aw_iinc (pc := 53) (q := 4) (ls' := [(4, .inl (aw_w (x4 + 1))), (0, .inr (.inr 0)), (1, .inl x1), (2, .inl x2), (3, .inl x3)]) dX11_choice_53 rfl (by decide) rfl ?_
        refine aw_goto (pc := 56) (tgt := 25) dX11_choice_56 (by decide) ?_
        exact aw_sel [1, 2, 3, 4, 0] rfl (ih _ _ _ _ _ _ _ h)
      · rw [if_pos hc] at h
        exact aw_sel [4] rfl (w_x_choice_50 N d hd  _ _ _ _ h)
def x_choice (N : Nat) (x1 x2 x3 : Int) (w : aw_W) : Option (Int × aw_W) :=
  aw_b2 (x_Land_holds N x3 w) fun r1 w1 =>
    if r1 = 0 then
      x_choice_19 N w1
    else
      aw_b2 (x_mayRun N x1 x2 w1) fun r2 w2 =>
        if r2 = 0 then
          x_choice_19 N w2
        else
          x_choice_25 N N x1 x2 x3 0 w2
theorem w_x_choice_d {l : Launch} {K : aw_K} (N d : Nat) (hd : 5 ≤ d) : ∀ (x1 x2 x3 : Int) (w : aw_W) (y : Int) (v : aw_W), x_choice N x1 x2 x3 w = some (y, v) → aw_Met l K MX11_choice (d + 1) [.inr (.inr 0), .inl x1, .inl x2, .inl x3] w (some (.inl y), v) := by
  intro x1 x2 x3 w y v h
  unfold x_choice at h
  refine aw_enter rfl (Nat.le_of_ble_eq_true rfl) ?_
  show aw_AW l K MX11_choice (d + 1) 0 [(0, .inr (.inr 0)), (1, .inl x1), (2, .inl x2), (3, .inl x3)] [] w (some (.inl y), v)
  refine aw_aload_n (pc := 0) (q := 0) dX11_choice_0 rfl ?_
  refine aw_getf (pc := 1) (v := .inr (.inr 3)) dX11_choice_1 fl_RX11_19 (by decide) rfl rfl rfl ?_
  refine aw_iload_n (pc := 4) (q := 3) dX11_choice_4 rfl ?_
  obtain ⟨r1, w1, h1, h⟩ := aw_b2s h
  refine aw_callV (pc := 5) (as := [.inl x3]) (st := []) (st' := [.inl r1]) dX11_choice_5 cv_RX11_137 (by decide) rfl rfl rfl rfl (Nat.le_of_ble_eq_true rfl) (w_x_Land_holds N d (by omega) _ _ _ _ h1) rfl ?_
  refine aw_if_eq (pc := 8) (tgt := 19) dX11_choice_8 (by decide) (fun hc => ?_) (fun hc => ?_)
  · rw [if_pos hc] at h
    exact aw_sel [] rfl (w_x_choice_19 N d hd  _ _ _ h)
  · rw [if_neg hc] at h
    refine aw_iload_n (pc := 11) (q := 1) dX11_choice_11 rfl ?_
    refine aw_iload_n (pc := 12) (q := 2) dX11_choice_12 rfl ?_
    obtain ⟨r2, w2, h2, h⟩ := aw_b2s h
    refine aw_callS (pc := 13) (as := [.inl x1, .inl x2]) (st := []) (st' := [.inl r2]) dX11_choice_13 cs_RX11_161 rfl rfl (Nat.le_of_ble_eq_true rfl) (w_x_mayRun N d (by omega) _ _ _ _ _ h2) rfl ?_
    refine aw_if_ne (pc := 16) (tgt := 22) dX11_choice_16 (by decide) (fun hc => ?_) (fun hc => ?_)
    · rw [if_neg hc] at h
      refine aw_iconst (pc := 22) dX11_choice_22 ⟨by decide, by decide⟩ ?_
      refine aw_istore (pc := 23) (ls' := [(4, .inl 0), (0, .inr (.inr 0)), (1, .inl x1), (2, .inl x2), (3, .inl x3)]) dX11_choice_23 (by decide) rfl ?_
      exact aw_sel [1, 2, 3, 4, 0] rfl (w_x_choice_25 N d hd  N _ _ _ _ _ _ _ h)
    · rw [if_pos hc] at h
      exact aw_sel [] rfl (w_x_choice_19 N d hd  _ _ _ h)
theorem w_x_choice {l : Launch} {K : aw_K} (N d : Nat) (hd : 6 ≤ d) : ∀ (x1 x2 x3 : Int) (w : aw_W) (y : Int) (v : aw_W), x_choice N x1 x2 x3 w = some (y, v) → aw_Met l K MX11_choice (d) [.inr (.inr 0), .inl x1, .inl x2, .inl x3] w (some (.inl y), v) := by
  obtain ⟨e, rfl⟩ : ∃ e, d = e + 1 := ⟨d - 1, by omega⟩
  exact w_x_choice_d N e (by omega)
theorem dX11_count_0 : decode cX11_count 0 = .ok (.iload_n 1, 1) := by decide +kernel
theorem dX11_count_1 : decode cX11_count 1 = .ok (.tableswitch 63 0 3 #[31, 39, 47, 55], 31) := by decide +kernel
theorem dX11_count_32 : decode cX11_count 32 = .ok (.aload_n 0, 1) := by decide +kernel
theorem dX11_count_33 : decode cX11_count 33 = .ok (.getfield 19, 3) := by decide +kernel
theorem dX11_count_36 : decode cX11_count 36 = .ok (.getfield 136, 3) := by decide +kernel
theorem dX11_count_39 : decode cX11_count 39 = .ok (.ireturn, 1) := by decide +kernel
theorem dX11_count_40 : decode cX11_count 40 = .ok (.aload_n 0, 1) := by decide +kernel
theorem dX11_count_41 : decode cX11_count 41 = .ok (.getfield 29, 3) := by decide +kernel
theorem dX11_count_44 : decode cX11_count 44 = .ok (.getfield 123, 3) := by decide +kernel
theorem dX11_count_47 : decode cX11_count 47 = .ok (.ireturn, 1) := by decide +kernel
theorem dX11_count_48 : decode cX11_count 48 = .ok (.aload_n 0, 1) := by decide +kernel
theorem dX11_count_49 : decode cX11_count 49 = .ok (.getfield 10, 3) := by decide +kernel
theorem dX11_count_52 : decode cX11_count 52 = .ok (.getfield 106, 3) := by decide +kernel
theorem dX11_count_55 : decode cX11_count 55 = .ok (.ireturn, 1) := by decide +kernel
theorem dX11_count_56 : decode cX11_count 56 = .ok (.aload_n 0, 1) := by decide +kernel
theorem dX11_count_57 : decode cX11_count 57 = .ok (.getfield 84, 3) := by decide +kernel
theorem dX11_count_60 : decode cX11_count 60 = .ok (.getfield 132, 3) := by decide +kernel
theorem dX11_count_63 : decode cX11_count 63 = .ok (.ireturn, 1) := by decide +kernel
theorem dX11_count_64 : decode cX11_count 64 = .ok (.ldc 165, 2) := by decide +kernel
theorem dX11_count_66 : decode cX11_count 66 = .ok (.ireturn, 1) := by decide +kernel
def x_count (N : Nat) (x1 : Int) (w : aw_W) : Option (Int × aw_W) :=
  if x1 = 0 then
    some (w 3 4, w)
  else
    if x1 = 1 then
      some (w 11 6, w)
    else
      if x1 = 2 then
        some (w 1 1, w)
      else
        if x1 = 3 then
          some (w 41 4, w)
        else
          some ((-1000000), w)
theorem w_x_count {l : Launch} {K : aw_K} (N d : Nat) (hd : 0 ≤ d) : ∀ (x1 : Int) (w : aw_W) (y : Int) (v : aw_W), x_count N x1 w = some (y, v) → aw_Met l K MX11_count (d) [.inr (.inr 0), .inl x1] w (some (.inl y), v) := by
  intro x1 w y v h
  unfold x_count at h
  refine aw_enter rfl (Nat.le_of_ble_eq_true rfl) ?_
  show aw_AW l K MX11_count (d) 0 [(0, .inr (.inr 0)), (1, .inl x1)] [] w (some (.inl y), v)
  refine aw_iload_n (pc := 0) (q := 1) dX11_count_0 rfl ?_
  by_cases hc0 : x1 = 0
  · rw [if_pos hc0] at h
    refine aw_tabIn (pc := 1) (tgt := 32) (off := 31) dX11_count_1 (by omega) (by omega) (by rw [hc0]; rfl) (by decide) ?_
    refine aw_aload_n (pc := 32) (q := 0) dX11_count_32 rfl ?_
    refine aw_getf (pc := 33) (v := .inr (.inr 3)) dX11_count_33 fl_RX11_19 (by decide) rfl rfl rfl ?_
    refine aw_getf (pc := 36) (v := .inl (w 3 4)) dX11_count_36 fl_RX11_136 (by decide) rfl rfl rfl ?_
    cases h
    exact aw_iret (pc := 39) rfl dX11_count_39
  · rw [if_neg hc0] at h
    by_cases hc1 : x1 = 1
    · rw [if_pos hc1] at h
      refine aw_tabIn (pc := 1) (tgt := 40) (off := 39) dX11_count_1 (by omega) (by omega) (by rw [hc1]; rfl) (by decide) ?_
      refine aw_aload_n (pc := 40) (q := 0) dX11_count_40 rfl ?_
      refine aw_getf (pc := 41) (v := .inr (.inr 11)) dX11_count_41 fl_RX11_29 (by decide) rfl rfl rfl ?_
      refine aw_getf (pc := 44) (v := .inl (w 11 6)) dX11_count_44 fl_RX11_123 (by decide) rfl rfl rfl ?_
      cases h
      exact aw_iret (pc := 47) rfl dX11_count_47
    · rw [if_neg hc1] at h
      by_cases hc2 : x1 = 2
      · rw [if_pos hc2] at h
        refine aw_tabIn (pc := 1) (tgt := 48) (off := 47) dX11_count_1 (by omega) (by omega) (by rw [hc2]; rfl) (by decide) ?_
        refine aw_aload_n (pc := 48) (q := 0) dX11_count_48 rfl ?_
        refine aw_getf (pc := 49) (v := .inr (.inr 1)) dX11_count_49 fl_RX11_10 (by decide) rfl rfl rfl ?_
        refine aw_getf (pc := 52) (v := .inl (w 1 1)) dX11_count_52 fl_RX11_106 (by decide) rfl rfl rfl ?_
        cases h
        exact aw_iret (pc := 55) rfl dX11_count_55
      · rw [if_neg hc2] at h
        by_cases hc3 : x1 = 3
        · rw [if_pos hc3] at h
          refine aw_tabIn (pc := 1) (tgt := 56) (off := 55) dX11_count_1 (by omega) (by omega) (by rw [hc3]; rfl) (by decide) ?_
          refine aw_aload_n (pc := 56) (q := 0) dX11_count_56 rfl ?_
          refine aw_getf (pc := 57) (v := .inr (.inr 41)) dX11_count_57 fl_RX11_84 (by decide) rfl rfl rfl ?_
          refine aw_getf (pc := 60) (v := .inl (w 41 4)) dX11_count_60 fl_RX11_132 (by decide) rfl rfl rfl ?_
          cases h
          exact aw_iret (pc := 63) rfl dX11_count_63
        · rw [if_neg hc3] at h
          refine aw_tabOut (pc := 1) (tgt := 64) dX11_count_1 (by omega) (by decide) ?_
          refine aw_ldc (pc := 64) (x := (-1000000)) dX11_count_64 cn_RX11_165 ⟨by decide, by decide⟩ ?_
          cases h
          exact aw_iret (pc := 66) rfl dX11_count_66
theorem dX8_bestBid_0 : decode cX8_bestBid 0 = .ok (.aload_n 0, 1) := by decide +kernel
theorem dX8_bestBid_1 : decode cX8_bestBid 1 = .ok (.getfield 18, 3) := by decide +kernel
theorem dX8_bestBid_4 : decode cX8_bestBid 4 = .ok (.iload_n 1, 1) := by decide +kernel
theorem dX8_bestBid_5 : decode cX8_bestBid 5 = .ok (.iaload, 1) := by decide +kernel
theorem dX8_bestBid_6 : decode cX8_bestBid 6 = .ok (.istore_n 2, 1) := by decide +kernel
theorem dX8_bestBid_7 : decode cX8_bestBid 7 = .ok (.iconst 0, 1) := by decide +kernel
theorem dX8_bestBid_8 : decode cX8_bestBid 8 = .ok (.istore_n 3, 1) := by decide +kernel
theorem dX8_bestBid_9 : decode cX8_bestBid 9 = .ok (.iconst 0, 1) := by decide +kernel
theorem dX8_bestBid_10 : decode cX8_bestBid 10 = .ok (.istore 4, 2) := by decide +kernel
theorem dX8_bestBid_12 : decode cX8_bestBid 12 = .ok (.iload 4, 2) := by decide +kernel
theorem dX8_bestBid_14 : decode cX8_bestBid 14 = .ok (.aload_n 0, 1) := by decide +kernel
theorem dX8_bestBid_15 : decode cX8_bestBid 15 = .ok (.getfield 22, 3) := by decide +kernel
theorem dX8_bestBid_18 : decode cX8_bestBid 18 = .ok (.getfield 36, 3) := by decide +kernel
theorem dX8_bestBid_21 : decode cX8_bestBid 21 = .ok (.iconst 4, 1) := by decide +kernel
theorem dX8_bestBid_22 : decode cX8_bestBid 22 = .ok (.iaload, 1) := by decide +kernel
theorem dX8_bestBid_23 : decode cX8_bestBid 23 = .ok (.if_icmp .gt 51, 3) := by decide +kernel
theorem dX8_bestBid_26 : decode cX8_bestBid 26 = .ok (.aload_n 0, 1) := by decide +kernel
theorem dX8_bestBid_27 : decode cX8_bestBid 27 = .ok (.getfield 18, 3) := by decide +kernel
theorem dX8_bestBid_30 : decode cX8_bestBid 30 = .ok (.iload_n 1, 1) := by decide +kernel
theorem dX8_bestBid_31 : decode cX8_bestBid 31 = .ok (.iload 4, 2) := by decide +kernel
theorem dX8_bestBid_33 : decode cX8_bestBid 33 = .ok (.iastore, 1) := by decide +kernel
theorem dX8_bestBid_34 : decode cX8_bestBid 34 = .ok (.aload_n 0, 1) := by decide +kernel
theorem dX8_bestBid_35 : decode cX8_bestBid 35 = .ok (.invokevirtual 80, 3) := by decide +kernel
theorem dX8_bestBid_38 : decode cX8_bestBid 38 = .ok (.aload_n 0, 1) := by decide +kernel
theorem dX8_bestBid_39 : decode cX8_bestBid 39 = .ok (.iload_n 1, 1) := by decide +kernel
theorem dX8_bestBid_40 : decode cX8_bestBid 40 = .ok (.invokevirtual 83, 3) := by decide +kernel
theorem dX8_bestBid_43 : decode cX8_bestBid 43 = .ok (.istore 5, 2) := by decide +kernel
theorem dX8_bestBid_45 : decode cX8_bestBid 45 = .ok (.iload 4, 2) := by decide +kernel
theorem dX8_bestBid_47 : decode cX8_bestBid 47 = .ok (.ifCond .eq 12, 3) := by decide +kernel
theorem dX8_bestBid_50 : decode cX8_bestBid 50 = .ok (.iload 5, 2) := by decide +kernel
theorem dX8_bestBid_52 : decode cX8_bestBid 52 = .ok (.aload_n 0, 1) := by decide +kernel
theorem dX8_bestBid_53 : decode cX8_bestBid 53 = .ok (.getfield 86, 3) := by decide +kernel
theorem dX8_bestBid_56 : decode cX8_bestBid 56 = .ok (.if_icmp .le 12, 3) := by decide +kernel
theorem dX8_bestBid_59 : decode cX8_bestBid 59 = .ok (.aload_n 0, 1) := by decide +kernel
theorem dX8_bestBid_60 : decode cX8_bestBid 60 = .ok (.iload 5, 2) := by decide +kernel
theorem dX8_bestBid_62 : decode cX8_bestBid 62 = .ok (.putfield 86, 3) := by decide +kernel
theorem dX8_bestBid_65 : decode cX8_bestBid 65 = .ok (.iload 4, 2) := by decide +kernel
theorem dX8_bestBid_67 : decode cX8_bestBid 67 = .ok (.istore_n 3, 1) := by decide +kernel
theorem dX8_bestBid_68 : decode cX8_bestBid 68 = .ok (.iinc 4 1, 3) := by decide +kernel
theorem dX8_bestBid_71 : decode cX8_bestBid 71 = .ok (.goto (-59), 3) := by decide +kernel
theorem dX8_bestBid_74 : decode cX8_bestBid 74 = .ok (.aload_n 0, 1) := by decide +kernel
theorem dX8_bestBid_75 : decode cX8_bestBid 75 = .ok (.getfield 18, 3) := by decide +kernel
theorem dX8_bestBid_78 : decode cX8_bestBid 78 = .ok (.iload_n 1, 1) := by decide +kernel
theorem dX8_bestBid_79 : decode cX8_bestBid 79 = .ok (.iload_n 2, 1) := by decide +kernel
theorem dX8_bestBid_80 : decode cX8_bestBid 80 = .ok (.iastore, 1) := by decide +kernel
theorem dX8_bestBid_81 : decode cX8_bestBid 81 = .ok (.iload_n 3, 1) := by decide +kernel
theorem dX8_bestBid_82 : decode cX8_bestBid 82 = .ok (.ireturn, 1) := by decide +kernel
def x_Sale_bestBid_74 (N : Nat) (x1 x2 x3 : Int) (w : aw_W) : Option (Int × aw_W) :=
  if 0 ≤ x1 ∧ x1 < 6 then
    some (x3, (aw_up w 21 x1.toNat x2))
  else none
theorem w_x_Sale_bestBid_74 {l : Launch} {K : aw_K} (N d : Nat) (hd : 2 ≤ d) : ∀ (x1 x2 x3 : Int) (w : aw_W) (y : Int) (v : aw_W), x_Sale_bestBid_74 N x1 x2 x3 w = some (y, v) → aw_AW l K MX8_bestBid (d + 1) 74 [(0, .inr (.inr 17)), (1, .inl x1), (2, .inl x2), (3, .inl x3)] [] w (some (.inl y), v) := by
  intro x1 x2 x3 w y v h
  unfold x_Sale_bestBid_74 at h
  refine aw_aload_n (pc := 74) (q := 0) dX8_bestBid_74 rfl ?_
  refine aw_getf (pc := 75) (v := .inr (.inr 21)) dX8_bestBid_75 fl_RX8_18 (by decide) rfl rfl rfl ?_
  refine aw_iload_n (pc := 78) (q := 1) dX8_bestBid_78 rfl ?_
  refine aw_iload_n (pc := 79) (q := 2) dX8_bestBid_79 rfl ?_
  obtain ⟨hb, h⟩ := aw_cks h
  refine aw_iast (pc := 80) dX8_bestBid_80 rfl hb.1 hb.2 ?_
  refine aw_iload_n (pc := 81) (q := 3) dX8_bestBid_81 rfl ?_
  cases h
  exact aw_iret (pc := 82) rfl dX8_bestBid_82
def x_Sale_bestBid_68 (N : Nat) (k12 : Int → Int → Int → Int → aw_W → Option (Int × aw_W)) (x1 x2 x3 x4 : Int) (w : aw_W) : Option (Int × aw_W) :=
  k12 x1 x2 x3 (aw_w (x4 + 1)) w
theorem w_x_Sale_bestBid_68 {l : Launch} {K : aw_K} (N d : Nat) (hd : 2 ≤ d) (k12 : Int → Int → Int → Int → aw_W → Option (Int × aw_W)) (hk12 : ∀ (x1 x2 x3 x4 : Int) (w : aw_W) (y : Int) (v : aw_W), k12 x1 x2 x3 x4 w = some (y, v) → aw_AW l K MX8_bestBid (d + 1) 12 [(0, .inr (.inr 17)), (1, .inl x1), (2, .inl x2), (3, .inl x3), (4, .inl x4)] [] w (some (.inl y), v)) : ∀ (x1 x2 x3 x4 : Int) (w : aw_W) (y : Int) (v : aw_W), x_Sale_bestBid_68 N k12 x1 x2 x3 x4 w = some (y, v) → aw_AW l K MX8_bestBid (d + 1) 68 [(0, .inr (.inr 17)), (1, .inl x1), (2, .inl x2), (3, .inl x3), (4, .inl x4)] [] w (some (.inl y), v) := by
  intro x1 x2 x3 x4 w y v h
  unfold x_Sale_bestBid_68 at h
  refine aw_iinc (pc := 68) (q := 4) (ls' := [(4, .inl (aw_w (x4 + 1))), (0, .inr (.inr 17)), (1, .inl x1), (2, .inl x2), (3, .inl x3)]) dX8_bestBid_68 rfl (by decide) rfl ?_
  refine aw_goto (pc := 71) (tgt := 12) dX8_bestBid_71 (by decide) ?_
  exact aw_sel [1, 2, 3, 4, 0] rfl (hk12 _ _ _ _ _ _ _ h)
def x_Sale_bestBid_59 (N : Nat) (k12 : Int → Int → Int → Int → aw_W → Option (Int × aw_W)) (x1 x2 x4 x5 : Int) (w : aw_W) : Option (Int × aw_W) :=
  x_Sale_bestBid_68 N k12 x1 x2 x4 x4 (aw_up w 17 7 x5)
theorem w_x_Sale_bestBid_59 {l : Launch} {K : aw_K} (N d : Nat) (hd : 2 ≤ d) (k12 : Int → Int → Int → Int → aw_W → Option (Int × aw_W)) (hk12 : ∀ (x1 x2 x3 x4 : Int) (w : aw_W) (y : Int) (v : aw_W), k12 x1 x2 x3 x4 w = some (y, v) → aw_AW l K MX8_bestBid (d + 1) 12 [(0, .inr (.inr 17)), (1, .inl x1), (2, .inl x2), (3, .inl x3), (4, .inl x4)] [] w (some (.inl y), v)) : ∀ (x1 x2 x4 x5 : Int) (w : aw_W) (y : Int) (v : aw_W), x_Sale_bestBid_59 N k12 x1 x2 x4 x5 w = some (y, v) → aw_AW l K MX8_bestBid (d + 1) 59 [(0, .inr (.inr 17)), (1, .inl x1), (2, .inl x2), (4, .inl x4), (5, .inl x5)] [] w (some (.inl y), v) := by
  intro x1 x2 x4 x5 w y v h
  unfold x_Sale_bestBid_59 at h
  refine aw_aload_n (pc := 59) (q := 0) dX8_bestBid_59 rfl ?_
  refine aw_iload (pc := 60) (q := 4) dX8_bestBid_60 rfl ?_
  refine aw_puti (pc := 62) dX8_bestBid_62 fp_RX8_86 (by decide) rfl rfl ?_
  refine aw_iload (pc := 65) (q := 3) dX8_bestBid_65 rfl ?_
  refine aw_istore_n (pc := 67) (ls' := [(3, .inl x4), (0, .inr (.inr 17)), (1, .inl x1), (2, .inl x2), (4, .inl x4), (5, .inl x5)]) dX8_bestBid_67 (by decide) rfl ?_
  exact aw_sel [1, 2, 3, 0, 4] rfl (w_x_Sale_bestBid_68 N d hd  _ hk12 _ _ _ _ _ _ _ h)
def x_Sale_bestBid_12 (N : Nat) : Nat → Int → Int → Int → Int → aw_W → Option (Int × aw_W)
  | 0, _, _, _, _, _ => none
  | n + 1, x1, x2, x3, x4, w =>
    if (w 5 4) < x4 then
      x_Sale_bestBid_74 N x1 x2 x3 w
    else
      if 0 ≤ x1 ∧ x1 < 6 then
        aw_b1 (x_Sale_settle N (aw_up w 21 x1.toNat x4)) fun w1 =>
          aw_b2 (x_Sale_gainOf N x1 w1) fun r2 w2 =>
            if x4 = 0 then
              x_Sale_bestBid_59 N (x_Sale_bestBid_12 N n) x1 x2 x4 r2 w2
            else
              if r2 ≤ (w2 17 7) then
                x_Sale_bestBid_68 N (x_Sale_bestBid_12 N n) x1 x2 x3 x4 w2
              else
                x_Sale_bestBid_59 N (x_Sale_bestBid_12 N n) x1 x2 x4 r2 w2
      else none
theorem w_x_Sale_bestBid_12 {l : Launch} {K : aw_K} (N d : Nat) (hd : 2 ≤ d) : ∀ (n : Nat) (x1 x2 x3 x4 : Int) (w : aw_W) (y : Int) (v : aw_W), x_Sale_bestBid_12 N n x1 x2 x3 x4 w = some (y, v) → aw_AW l K MX8_bestBid (d + 1) 12 [(0, .inr (.inr 17)), (1, .inl x1), (2, .inl x2), (3, .inl x3), (4, .inl x4)] [] w (some (.inl y), v) := by
  intro n
  induction n with
  | zero => intro x1 x2 x3 x4 w y v h; rw [x_Sale_bestBid_12] at h; cases h
  | succ n ih =>
    intro x1 x2 x3 x4 w y v h
    rw [x_Sale_bestBid_12] at h
    refine aw_iload (pc := 12) (q := 4) dX8_bestBid_12 rfl ?_
    refine aw_aload_n (pc := 14) (q := 0) dX8_bestBid_14 rfl ?_
    refine aw_getf (pc := 15) (v := .inr (.inr 3)) dX8_bestBid_15 fl_RX8_22 (by decide) rfl rfl rfl ?_
    refine aw_getf (pc := 18) (v := .inr (.inr 5)) dX8_bestBid_18 fl_RX8_36 (by decide) rfl rfl rfl ?_
    refine aw_iconst (pc := 21) dX8_bestBid_21 ⟨by decide, by decide⟩ ?_
    refine aw_ialdv (pc := 22) (v := w 5 4) dX8_bestBid_22 rfl (by decide) (by decide) rfl ?_
    refine aw_icmp_gt (pc := 23) (tgt := 74) dX8_bestBid_23 (by decide) (fun hc => ?_) (fun hc => ?_)
    · rw [if_pos hc] at h
      exact aw_sel [0, 1, 2, 3] rfl (w_x_Sale_bestBid_74 N d hd  _ _ _ _ _ _ h)
    · rw [if_neg hc] at h
      refine aw_aload_n (pc := 26) (q := 0) dX8_bestBid_26 rfl ?_
      refine aw_getf (pc := 27) (v := .inr (.inr 21)) dX8_bestBid_27 fl_RX8_18 (by decide) rfl rfl rfl ?_
      refine aw_iload_n (pc := 30) (q := 1) dX8_bestBid_30 rfl ?_
      refine aw_iload (pc := 31) (q := 4) dX8_bestBid_31 rfl ?_
      obtain ⟨hb, h⟩ := aw_cks h
      refine aw_iast (pc := 33) dX8_bestBid_33 rfl hb.1 hb.2 ?_
      refine aw_aload_n (pc := 34) (q := 0) dX8_bestBid_34 rfl ?_
      obtain ⟨w1, h1, h⟩ := aw_b1s h
      refine aw_callV (pc := 35) (as := []) (st := []) (st' := []) dX8_bestBid_35 cv_RX8_80 (by decide) rfl rfl rfl rfl (Nat.le_of_ble_eq_true rfl) (w_x_Sale_settle N d (by omega) _ _ h1) rfl ?_
      refine aw_aload_n (pc := 38) (q := 0) dX8_bestBid_38 rfl ?_
      refine aw_iload_n (pc := 39) (q := 1) dX8_bestBid_39 rfl ?_
      obtain ⟨r2, w2, h2, h⟩ := aw_b2s h
      refine aw_callV (pc := 40) (as := [.inl x1]) (st := []) (st' := [.inl r2]) dX8_bestBid_40 cv_RX8_83 (by decide) rfl rfl rfl rfl (Nat.le_of_ble_eq_true rfl) (w_x_Sale_gainOf N d (by omega) _ _ _ _ h2) rfl ?_
      refine aw_istore (pc := 43) (ls' := [(5, .inl r2), (0, .inr (.inr 17)), (1, .inl x1), (2, .inl x2), (3, .inl x3), (4, .inl x4)]) dX8_bestBid_43 (by decide) rfl ?_
      refine aw_iload (pc := 45) (q := 5) dX8_bestBid_45 rfl ?_
      refine aw_if_eq (pc := 47) (tgt := 59) dX8_bestBid_47 (by decide) (fun hc => ?_) (fun hc => ?_)
      · rw [if_pos hc] at h
        exact aw_sel [1, 2, 3, 5, 0] rfl (w_x_Sale_bestBid_59 N d hd  _ ih _ _ _ _ _ _ _ h)
      · rw [if_neg hc] at h
        refine aw_iload (pc := 50) (q := 0) dX8_bestBid_50 rfl ?_
        refine aw_aload_n (pc := 52) (q := 1) dX8_bestBid_52 rfl ?_
        refine aw_getf (pc := 53) (v := .inl (w2 17 7)) dX8_bestBid_53 fl_RX8_86 (by decide) rfl rfl rfl ?_
        refine aw_icmp_le (pc := 56) (tgt := 68) dX8_bestBid_56 (by decide) (fun hc => ?_) (fun hc => ?_)
        · rw [if_pos hc] at h
          exact aw_sel [1, 2, 3, 4, 5] rfl (w_x_Sale_bestBid_68 N d hd  _ ih _ _ _ _ _ _ _ h)
        · rw [if_neg hc] at h
          exact aw_sel [1, 2, 3, 5, 0] rfl (w_x_Sale_bestBid_59 N d hd  _ ih _ _ _ _ _ _ _ h)
def x_Sale_bestBid (N : Nat) (x1 : Int) (w : aw_W) : Option (Int × aw_W) :=
  if 0 ≤ x1 ∧ x1 < 6 then
    x_Sale_bestBid_12 N N x1 (w 21 x1.toNat) 0 0 w
  else none
theorem w_x_Sale_bestBid_d {l : Launch} {K : aw_K} (N d : Nat) (hd : 2 ≤ d) : ∀ (x1 : Int) (w : aw_W) (y : Int) (v : aw_W), x_Sale_bestBid N x1 w = some (y, v) → aw_Met l K MX8_bestBid (d + 1) [.inr (.inr 17), .inl x1] w (some (.inl y), v) := by
  intro x1 w y v h
  unfold x_Sale_bestBid at h
  refine aw_enter rfl (Nat.le_of_ble_eq_true rfl) ?_
  show aw_AW l K MX8_bestBid (d + 1) 0 [(0, .inr (.inr 17)), (1, .inl x1)] [] w (some (.inl y), v)
  refine aw_aload_n (pc := 0) (q := 0) dX8_bestBid_0 rfl ?_
  refine aw_getf (pc := 1) (v := .inr (.inr 21)) dX8_bestBid_1 fl_RX8_18 (by decide) rfl rfl rfl ?_
  refine aw_iload_n (pc := 4) (q := 1) dX8_bestBid_4 rfl ?_
  obtain ⟨hb, h⟩ := aw_cks h
  refine aw_ialdv (pc := 5) (v := w 21 x1.toNat) dX8_bestBid_5 rfl hb.1 hb.2 rfl ?_
  refine aw_istore_n (pc := 6) (ls' := [(2, .inl (w 21 x1.toNat)), (0, .inr (.inr 17)), (1, .inl x1)]) dX8_bestBid_6 (by decide) rfl ?_
  refine aw_iconst (pc := 7) dX8_bestBid_7 ⟨by decide, by decide⟩ ?_
  refine aw_istore_n (pc := 8) (ls' := [(3, .inl 0), (2, .inl (w 21 x1.toNat)), (0, .inr (.inr 17)), (1, .inl x1)]) dX8_bestBid_8 (by decide) rfl ?_
  refine aw_iconst (pc := 9) dX8_bestBid_9 ⟨by decide, by decide⟩ ?_
  refine aw_istore (pc := 10) (ls' := [(4, .inl 0), (3, .inl 0), (2, .inl (w 21 x1.toNat)), (0, .inr (.inr 17)), (1, .inl x1)]) dX8_bestBid_10 (by decide) rfl ?_
  exact aw_sel [3, 4, 2, 1, 0] rfl (w_x_Sale_bestBid_12 N d hd  N _ _ _ _ _ _ _ h)
theorem w_x_Sale_bestBid {l : Launch} {K : aw_K} (N d : Nat) (hd : 3 ≤ d) : ∀ (x1 : Int) (w : aw_W) (y : Int) (v : aw_W), x_Sale_bestBid N x1 w = some (y, v) → aw_Met l K MX8_bestBid (d) [.inr (.inr 17), .inl x1] w (some (.inl y), v) := by
  obtain ⟨e, rfl⟩ : ∃ e, d = e + 1 := ⟨d - 1, by omega⟩
  exact w_x_Sale_bestBid_d N e (by omega)
theorem dX4_better_0 : decode cX4_better 0 = .ok (.aload_n 0, 1) := by decide +kernel
theorem dX4_better_1 : decode cX4_better 1 = .ok (.iconst (-1), 1) := by decide +kernel
theorem dX4_better_2 : decode cX4_better 2 = .ok (.putfield 19, 3) := by decide +kernel
theorem dX4_better_5 : decode cX4_better 5 = .ok (.aload_n 0, 1) := by decide +kernel
theorem dX4_better_6 : decode cX4_better 6 = .ok (.iconst (-1), 1) := by decide +kernel
theorem dX4_better_7 : decode cX4_better 7 = .ok (.putfield 23, 3) := by decide +kernel
theorem dX4_better_10 : decode cX4_better 10 = .ok (.aload_n 0, 1) := by decide +kernel
theorem dX4_better_11 : decode cX4_better 11 = .ok (.iconst 0, 1) := by decide +kernel
theorem dX4_better_12 : decode cX4_better 12 = .ok (.putfield 26, 3) := by decide +kernel
theorem dX4_better_15 : decode cX4_better 15 = .ok (.iconst 0, 1) := by decide +kernel
theorem dX4_better_16 : decode cX4_better 16 = .ok (.istore_n 2, 1) := by decide +kernel
theorem dX4_better_17 : decode cX4_better 17 = .ok (.iload_n 2, 1) := by decide +kernel
theorem dX4_better_18 : decode cX4_better 18 = .ok (.aload_n 0, 1) := by decide +kernel
theorem dX4_better_19 : decode cX4_better 19 = .ok (.getfield 9, 3) := by decide +kernel
theorem dX4_better_22 : decode cX4_better 22 = .ok (.getfield 29, 3) := by decide +kernel
theorem dX4_better_25 : decode cX4_better 25 = .ok (.if_icmp .ge 88, 3) := by decide +kernel
theorem dX4_better_28 : decode cX4_better 28 = .ok (.iload_n 1, 1) := by decide +kernel
theorem dX4_better_29 : decode cX4_better 29 = .ok (.iload_n 2, 1) := by decide +kernel
theorem dX4_better_30 : decode cX4_better 30 = .ok (.ishr, 1) := by decide +kernel
theorem dX4_better_31 : decode cX4_better 31 = .ok (.iconst 1, 1) := by decide +kernel
theorem dX4_better_32 : decode cX4_better 32 = .ok (.iand, 1) := by decide +kernel
theorem dX4_better_33 : decode cX4_better 33 = .ok (.ifCond .ne 6, 3) := by decide +kernel
theorem dX4_better_36 : decode cX4_better 36 = .ok (.goto 71, 3) := by decide +kernel
theorem dX4_better_39 : decode cX4_better 39 = .ok (.aload_n 0, 1) := by decide +kernel
theorem dX4_better_40 : decode cX4_better 40 = .ok (.getfield 15, 3) := by decide +kernel
theorem dX4_better_43 : decode cX4_better 43 = .ok (.iload_n 2, 1) := by decide +kernel
theorem dX4_better_44 : decode cX4_better 44 = .ok (.aload_n 0, 1) := by decide +kernel
theorem dX4_better_45 : decode cX4_better 45 = .ok (.getfield 15, 3) := by decide +kernel
theorem dX4_better_48 : decode cX4_better 48 = .ok (.getfield 34, 3) := by decide +kernel
theorem dX4_better_51 : decode cX4_better 51 = .ok (.iload_n 2, 1) := by decide +kernel
theorem dX4_better_52 : decode cX4_better 52 = .ok (.iaload, 1) := by decide +kernel
theorem dX4_better_53 : decode cX4_better 53 = .ok (.invokevirtual 40, 3) := by decide +kernel
theorem dX4_better_56 : decode cX4_better 56 = .ok (.istore_n 3, 1) := by decide +kernel
theorem dX4_better_57 : decode cX4_better 57 = .ok (.aload_n 0, 1) := by decide +kernel
theorem dX4_better_58 : decode cX4_better 58 = .ok (.getfield 15, 3) := by decide +kernel
theorem dX4_better_61 : decode cX4_better 61 = .ok (.iload_n 2, 1) := by decide +kernel
theorem dX4_better_62 : decode cX4_better 62 = .ok (.invokevirtual 44, 3) := by decide +kernel
theorem dX4_better_65 : decode cX4_better 65 = .ok (.istore 4, 2) := by decide +kernel
theorem dX4_better_67 : decode cX4_better 67 = .ok (.aload_n 0, 1) := by decide +kernel
theorem dX4_better_68 : decode cX4_better 68 = .ok (.getfield 15, 3) := by decide +kernel
theorem dX4_better_71 : decode cX4_better 71 = .ok (.getfield 48, 3) := by decide +kernel
theorem dX4_better_74 : decode cX4_better 74 = .ok (.iload_n 3, 1) := by decide +kernel
theorem dX4_better_75 : decode cX4_better 75 = .ok (.isub, 1) := by decide +kernel
theorem dX4_better_76 : decode cX4_better 76 = .ok (.aload_n 0, 1) := by decide +kernel
theorem dX4_better_77 : decode cX4_better 77 = .ok (.getfield 26, 3) := by decide +kernel
theorem dX4_better_80 : decode cX4_better 80 = .ok (.if_icmp .le 27, 3) := by decide +kernel
theorem dX4_better_83 : decode cX4_better 83 = .ok (.aload_n 0, 1) := by decide +kernel
theorem dX4_better_84 : decode cX4_better 84 = .ok (.iload_n 2, 1) := by decide +kernel
theorem dX4_better_85 : decode cX4_better 85 = .ok (.putfield 19, 3) := by decide +kernel
theorem dX4_better_88 : decode cX4_better 88 = .ok (.aload_n 0, 1) := by decide +kernel
theorem dX4_better_89 : decode cX4_better 89 = .ok (.iload 4, 2) := by decide +kernel
theorem dX4_better_91 : decode cX4_better 91 = .ok (.putfield 23, 3) := by decide +kernel
theorem dX4_better_94 : decode cX4_better 94 = .ok (.aload_n 0, 1) := by decide +kernel
theorem dX4_better_95 : decode cX4_better 95 = .ok (.aload_n 0, 1) := by decide +kernel
theorem dX4_better_96 : decode cX4_better 96 = .ok (.getfield 15, 3) := by decide +kernel
theorem dX4_better_99 : decode cX4_better 99 = .ok (.getfield 48, 3) := by decide +kernel
theorem dX4_better_102 : decode cX4_better 102 = .ok (.iload_n 3, 1) := by decide +kernel
theorem dX4_better_103 : decode cX4_better 103 = .ok (.isub, 1) := by decide +kernel
theorem dX4_better_104 : decode cX4_better 104 = .ok (.putfield 26, 3) := by decide +kernel
theorem dX4_better_107 : decode cX4_better 107 = .ok (.iinc 2 1, 3) := by decide +kernel
theorem dX4_better_110 : decode cX4_better 110 = .ok (.goto (-93), 3) := by decide +kernel
theorem dX4_better_113 : decode cX4_better 113 = .ok (.return_, 1) := by decide +kernel
def x_Replies_better_113 (N : Nat) (w : aw_W) : Option (aw_W) :=
  some w
theorem w_x_Replies_better_113 {l : Launch} {K : aw_K} (N d : Nat) (hd : 3 ≤ d) : ∀ (w v : aw_W), x_Replies_better_113 N w = some v → aw_AW l K MX4_better (d + 1) 113 [] [] w (none, v) := by
  intro w v h
  unfold x_Replies_better_113 at h
  cases h
  exact aw_vret (pc := 113) rfl dX4_better_113
def x_Replies_better_107 (N : Nat) (k17 : Int → Int → aw_W → Option (aw_W)) (x1 x2 : Int) (w : aw_W) : Option (aw_W) :=
  k17 x1 (aw_w (x2 + 1)) w
theorem w_x_Replies_better_107 {l : Launch} {K : aw_K} (N d : Nat) (hd : 3 ≤ d) (k17 : Int → Int → aw_W → Option (aw_W)) (hk17 : ∀ (x1 x2 : Int) (w v : aw_W), k17 x1 x2 w = some v → aw_AW l K MX4_better (d + 1) 17 [(0, .inr (.inr 22)), (1, .inl x1), (2, .inl x2)] [] w (none, v)) : ∀ (x1 x2 : Int) (w v : aw_W), x_Replies_better_107 N k17 x1 x2 w = some v → aw_AW l K MX4_better (d + 1) 107 [(0, .inr (.inr 22)), (1, .inl x1), (2, .inl x2)] [] w (none, v) := by
  intro x1 x2 w v h
  unfold x_Replies_better_107 at h
  refine aw_iinc (pc := 107) (q := 2) (ls' := [(2, .inl (aw_w (x2 + 1))), (0, .inr (.inr 22)), (1, .inl x1)]) dX4_better_107 rfl (by decide) rfl ?_
  refine aw_goto (pc := 110) (tgt := 17) dX4_better_110 (by decide) ?_
  exact aw_sel [1, 2, 0] rfl (hk17 _ _ _ _ h)
def x_Replies_better_17 (N : Nat) : Nat → Int → Int → aw_W → Option (aw_W)
  | 0, _, _, _ => none
  | n + 1, x1, x2, w =>
    if (w 3 4) ≤ x2 then
      x_Replies_better_113 N w
    else
      if (aw_and (aw_shr x1 x2) 1) = 0 then
        x_Replies_better_107 N (x_Replies_better_17 N n) x1 x2 w
      else
        if 0 ≤ x2 ∧ x2 < 6 then
          aw_b2 (x_Sale_gainWith N x2 (w 21 x2.toNat) w) fun r1 w1 =>
            aw_b2 (x_Sale_bestBid N x2 w1) fun r2 w2 =>
              if (aw_w ((w2 17 7) - r1)) ≤ (w2 22 4) then
                x_Replies_better_107 N (x_Replies_better_17 N n) x1 x2 w2
              else
                x_Replies_better_107 N (x_Replies_better_17 N n) x1 x2 (aw_up (aw_up (aw_up w2 22 2 x2) 22 3 r2) 22 4 (aw_w ((w2 17 7) - r1)))
        else none
theorem w_x_Replies_better_17 {l : Launch} {K : aw_K} (N d : Nat) (hd : 3 ≤ d) : ∀ (n : Nat) (x1 x2 : Int) (w v : aw_W), x_Replies_better_17 N n x1 x2 w = some v → aw_AW l K MX4_better (d + 1) 17 [(0, .inr (.inr 22)), (1, .inl x1), (2, .inl x2)] [] w (none, v) := by
  intro n
  induction n with
  | zero => intro x1 x2 w v h; rw [x_Replies_better_17] at h; cases h
  | succ n ih =>
    intro x1 x2 w v h
    rw [x_Replies_better_17] at h
    refine aw_iload_n (pc := 17) (q := 2) dX4_better_17 rfl ?_
    refine aw_aload_n (pc := 18) (q := 0) dX4_better_18 rfl ?_
    refine aw_getf (pc := 19) (v := .inr (.inr 3)) dX4_better_19 fl_RX4_9 (by decide) rfl rfl rfl ?_
    refine aw_getf (pc := 22) (v := .inl (w 3 4)) dX4_better_22 fl_RX4_29 (by decide) rfl rfl rfl ?_
    refine aw_icmp_ge (pc := 25) (tgt := 113) dX4_better_25 (by decide) (fun hc => ?_) (fun hc => ?_)
    · rw [if_pos hc] at h
      exact aw_sel [] rfl (w_x_Replies_better_113 N d hd  _ _ h)
    · rw [if_neg hc] at h
      refine aw_iload_n (pc := 28) (q := 1) dX4_better_28 rfl ?_
      refine aw_iload_n (pc := 29) (q := 2) dX4_better_29 rfl ?_
      refine aw_ishr (pc := 30) dX4_better_30 ?_
      refine aw_iconst (pc := 31) dX4_better_31 ⟨by decide, by decide⟩ ?_
      refine aw_iand (pc := 32) dX4_better_32 ?_
      refine aw_if_ne (pc := 33) (tgt := 39) dX4_better_33 (by decide) (fun hc => ?_) (fun hc => ?_)
      · rw [if_neg hc] at h
        refine aw_aload_n (pc := 39) (q := 0) dX4_better_39 rfl ?_
        refine aw_getf (pc := 40) (v := .inr (.inr 17)) dX4_better_40 fl_RX4_15 (by decide) rfl rfl rfl ?_
        refine aw_iload_n (pc := 43) (q := 2) dX4_better_43 rfl ?_
        refine aw_aload_n (pc := 44) (q := 0) dX4_better_44 rfl ?_
        refine aw_getf (pc := 45) (v := .inr (.inr 17)) dX4_better_45 fl_RX4_15 (by decide) rfl rfl rfl ?_
        refine aw_getf (pc := 48) (v := .inr (.inr 21)) dX4_better_48 fl_RX4_34 (by decide) rfl rfl rfl ?_
        refine aw_iload_n (pc := 51) (q := 2) dX4_better_51 rfl ?_
        obtain ⟨hb, h⟩ := aw_cks h
        refine aw_ialdv (pc := 52) (v := w 21 x2.toNat) dX4_better_52 rfl hb.1 hb.2 rfl ?_
        obtain ⟨r1, w1, h1, h⟩ := aw_b2s h
        refine aw_callV (pc := 53) (as := [.inl x2, .inl (w 21 x2.toNat)]) (st := []) (st' := [.inl r1]) dX4_better_53 cv_RX4_40 (by decide) rfl rfl rfl rfl (Nat.le_of_ble_eq_true rfl) (w_x_Sale_gainWith N d (by omega) _ _ _ _ _ h1) rfl ?_
        refine aw_istore_n (pc := 56) (ls' := [(3, .inl r1), (0, .inr (.inr 22)), (1, .inl x1), (2, .inl x2)]) dX4_better_56 (by decide) rfl ?_
        refine aw_aload_n (pc := 57) (q := 1) dX4_better_57 rfl ?_
        refine aw_getf (pc := 58) (v := .inr (.inr 17)) dX4_better_58 fl_RX4_15 (by decide) rfl rfl rfl ?_
        refine aw_iload_n (pc := 61) (q := 3) dX4_better_61 rfl ?_
        obtain ⟨r2, w2, h2, h⟩ := aw_b2s h
        refine aw_callV (pc := 62) (as := [.inl x2]) (st := []) (st' := [.inl r2]) dX4_better_62 cv_RX4_44 (by decide) rfl rfl rfl rfl (Nat.le_of_ble_eq_true rfl) (w_x_Sale_bestBid N d (by omega) _ _ _ _ h2) rfl ?_
        refine aw_istore (pc := 65) (ls' := [(4, .inl r2), (3, .inl r1), (0, .inr (.inr 22)), (1, .inl x1), (2, .inl x2)]) dX4_better_65 (by decide) rfl ?_
        refine aw_aload_n (pc := 67) (q := 2) dX4_better_67 rfl ?_
        refine aw_getf (pc := 68) (v := .inr (.inr 17)) dX4_better_68 fl_RX4_15 (by decide) rfl rfl rfl ?_
        refine aw_getf (pc := 71) (v := .inl (w2 17 7)) dX4_better_71 fl_RX4_48 (by decide) rfl rfl rfl ?_
        refine aw_iload_n (pc := 74) (q := 1) dX4_better_74 rfl ?_
        refine aw_isub (pc := 75) dX4_better_75 ?_
        refine aw_aload_n (pc := 76) (q := 2) dX4_better_76 rfl ?_
        refine aw_getf (pc := 77) (v := .inl (w2 22 4)) dX4_better_77 fl_RX4_26 (by decide) rfl rfl rfl ?_
        refine aw_icmp_le (pc := 80) (tgt := 107) dX4_better_80 (by decide) (fun hc => ?_) (fun hc => ?_)
        · rw [if_pos hc] at h
          exact aw_sel [2, 3, 4] rfl (w_x_Replies_better_107 N d hd  _ ih _ _ _ _ h)
        · rw [if_neg hc] at h
          refine aw_aload_n (pc := 83) (q := 2) dX4_better_83 rfl ?_
          refine aw_iload_n (pc := 84) (q := 4) dX4_better_84 rfl ?_
          refine aw_puti (pc := 85) dX4_better_85 fp_RX4_19 (by decide) rfl rfl ?_
          refine aw_aload_n (pc := 88) (q := 2) dX4_better_88 rfl ?_
          refine aw_iload (pc := 89) (q := 0) dX4_better_89 rfl ?_
          refine aw_puti (pc := 91) dX4_better_91 fp_RX4_23 (by decide) rfl rfl ?_
          refine aw_aload_n (pc := 94) (q := 2) dX4_better_94 rfl ?_
          refine aw_aload_n (pc := 95) (q := 2) dX4_better_95 rfl ?_
          refine aw_getf (pc := 96) (v := .inr (.inr 17)) dX4_better_96 fl_RX4_15 (by decide) rfl rfl rfl ?_
          refine aw_getf (pc := 99) (v := .inl (w2 17 7)) dX4_better_99 fl_RX4_48 (by decide) rfl rfl rfl ?_
          refine aw_iload_n (pc := 102) (q := 1) dX4_better_102 rfl ?_
          refine aw_isub (pc := 103) dX4_better_103 ?_
          refine aw_puti (pc := 104) dX4_better_104 fp_RX4_26 (by decide) rfl rfl ?_
          exact aw_sel [2, 3, 4] rfl (w_x_Replies_better_107 N d hd  _ ih _ _ _ _ h)
      · rw [if_pos hc] at h
        refine aw_goto (pc := 36) (tgt := 107) dX4_better_36 (by decide) ?_
        exact aw_sel [0, 1, 2] rfl (w_x_Replies_better_107 N d hd  _ ih _ _ _ _ h)
def x_Replies_better (N : Nat) (x1 : Int) (w : aw_W) : Option (aw_W) :=
  x_Replies_better_17 N N x1 0 (aw_up (aw_up (aw_up w 22 2 (-1)) 22 3 (-1)) 22 4 0)
theorem w_x_Replies_better_d {l : Launch} {K : aw_K} (N d : Nat) (hd : 3 ≤ d) : ∀ (x1 : Int) (w v : aw_W), x_Replies_better N x1 w = some v → aw_Met l K MX4_better (d + 1) [.inr (.inr 22), .inl x1] w (none, v) := by
  intro x1 w v h
  unfold x_Replies_better at h
  refine aw_enter rfl (Nat.le_of_ble_eq_true rfl) ?_
  show aw_AW l K MX4_better (d + 1) 0 [(0, .inr (.inr 22)), (1, .inl x1)] [] w (none, v)
  refine aw_aload_n (pc := 0) (q := 0) dX4_better_0 rfl ?_
  refine aw_iconst (pc := 1) dX4_better_1 ⟨by decide, by decide⟩ ?_
  refine aw_puti (pc := 2) dX4_better_2 fp_RX4_19 (by decide) rfl rfl ?_
  refine aw_aload_n (pc := 5) (q := 0) dX4_better_5 rfl ?_
  refine aw_iconst (pc := 6) dX4_better_6 ⟨by decide, by decide⟩ ?_
  refine aw_puti (pc := 7) dX4_better_7 fp_RX4_23 (by decide) rfl rfl ?_
  refine aw_aload_n (pc := 10) (q := 0) dX4_better_10 rfl ?_
  refine aw_iconst (pc := 11) dX4_better_11 ⟨by decide, by decide⟩ ?_
  refine aw_puti (pc := 12) dX4_better_12 fp_RX4_26 (by decide) rfl rfl ?_
  refine aw_iconst (pc := 15) dX4_better_15 ⟨by decide, by decide⟩ ?_
  refine aw_istore_n (pc := 16) (ls' := [(2, .inl 0), (0, .inr (.inr 22)), (1, .inl x1)]) dX4_better_16 (by decide) rfl ?_
  exact aw_sel [1, 2, 0] rfl (w_x_Replies_better_17 N d hd  N _ _ _ _ h)
theorem w_x_Replies_better {l : Launch} {K : aw_K} (N d : Nat) (hd : 4 ≤ d) : ∀ (x1 : Int) (w v : aw_W), x_Replies_better N x1 w = some v → aw_Met l K MX4_better (d) [.inr (.inr 22), .inl x1] w (none, v) := by
  obtain ⟨e, rfl⟩ : ∃ e, d = e + 1 := ⟨d - 1, by omega⟩
  exact w_x_Replies_better_d N e (by omega)
