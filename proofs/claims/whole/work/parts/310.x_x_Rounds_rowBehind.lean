theorem dX6_rowBehind_0 : decode cX6_rowBehind 0 = .ok (.aload_n 0, 1) := by decide +kernel
theorem dX6_rowBehind_1 : decode cX6_rowBehind 1 = .ok (.getfield 19, 3) := by decide +kernel
theorem dX6_rowBehind_4 : decode cX6_rowBehind 4 = .ok (.iload_n 1, 1) := by decide +kernel
theorem dX6_rowBehind_5 : decode cX6_rowBehind 5 = .ok (.invokevirtual 62, 3) := by decide +kernel
theorem dX6_rowBehind_8 : decode cX6_rowBehind 8 = .ok (.pop, 1) := by decide +kernel
theorem dX6_rowBehind_9 : decode cX6_rowBehind 9 = .ok (.iconst 0, 1) := by decide +kernel
theorem dX6_rowBehind_10 : decode cX6_rowBehind 10 = .ok (.istore_n 2, 1) := by decide +kernel
theorem dX6_rowBehind_11 : decode cX6_rowBehind 11 = .ok (.iload_n 2, 1) := by decide +kernel
theorem dX6_rowBehind_12 : decode cX6_rowBehind 12 = .ok (.aload_n 0, 1) := by decide +kernel
theorem dX6_rowBehind_13 : decode cX6_rowBehind 13 = .ok (.getfield 15, 3) := by decide +kernel
theorem dX6_rowBehind_16 : decode cX6_rowBehind 16 = .ok (.getfield 23, 3) := by decide +kernel
theorem dX6_rowBehind_19 : decode cX6_rowBehind 19 = .ok (.if_icmp .ge 20, 3) := by decide +kernel
theorem dX6_rowBehind_22 : decode cX6_rowBehind 22 = .ok (.aload_n 0, 1) := by decide +kernel
theorem dX6_rowBehind_23 : decode cX6_rowBehind 23 = .ok (.getfield 9, 3) := by decide +kernel
theorem dX6_rowBehind_26 : decode cX6_rowBehind 26 = .ok (.iload_n 2, 1) := by decide +kernel
theorem dX6_rowBehind_27 : decode cX6_rowBehind 27 = .ok (.aload_n 0, 1) := by decide +kernel
theorem dX6_rowBehind_28 : decode cX6_rowBehind 28 = .ok (.iload_n 2, 1) := by decide +kernel
theorem dX6_rowBehind_29 : decode cX6_rowBehind 29 = .ok (.invokevirtual 65, 3) := by decide +kernel
theorem dX6_rowBehind_32 : decode cX6_rowBehind 32 = .ok (.iastore, 1) := by decide +kernel
theorem dX6_rowBehind_33 : decode cX6_rowBehind 33 = .ok (.iinc 2 1, 3) := by decide +kernel
theorem dX6_rowBehind_36 : decode cX6_rowBehind 36 = .ok (.goto (-25), 3) := by decide +kernel
theorem dX6_rowBehind_39 : decode cX6_rowBehind 39 = .ok (.aload_n 0, 1) := by decide +kernel
theorem dX6_rowBehind_40 : decode cX6_rowBehind 40 = .ok (.getfield 9, 3) := by decide +kernel
theorem dX6_rowBehind_43 : decode cX6_rowBehind 43 = .ok (.iconst 0, 1) := by decide +kernel
theorem dX6_rowBehind_44 : decode cX6_rowBehind 44 = .ok (.aload_n 0, 1) := by decide +kernel
theorem dX6_rowBehind_45 : decode cX6_rowBehind 45 = .ok (.getfield 19, 3) := by decide +kernel
theorem dX6_rowBehind_48 : decode cX6_rowBehind 48 = .ok (.getfield 29, 3) := by decide +kernel
theorem dX6_rowBehind_51 : decode cX6_rowBehind 51 = .ok (.iconst 0, 1) := by decide +kernel
theorem dX6_rowBehind_52 : decode cX6_rowBehind 52 = .ok (.aload_n 0, 1) := by decide +kernel
theorem dX6_rowBehind_53 : decode cX6_rowBehind 53 = .ok (.getfield 15, 3) := by decide +kernel
theorem dX6_rowBehind_56 : decode cX6_rowBehind 56 = .ok (.getfield 23, 3) := by decide +kernel
theorem dX6_rowBehind_59 : decode cX6_rowBehind 59 = .ok (.invokestatic 68, 3) := by decide +kernel
theorem dX6_rowBehind_62 : decode cX6_rowBehind 62 = .ok (.aload_n 0, 1) := by decide +kernel
theorem dX6_rowBehind_63 : decode cX6_rowBehind 63 = .ok (.getfield 19, 3) := by decide +kernel
theorem dX6_rowBehind_66 : decode cX6_rowBehind 66 = .ok (.invokevirtual 38, 3) := by decide +kernel
theorem dX6_rowBehind_69 : decode cX6_rowBehind 69 = .ok (.ireturn, 1) := by decide +kernel
def x_Rounds_rowBehind_39 (N : Nat) (w : aw_W) : Option (Int × aw_W) :=
  if (0 : Int) ≤ 0 ∧ (0 : Int) ≤ 0 ∧ (0 : Int) ≤ (w 3 4) ∧ ((0 + (w 3 4) : Int)) ≤ 6 ∧ ((0 + (w 3 4) : Int)) ≤ 6 then
    aw_b2 (x_Sale_row N (aw_cpy (w 40) w 21 0 0 ((w 3 4).toNat))) fun r1 w1 =>
      some (r1, w1)
  else none
theorem w_x_Rounds_rowBehind_39 {l : Launch} {K : aw_K} (N d : Nat) (hd : 4 ≤ d) : ∀ (w : aw_W) (y : Int) (v : aw_W), x_Rounds_rowBehind_39 N w = some (y, v) → aw_AW l K MX6_rowBehind (d + 1) 39 [(0, .inr (.inr 39))] [] w (some (.inl y), v) := by
  intro w y v h
  unfold x_Rounds_rowBehind_39 at h
  refine aw_aload_n (pc := 39) (q := 0) dX6_rowBehind_39 rfl ?_
  refine aw_getf (pc := 40) (v := .inr (.inr 40)) dX6_rowBehind_40 fl_RX6_9 (by decide) rfl rfl rfl ?_
  refine aw_iconst (pc := 43) dX6_rowBehind_43 ⟨by decide, by decide⟩ ?_
  refine aw_aload_n (pc := 44) (q := 0) dX6_rowBehind_44 rfl ?_
  refine aw_getf (pc := 45) (v := .inr (.inr 17)) dX6_rowBehind_45 fl_RX6_19 (by decide) rfl rfl rfl ?_
  refine aw_getf (pc := 48) (v := .inr (.inr 21)) dX6_rowBehind_48 fl_RX6_29 (by decide) rfl rfl rfl ?_
  refine aw_iconst (pc := 51) dX6_rowBehind_51 ⟨by decide, by decide⟩ ?_
  refine aw_aload_n (pc := 52) (q := 0) dX6_rowBehind_52 rfl ?_
  refine aw_getf (pc := 53) (v := .inr (.inr 3)) dX6_rowBehind_53 fl_RX6_15 (by decide) rfl rfl rfl ?_
  refine aw_getf (pc := 56) (v := .inl (w 3 4)) dX6_rowBehind_56 fl_RX6_23 (by decide) rfl rfl rfl ?_
  obtain ⟨hb, h⟩ := aw_cks h
  refine aw_copyW (pc := 59) dX6_rowBehind_59 cc_RX6_68 rfl rfl (by decide) (by decide) hb.1 hb.2.1 hb.2.2.1 hb.2.2.2.1 hb.2.2.2.2 (Nat.le_of_ble_eq_true rfl) ?_
  refine aw_aload_n (pc := 62) (q := 0) dX6_rowBehind_62 rfl ?_
  refine aw_getf (pc := 63) (v := .inr (.inr 17)) dX6_rowBehind_63 fl_RX6_19 (by decide) rfl rfl rfl ?_
  obtain ⟨r1, w1, h1, h⟩ := aw_b2s h
  refine aw_callV (pc := 66) (as := []) (st := []) (st' := [.inl r1]) dX6_rowBehind_66 cv_RX6_38 (by decide) rfl rfl rfl rfl (Nat.le_of_ble_eq_true rfl) (w_x_Sale_row N d (by omega) _ _ _ h1) rfl ?_
  cases h
  exact aw_iret (pc := 69) rfl dX6_rowBehind_69
def x_Rounds_rowBehind_11 (N : Nat) : Nat → Int → aw_W → Option (Int × aw_W)
  | 0, _, _ => none
  | n + 1, x2, w =>
    if (w 3 4) ≤ x2 then
      x_Rounds_rowBehind_39 N w
    else
      aw_b2 (x_Rounds_bidAnew N x2 w) fun r1 w1 =>
        if 0 ≤ x2 ∧ x2 < 6 then
          x_Rounds_rowBehind_11 N n (aw_w (x2 + 1)) (aw_up w1 40 x2.toNat r1)
        else none
theorem w_x_Rounds_rowBehind_11 {l : Launch} {K : aw_K} (N d : Nat) (hd : 4 ≤ d) : ∀ (n : Nat) (x2 : Int) (w : aw_W) (y : Int) (v : aw_W), x_Rounds_rowBehind_11 N n x2 w = some (y, v) → aw_AW l K MX6_rowBehind (d + 1) 11 [(0, .inr (.inr 39)), (2, .inl x2)] [] w (some (.inl y), v) := by
  intro n
  induction n with
  | zero => intro x2 w y v h; rw [x_Rounds_rowBehind_11] at h; cases h
  | succ n ih =>
    intro x2 w y v h
    rw [x_Rounds_rowBehind_11] at h
    refine aw_iload_n (pc := 11) (q := 1) dX6_rowBehind_11 rfl ?_
    refine aw_aload_n (pc := 12) (q := 0) dX6_rowBehind_12 rfl ?_
    refine aw_getf (pc := 13) (v := .inr (.inr 3)) dX6_rowBehind_13 fl_RX6_15 (by decide) rfl rfl rfl ?_
    refine aw_getf (pc := 16) (v := .inl (w 3 4)) dX6_rowBehind_16 fl_RX6_23 (by decide) rfl rfl rfl ?_
    refine aw_icmp_ge (pc := 19) (tgt := 39) dX6_rowBehind_19 (by decide) (fun hc => ?_) (fun hc => ?_)
    · rw [if_pos hc] at h
      exact aw_sel [0] rfl (w_x_Rounds_rowBehind_39 N d hd  _ _ _ h)
    · rw [if_neg hc] at h
      refine aw_aload_n (pc := 22) (q := 0) dX6_rowBehind_22 rfl ?_
      refine aw_getf (pc := 23) (v := .inr (.inr 40)) dX6_rowBehind_23 fl_RX6_9 (by decide) rfl rfl rfl ?_
      refine aw_iload_n (pc := 26) (q := 1) dX6_rowBehind_26 rfl ?_
      refine aw_aload_n (pc := 27) (q := 0) dX6_rowBehind_27 rfl ?_
      refine aw_iload_n (pc := 28) (q := 1) dX6_rowBehind_28 rfl ?_
      obtain ⟨r1, w1, h1, h⟩ := aw_b2s h
      refine aw_callV (pc := 29) (as := [.inl x2]) (st := [.inl x2, .inr (.inr 40)]) (st' := [.inl r1, .inl x2, .inr (.inr 40)]) dX6_rowBehind_29 cv_RX6_65 (by decide) rfl rfl rfl rfl (Nat.le_of_ble_eq_true rfl) (w_x_Rounds_bidAnew N d (by omega) _ _ _ _ h1) rfl ?_
      obtain ⟨hb, h⟩ := aw_cks h
      refine aw_iast (pc := 32) dX6_rowBehind_32 rfl hb.1 hb.2 ?_
      refine aw_iinc (pc := 33) (q := 1) (ls' := [(2, .inl (aw_w (x2 + 1))), (0, .inr (.inr 39))]) dX6_rowBehind_33 rfl (by decide) rfl ?_
      refine aw_goto (pc := 36) (tgt := 11) dX6_rowBehind_36 (by decide) ?_
      exact aw_sel [1, 0] rfl (ih _ _ _ _ h)
def x_Rounds_rowBehind (N : Nat) (x1 : Int) (w : aw_W) : Option (Int × aw_W) :=
  aw_b2 (x_Sale_put N x1 w) fun r1 w1 =>
    x_Rounds_rowBehind_11 N N 0 w1
theorem w_x_Rounds_rowBehind_d {l : Launch} {K : aw_K} (N d : Nat) (hd : 4 ≤ d) : ∀ (x1 : Int) (w : aw_W) (y : Int) (v : aw_W), x_Rounds_rowBehind N x1 w = some (y, v) → aw_Met l K MX6_rowBehind (d + 1) [.inr (.inr 39), .inl x1] w (some (.inl y), v) := by
  intro x1 w y v h
  unfold x_Rounds_rowBehind at h
  refine aw_enter rfl (Nat.le_of_ble_eq_true rfl) ?_
  show aw_AW l K MX6_rowBehind (d + 1) 0 [(0, .inr (.inr 39)), (1, .inl x1)] [] w (some (.inl y), v)
  refine aw_aload_n (pc := 0) (q := 0) dX6_rowBehind_0 rfl ?_
  refine aw_getf (pc := 1) (v := .inr (.inr 17)) dX6_rowBehind_1 fl_RX6_19 (by decide) rfl rfl rfl ?_
  refine aw_iload_n (pc := 4) (q := 1) dX6_rowBehind_4 rfl ?_
  obtain ⟨r1, w1, h1, h⟩ := aw_b2s h
  refine aw_callV (pc := 5) (as := [.inl x1]) (st := []) (st' := [.inl r1]) dX6_rowBehind_5 cv_RX6_62 (by decide) rfl rfl rfl rfl (Nat.le_of_ble_eq_true rfl) (w_x_Sale_put N d (by omega) _ _ _ _ h1) rfl ?_
  refine aw_pop (pc := 8) dX6_rowBehind_8 rfl ?_
  refine aw_iconst (pc := 9) dX6_rowBehind_9 ⟨by decide, by decide⟩ ?_
  refine aw_istore_n (pc := 10) (ls' := [(2, .inl 0), (0, .inr (.inr 39)), (1, .inl x1)]) dX6_rowBehind_10 (by decide) rfl ?_
  exact aw_sel [1, 0] rfl (w_x_Rounds_rowBehind_11 N d hd  N _ _ _ _ h)
theorem w_x_Rounds_rowBehind {l : Launch} {K : aw_K} (N d : Nat) (hd : 5 ≤ d) : ∀ (x1 : Int) (w : aw_W) (y : Int) (v : aw_W), x_Rounds_rowBehind N x1 w = some (y, v) → aw_Met l K MX6_rowBehind (d) [.inr (.inr 39), .inl x1] w (some (.inl y), v) := by
  obtain ⟨e, rfl⟩ : ∃ e, d = e + 1 := ⟨d - 1, by omega⟩
  exact w_x_Rounds_rowBehind_d N e (by omega)
theorem dX6_go_0 : decode cX6_go 0 = .ok (.iconst 0, 1) := by decide +kernel
theorem dX6_go_1 : decode cX6_go 1 = .ok (.istore_n 1, 1) := by decide +kernel
theorem dX6_go_2 : decode cX6_go 2 = .ok (.iload_n 1, 1) := by decide +kernel
theorem dX6_go_3 : decode cX6_go 3 = .ok (.aload_n 0, 1) := by decide +kernel
theorem dX6_go_4 : decode cX6_go 4 = .ok (.getfield 15, 3) := by decide +kernel
theorem dX6_go_7 : decode cX6_go 7 = .ok (.getfield 23, 3) := by decide +kernel
theorem dX6_go_10 : decode cX6_go 10 = .ok (.if_icmp .ge 23, 3) := by decide +kernel
theorem dX6_go_13 : decode cX6_go 13 = .ok (.aload_n 0, 1) := by decide +kernel
theorem dX6_go_14 : decode cX6_go 14 = .ok (.getfield 19, 3) := by decide +kernel
theorem dX6_go_17 : decode cX6_go 17 = .ok (.getfield 29, 3) := by decide +kernel
theorem dX6_go_20 : decode cX6_go 20 = .ok (.iload_n 1, 1) := by decide +kernel
theorem dX6_go_21 : decode cX6_go 21 = .ok (.aload_n 0, 1) := by decide +kernel
theorem dX6_go_22 : decode cX6_go 22 = .ok (.iload_n 1, 1) := by decide +kernel
theorem dX6_go_23 : decode cX6_go 23 = .ok (.invokevirtual 34, 3) := by decide +kernel
theorem dX6_go_26 : decode cX6_go 26 = .ok (.iastore, 1) := by decide +kernel
theorem dX6_go_27 : decode cX6_go 27 = .ok (.iinc 1 1, 3) := by decide +kernel
theorem dX6_go_30 : decode cX6_go 30 = .ok (.goto (-28), 3) := by decide +kernel
theorem dX6_go_33 : decode cX6_go 33 = .ok (.aload_n 0, 1) := by decide +kernel
theorem dX6_go_34 : decode cX6_go 34 = .ok (.aload_n 0, 1) := by decide +kernel
theorem dX6_go_35 : decode cX6_go 35 = .ok (.getfield 19, 3) := by decide +kernel
theorem dX6_go_38 : decode cX6_go 38 = .ok (.invokevirtual 38, 3) := by decide +kernel
theorem dX6_go_41 : decode cX6_go 41 = .ok (.putfield 42, 3) := by decide +kernel
theorem dX6_go_44 : decode cX6_go 44 = .ok (.aload_n 0, 1) := by decide +kernel
theorem dX6_go_45 : decode cX6_go 45 = .ok (.iconst (-1), 1) := by decide +kernel
theorem dX6_go_46 : decode cX6_go 46 = .ok (.putfield 44, 3) := by decide +kernel
theorem dX6_go_49 : decode cX6_go 49 = .ok (.iconst 0, 1) := by decide +kernel
theorem dX6_go_50 : decode cX6_go 50 = .ok (.istore_n 1, 1) := by decide +kernel
theorem dX6_go_51 : decode cX6_go 51 = .ok (.iload_n 1, 1) := by decide +kernel
theorem dX6_go_52 : decode cX6_go 52 = .ok (.bipush 100, 2) := by decide +kernel
theorem dX6_go_54 : decode cX6_go 54 = .ok (.if_icmp .gt 53, 3) := by decide +kernel
theorem dX6_go_57 : decode cX6_go 57 = .ok (.aload_n 0, 1) := by decide +kernel
theorem dX6_go_58 : decode cX6_go 58 = .ok (.getfield 44, 3) := by decide +kernel
theorem dX6_go_61 : decode cX6_go 61 = .ok (.iconst (-1), 1) := by decide +kernel
theorem dX6_go_62 : decode cX6_go 62 = .ok (.if_icmp .ne 45, 3) := by decide +kernel
theorem dX6_go_65 : decode cX6_go 65 = .ok (.aload_n 0, 1) := by decide +kernel
theorem dX6_go_66 : decode cX6_go 66 = .ok (.aload_n 0, 1) := by decide +kernel
theorem dX6_go_67 : decode cX6_go 67 = .ok (.getfield 42, 3) := by decide +kernel
theorem dX6_go_70 : decode cX6_go 70 = .ok (.invokevirtual 47, 3) := by decide +kernel
theorem dX6_go_73 : decode cX6_go 73 = .ok (.istore_n 2, 1) := by decide +kernel
theorem dX6_go_74 : decode cX6_go 74 = .ok (.iload_n 2, 1) := by decide +kernel
theorem dX6_go_75 : decode cX6_go 75 = .ok (.aload_n 0, 1) := by decide +kernel
theorem dX6_go_76 : decode cX6_go 76 = .ok (.getfield 42, 3) := by decide +kernel
theorem dX6_go_79 : decode cX6_go 79 = .ok (.if_icmp .ne 11, 3) := by decide +kernel
theorem dX6_go_82 : decode cX6_go 82 = .ok (.aload_n 0, 1) := by decide +kernel
theorem dX6_go_83 : decode cX6_go 83 = .ok (.iload_n 1, 1) := by decide +kernel
theorem dX6_go_84 : decode cX6_go 84 = .ok (.putfield 44, 3) := by decide +kernel
theorem dX6_go_87 : decode cX6_go 87 = .ok (.goto 14, 3) := by decide +kernel
theorem dX6_go_90 : decode cX6_go 90 = .ok (.iload_n 1, 1) := by decide +kernel
theorem dX6_go_91 : decode cX6_go 91 = .ok (.bipush 100, 2) := by decide +kernel
theorem dX6_go_93 : decode cX6_go 93 = .ok (.if_icmp .ge 8, 3) := by decide +kernel
theorem dX6_go_96 : decode cX6_go 96 = .ok (.aload_n 0, 1) := by decide +kernel
theorem dX6_go_97 : decode cX6_go 97 = .ok (.iload_n 2, 1) := by decide +kernel
theorem dX6_go_98 : decode cX6_go 98 = .ok (.putfield 42, 3) := by decide +kernel
theorem dX6_go_101 : decode cX6_go 101 = .ok (.iinc 1 1, 3) := by decide +kernel
theorem dX6_go_104 : decode cX6_go 104 = .ok (.goto (-53), 3) := by decide +kernel
theorem dX6_go_107 : decode cX6_go 107 = .ok (.return_, 1) := by decide +kernel
def x_Rounds_go_107 (N : Nat) (w : aw_W) : Option (aw_W) :=
  some w
theorem w_x_Rounds_go_107 {l : Launch} {K : aw_K} (N d : Nat) (hd : 5 ≤ d) : ∀ (w v : aw_W), x_Rounds_go_107 N w = some v → aw_AW l K MX6_go (d + 1) 107 [] [] w (none, v) := by
  intro w v h
  unfold x_Rounds_go_107 at h
  cases h
  exact aw_vret (pc := 107) rfl dX6_go_107
def x_Rounds_go_101 (N : Nat) (k51 : Int → aw_W → Option (aw_W)) (x1 : Int) (w : aw_W) : Option (aw_W) :=
  k51 (aw_w (x1 + 1)) w
theorem w_x_Rounds_go_101 {l : Launch} {K : aw_K} (N d : Nat) (hd : 5 ≤ d) (k51 : Int → aw_W → Option (aw_W)) (hk51 : ∀ (x1 : Int) (w v : aw_W), k51 x1 w = some v → aw_AW l K MX6_go (d + 1) 51 [(0, .inr (.inr 39)), (1, .inl x1)] [] w (none, v)) : ∀ (x1 : Int) (w v : aw_W), x_Rounds_go_101 N k51 x1 w = some v → aw_AW l K MX6_go (d + 1) 101 [(0, .inr (.inr 39)), (1, .inl x1)] [] w (none, v) := by
  intro x1 w v h
  unfold x_Rounds_go_101 at h
  refine aw_iinc (pc := 101) (q := 1) (ls' := [(1, .inl (aw_w (x1 + 1))), (0, .inr (.inr 39))]) dX6_go_101 rfl (by decide) rfl ?_
  refine aw_goto (pc := 104) (tgt := 51) dX6_go_104 (by decide) ?_
  exact aw_sel [1, 0] rfl (hk51 _ _ _ h)
def x_Rounds_go_51 (N : Nat) : Nat → Int → aw_W → Option (aw_W)
  | 0, _, _ => none
  | n + 1, x1, w =>
    if 100 < x1 then
      x_Rounds_go_107 N w
    else
      if (w 39 3) = (-1) then
        aw_b2 (x_Rounds_rowBehind N (w 39 4) w) fun r1 w1 =>
          if r1 = (w1 39 4) then
            x_Rounds_go_101 N (x_Rounds_go_51 N n) x1 (aw_up w1 39 3 x1)
          else
            if 100 ≤ x1 then
              x_Rounds_go_101 N (x_Rounds_go_51 N n) x1 w1
            else
              x_Rounds_go_101 N (x_Rounds_go_51 N n) x1 (aw_up w1 39 4 r1)
      else
        x_Rounds_go_107 N w
theorem w_x_Rounds_go_51 {l : Launch} {K : aw_K} (N d : Nat) (hd : 5 ≤ d) : ∀ (n : Nat) (x1 : Int) (w v : aw_W), x_Rounds_go_51 N n x1 w = some v → aw_AW l K MX6_go (d + 1) 51 [(0, .inr (.inr 39)), (1, .inl x1)] [] w (none, v) := by
  intro n
  induction n with
  | zero => intro x1 w v h; rw [x_Rounds_go_51] at h; cases h
  | succ n ih =>
    intro x1 w v h
    rw [x_Rounds_go_51] at h
    refine aw_iload_n (pc := 51) (q := 1) dX6_go_51 rfl ?_
    refine aw_bipush (pc := 52) dX6_go_52 (by decide) ⟨by decide, by decide⟩ ?_
    refine aw_icmp_gt (pc := 54) (tgt := 107) dX6_go_54 (by decide) (fun hc => ?_) (fun hc => ?_)
    · rw [if_pos hc] at h
      exact aw_sel [] rfl (w_x_Rounds_go_107 N d hd  _ _ h)
    · rw [if_neg hc] at h
      refine aw_aload_n (pc := 57) (q := 0) dX6_go_57 rfl ?_
      refine aw_getf (pc := 58) (v := .inl (w 39 3)) dX6_go_58 fl_RX6_44 (by decide) rfl rfl rfl ?_
      refine aw_iconst (pc := 61) dX6_go_61 ⟨by decide, by decide⟩ ?_
      refine aw_icmp_ne (pc := 62) (tgt := 107) dX6_go_62 (by decide) (fun hc => ?_) (fun hc => ?_)
      · rw [if_neg hc] at h
        exact aw_sel [] rfl (w_x_Rounds_go_107 N d hd  _ _ h)
      · rw [if_pos hc] at h
        refine aw_aload_n (pc := 65) (q := 0) dX6_go_65 rfl ?_
        refine aw_aload_n (pc := 66) (q := 0) dX6_go_66 rfl ?_
        refine aw_getf (pc := 67) (v := .inl (w 39 4)) dX6_go_67 fl_RX6_42 (by decide) rfl rfl rfl ?_
        obtain ⟨r1, w1, h1, h⟩ := aw_b2s h
        refine aw_callV (pc := 70) (as := [.inl (w 39 4)]) (st := []) (st' := [.inl r1]) dX6_go_70 cv_RX6_47 (by decide) rfl rfl rfl rfl (Nat.le_of_ble_eq_true rfl) (w_x_Rounds_rowBehind N d (by omega) _ _ _ _ h1) rfl ?_
        refine aw_istore_n (pc := 73) (ls' := [(2, .inl r1), (0, .inr (.inr 39)), (1, .inl x1)]) dX6_go_73 (by decide) rfl ?_
        refine aw_iload_n (pc := 74) (q := 0) dX6_go_74 rfl ?_
        refine aw_aload_n (pc := 75) (q := 1) dX6_go_75 rfl ?_
        refine aw_getf (pc := 76) (v := .inl (w1 39 4)) dX6_go_76 fl_RX6_42 (by decide) rfl rfl rfl ?_
        refine aw_icmp_ne (pc := 79) (tgt := 90) dX6_go_79 (by decide) (fun hc => ?_) (fun hc => ?_)
        · rw [if_neg hc] at h
          refine aw_iload_n (pc := 90) (q := 2) dX6_go_90 rfl ?_
          refine aw_bipush (pc := 91) dX6_go_91 (by decide) ⟨by decide, by decide⟩ ?_
          refine aw_icmp_ge (pc := 93) (tgt := 101) dX6_go_93 (by decide) (fun hc => ?_) (fun hc => ?_)
          · rw [if_pos hc] at h
            exact aw_sel [1, 2] rfl (w_x_Rounds_go_101 N d hd  _ ih _ _ _ h)
          · rw [if_neg hc] at h
            refine aw_aload_n (pc := 96) (q := 1) dX6_go_96 rfl ?_
            refine aw_iload_n (pc := 97) (q := 0) dX6_go_97 rfl ?_
            refine aw_puti (pc := 98) dX6_go_98 fp_RX6_42 (by decide) rfl rfl ?_
            exact aw_sel [1, 2] rfl (w_x_Rounds_go_101 N d hd  _ ih _ _ _ h)
        · rw [if_pos hc] at h
          refine aw_aload_n (pc := 82) (q := 1) dX6_go_82 rfl ?_
          refine aw_iload_n (pc := 83) (q := 2) dX6_go_83 rfl ?_
          refine aw_puti (pc := 84) dX6_go_84 fp_RX6_44 (by decide) rfl rfl ?_
          refine aw_goto (pc := 87) (tgt := 101) dX6_go_87 (by decide) ?_
          exact aw_sel [1, 2] rfl (w_x_Rounds_go_101 N d hd  _ ih _ _ _ h)
def x_Rounds_go_33 (N : Nat) (w : aw_W) : Option (aw_W) :=
  aw_b2 (x_Sale_row N w) fun r1 w1 =>
    x_Rounds_go_51 N N 0 (aw_up (aw_up w1 39 4 r1) 39 3 (-1))
theorem w_x_Rounds_go_33 {l : Launch} {K : aw_K} (N d : Nat) (hd : 5 ≤ d) : ∀ (w v : aw_W), x_Rounds_go_33 N w = some v → aw_AW l K MX6_go (d + 1) 33 [(0, .inr (.inr 39))] [] w (none, v) := by
  intro w v h
  unfold x_Rounds_go_33 at h
  refine aw_aload_n (pc := 33) (q := 0) dX6_go_33 rfl ?_
  refine aw_aload_n (pc := 34) (q := 0) dX6_go_34 rfl ?_
  refine aw_getf (pc := 35) (v := .inr (.inr 17)) dX6_go_35 fl_RX6_19 (by decide) rfl rfl rfl ?_
  obtain ⟨r1, w1, h1, h⟩ := aw_b2s h
  refine aw_callV (pc := 38) (as := []) (st := [.inr (.inr 39)]) (st' := [.inl r1, .inr (.inr 39)]) dX6_go_38 cv_RX6_38 (by decide) rfl rfl rfl rfl (Nat.le_of_ble_eq_true rfl) (w_x_Sale_row N d (by omega) _ _ _ h1) rfl ?_
  refine aw_puti (pc := 41) dX6_go_41 fp_RX6_42 (by decide) rfl rfl ?_
  refine aw_aload_n (pc := 44) (q := 0) dX6_go_44 rfl ?_
  refine aw_iconst (pc := 45) dX6_go_45 ⟨by decide, by decide⟩ ?_
  refine aw_puti (pc := 46) dX6_go_46 fp_RX6_44 (by decide) rfl rfl ?_
  refine aw_iconst (pc := 49) dX6_go_49 ⟨by decide, by decide⟩ ?_
  refine aw_istore_n (pc := 50) (ls' := [(1, .inl 0), (0, .inr (.inr 39))]) dX6_go_50 (by decide) rfl ?_
  exact aw_sel [1, 0] rfl (w_x_Rounds_go_51 N d hd  N _ _ _ h)
def x_Rounds_go_2 (N : Nat) : Nat → Int → aw_W → Option (aw_W)
  | 0, _, _ => none
  | n + 1, x1, w =>
    if (w 3 4) ≤ x1 then
      x_Rounds_go_33 N w
    else
      aw_b2 (x_Rounds_told N x1 w) fun r1 w1 =>
        if 0 ≤ x1 ∧ x1 < 6 then
          x_Rounds_go_2 N n (aw_w (x1 + 1)) (aw_up w1 21 x1.toNat r1)
        else none
theorem w_x_Rounds_go_2 {l : Launch} {K : aw_K} (N d : Nat) (hd : 5 ≤ d) : ∀ (n : Nat) (x1 : Int) (w v : aw_W), x_Rounds_go_2 N n x1 w = some v → aw_AW l K MX6_go (d + 1) 2 [(0, .inr (.inr 39)), (1, .inl x1)] [] w (none, v) := by
  intro n
  induction n with
  | zero => intro x1 w v h; rw [x_Rounds_go_2] at h; cases h
  | succ n ih =>
    intro x1 w v h
    rw [x_Rounds_go_2] at h
    refine aw_iload_n (pc := 2) (q := 1) dX6_go_2 rfl ?_
    refine aw_aload_n (pc := 3) (q := 0) dX6_go_3 rfl ?_
    refine aw_getf (pc := 4) (v := .inr (.inr 3)) dX6_go_4 fl_RX6_15 (by decide) rfl rfl rfl ?_
    refine aw_getf (pc := 7) (v := .inl (w 3 4)) dX6_go_7 fl_RX6_23 (by decide) rfl rfl rfl ?_
    refine aw_icmp_ge (pc := 10) (tgt := 33) dX6_go_10 (by decide) (fun hc => ?_) (fun hc => ?_)
    · rw [if_pos hc] at h
      exact aw_sel [0] rfl (w_x_Rounds_go_33 N d hd  _ _ h)
    · rw [if_neg hc] at h
      refine aw_aload_n (pc := 13) (q := 0) dX6_go_13 rfl ?_
      refine aw_getf (pc := 14) (v := .inr (.inr 17)) dX6_go_14 fl_RX6_19 (by decide) rfl rfl rfl ?_
      refine aw_getf (pc := 17) (v := .inr (.inr 21)) dX6_go_17 fl_RX6_29 (by decide) rfl rfl rfl ?_
      refine aw_iload_n (pc := 20) (q := 1) dX6_go_20 rfl ?_
      refine aw_aload_n (pc := 21) (q := 0) dX6_go_21 rfl ?_
      refine aw_iload_n (pc := 22) (q := 1) dX6_go_22 rfl ?_
      obtain ⟨r1, w1, h1, h⟩ := aw_b2s h
      refine aw_callV (pc := 23) (as := [.inl x1]) (st := [.inl x1, .inr (.inr 21)]) (st' := [.inl r1, .inl x1, .inr (.inr 21)]) dX6_go_23 cv_RX6_34 (by decide) rfl rfl rfl rfl (Nat.le_of_ble_eq_true rfl) (w_x_Rounds_told N d (by omega) _ _ _ _ h1) rfl ?_
      obtain ⟨hb, h⟩ := aw_cks h
      refine aw_iast (pc := 26) dX6_go_26 rfl hb.1 hb.2 ?_
      refine aw_iinc (pc := 27) (q := 1) (ls' := [(1, .inl (aw_w (x1 + 1))), (0, .inr (.inr 39))]) dX6_go_27 rfl (by decide) rfl ?_
      refine aw_goto (pc := 30) (tgt := 2) dX6_go_30 (by decide) ?_
      exact aw_sel [1, 0] rfl (ih _ _ _ h)
def x_Rounds_go (N : Nat) (w : aw_W) : Option (aw_W) :=
  x_Rounds_go_2 N N 0 w
theorem w_x_Rounds_go_d {l : Launch} {K : aw_K} (N d : Nat) (hd : 5 ≤ d) : ∀ (w v : aw_W), x_Rounds_go N w = some v → aw_Met l K MX6_go (d + 1) [.inr (.inr 39)] w (none, v) := by
  intro w v h
  unfold x_Rounds_go at h
  refine aw_enter rfl (Nat.le_of_ble_eq_true rfl) ?_
  show aw_AW l K MX6_go (d + 1) 0 [(0, .inr (.inr 39))] [] w (none, v)
  refine aw_iconst (pc := 0) dX6_go_0 ⟨by decide, by decide⟩ ?_
  refine aw_istore_n (pc := 1) (ls' := [(1, .inl 0), (0, .inr (.inr 39))]) dX6_go_1 (by decide) rfl ?_
  exact aw_sel [1, 0] rfl (w_x_Rounds_go_2 N d hd  N _ _ _ h)
theorem w_x_Rounds_go {l : Launch} {K : aw_K} (N d : Nat) (hd : 6 ≤ d) : ∀ (w v : aw_W), x_Rounds_go N w = some v → aw_Met l K MX6_go (d) [.inr (.inr 39)] w (none, v) := by
  obtain ⟨e, rfl⟩ : ∃ e, d = e + 1 := ⟨d - 1, by omega⟩
  exact w_x_Rounds_go_d N e (by omega)
theorem dX6_ring_0 : decode cX6_ring 0 = .ok (.aload_n 0, 1) := by decide +kernel
theorem dX6_ring_1 : decode cX6_ring 1 = .ok (.getfield 42, 3) := by decide +kernel
theorem dX6_ring_4 : decode cX6_ring 4 = .ok (.istore_n 1, 1) := by decide +kernel
theorem dX6_ring_5 : decode cX6_ring 5 = .ok (.aload_n 0, 1) := by decide +kernel
theorem dX6_ring_6 : decode cX6_ring 6 = .ok (.getfield 42, 3) := by decide +kernel
theorem dX6_ring_9 : decode cX6_ring 9 = .ok (.istore_n 2, 1) := by decide +kernel
theorem dX6_ring_10 : decode cX6_ring 10 = .ok (.iconst 1, 1) := by decide +kernel
theorem dX6_ring_11 : decode cX6_ring 11 = .ok (.istore_n 3, 1) := by decide +kernel
theorem dX6_ring_12 : decode cX6_ring 12 = .ok (.iconst 0, 1) := by decide +kernel
theorem dX6_ring_13 : decode cX6_ring 13 = .ok (.istore 4, 2) := by decide +kernel
theorem dX6_ring_15 : decode cX6_ring 15 = .ok (.iconst 0, 1) := by decide +kernel
theorem dX6_ring_16 : decode cX6_ring 16 = .ok (.istore 5, 2) := by decide +kernel
theorem dX6_ring_18 : decode cX6_ring 18 = .ok (.iload 5, 2) := by decide +kernel
theorem dX6_ring_20 : decode cX6_ring 20 = .ok (.ldc 77, 2) := by decide +kernel
theorem dX6_ring_22 : decode cX6_ring 22 = .ok (.if_icmp .ge 41, 3) := by decide +kernel
theorem dX6_ring_25 : decode cX6_ring 25 = .ok (.aload_n 0, 1) := by decide +kernel
theorem dX6_ring_26 : decode cX6_ring 26 = .ok (.iload_n 2, 1) := by decide +kernel
theorem dX6_ring_27 : decode cX6_ring 27 = .ok (.invokevirtual 47, 3) := by decide +kernel
theorem dX6_ring_30 : decode cX6_ring 30 = .ok (.istore_n 2, 1) := by decide +kernel
theorem dX6_ring_31 : decode cX6_ring 31 = .ok (.iinc 4 1, 3) := by decide +kernel
theorem dX6_ring_34 : decode cX6_ring 34 = .ok (.iload_n 2, 1) := by decide +kernel
theorem dX6_ring_35 : decode cX6_ring 35 = .ok (.iload_n 1, 1) := by decide +kernel
theorem dX6_ring_36 : decode cX6_ring 36 = .ok (.if_icmp .ne 6, 3) := by decide +kernel
theorem dX6_ring_39 : decode cX6_ring 39 = .ok (.iload 4, 2) := by decide +kernel
theorem dX6_ring_41 : decode cX6_ring 41 = .ok (.ireturn, 1) := by decide +kernel
theorem dX6_ring_42 : decode cX6_ring 42 = .ok (.iload 4, 2) := by decide +kernel
theorem dX6_ring_44 : decode cX6_ring 44 = .ok (.iload_n 3, 1) := by decide +kernel
theorem dX6_ring_45 : decode cX6_ring 45 = .ok (.if_icmp .ne 12, 3) := by decide +kernel
theorem dX6_ring_48 : decode cX6_ring 48 = .ok (.iload_n 2, 1) := by decide +kernel
theorem dX6_ring_49 : decode cX6_ring 49 = .ok (.istore_n 1, 1) := by decide +kernel
theorem dX6_ring_50 : decode cX6_ring 50 = .ok (.iload_n 3, 1) := by decide +kernel
theorem dX6_ring_51 : decode cX6_ring 51 = .ok (.iconst 2, 1) := by decide +kernel
theorem dX6_ring_52 : decode cX6_ring 52 = .ok (.imul, 1) := by decide +kernel
theorem dX6_ring_53 : decode cX6_ring 53 = .ok (.istore_n 3, 1) := by decide +kernel
theorem dX6_ring_54 : decode cX6_ring 54 = .ok (.iconst 0, 1) := by decide +kernel
theorem dX6_ring_55 : decode cX6_ring 55 = .ok (.istore 4, 2) := by decide +kernel
theorem dX6_ring_57 : decode cX6_ring 57 = .ok (.iinc 5 1, 3) := by decide +kernel
theorem dX6_ring_60 : decode cX6_ring 60 = .ok (.goto (-42), 3) := by decide +kernel
theorem dX6_ring_63 : decode cX6_ring 63 = .ok (.iconst (-1), 1) := by decide +kernel
theorem dX6_ring_64 : decode cX6_ring 64 = .ok (.ireturn, 1) := by decide +kernel
def x_Rounds_ring_63 (N : Nat) (w : aw_W) : Option (Int × aw_W) :=
  some ((-1), w)
theorem w_x_Rounds_ring_63 {l : Launch} {K : aw_K} (N d : Nat) (hd : 5 ≤ d) : ∀ (w : aw_W) (y : Int) (v : aw_W), x_Rounds_ring_63 N w = some (y, v) → aw_AW l K MX6_ring (d + 1) 63 [] [] w (some (.inl y), v) := by
  intro w y v h
  unfold x_Rounds_ring_63 at h
  refine aw_iconst (pc := 63) dX6_ring_63 ⟨by decide, by decide⟩ ?_
  cases h
  exact aw_iret (pc := 64) rfl dX6_ring_64
def x_Rounds_ring_57 (N : Nat) (k18 : Int → Int → Int → Int → Int → aw_W → Option (Int × aw_W)) (x1 x2 x3 x4 x5 : Int) (w : aw_W) : Option (Int × aw_W) :=
  k18 x1 x2 x3 x4 (aw_w (x5 + 1)) w
theorem w_x_Rounds_ring_57 {l : Launch} {K : aw_K} (N d : Nat) (hd : 5 ≤ d) (k18 : Int → Int → Int → Int → Int → aw_W → Option (Int × aw_W)) (hk18 : ∀ (x1 x2 x3 x4 x5 : Int) (w : aw_W) (y : Int) (v : aw_W), k18 x1 x2 x3 x4 x5 w = some (y, v) → aw_AW l K MX6_ring (d + 1) 18 [(0, .inr (.inr 39)), (1, .inl x1), (2, .inl x2), (3, .inl x3), (4, .inl x4), (5, .inl x5)] [] w (some (.inl y), v)) : ∀ (x1 x2 x3 x4 x5 : Int) (w : aw_W) (y : Int) (v : aw_W), x_Rounds_ring_57 N k18 x1 x2 x3 x4 x5 w = some (y, v) → aw_AW l K MX6_ring (d + 1) 57 [(0, .inr (.inr 39)), (1, .inl x1), (2, .inl x2), (3, .inl x3), (4, .inl x4), (5, .inl x5)] [] w (some (.inl y), v) := by
  intro x1 x2 x3 x4 x5 w y v h
  unfold x_Rounds_ring_57 at h
  refine aw_iinc (pc := 57) (q := 5) (ls' := [(5, .inl (aw_w (x5 + 1))), (0, .inr (.inr 39)), (1, .inl x1), (2, .inl x2), (3, .inl x3), (4, .inl x4)]) dX6_ring_57 rfl (by decide) rfl ?_
  refine aw_goto (pc := 60) (tgt := 18) dX6_ring_60 (by decide) ?_
  exact aw_sel [1, 2, 3, 4, 5, 0] rfl (hk18 _ _ _ _ _ _ _ _ h)
def x_Rounds_ring_39 (N : Nat) (x4 : Int) (w : aw_W) : Option (Int × aw_W) :=
  some (x4, w)
theorem w_x_Rounds_ring_39 {l : Launch} {K : aw_K} (N d : Nat) (hd : 5 ≤ d) : ∀ (x4 : Int) (w : aw_W) (y : Int) (v : aw_W), x_Rounds_ring_39 N x4 w = some (y, v) → aw_AW l K MX6_ring (d + 1) 39 [(4, .inl x4)] [] w (some (.inl y), v) := by
  intro x4 w y v h
  unfold x_Rounds_ring_39 at h
  refine aw_iload (pc := 39) (q := 0) dX6_ring_39 rfl ?_
  cases h
  exact aw_iret (pc := 41) rfl dX6_ring_41
def x_Rounds_ring_18 (N : Nat) : Nat → Int → Int → Int → Int → Int → aw_W → Option (Int × aw_W)
  | 0, _, _, _, _, _, _ => none
  | n + 1, x1, x2, x3, x4, x5, w =>
    if 4000000 ≤ x5 then
      x_Rounds_ring_63 N w
    else
      aw_b2 (x_Rounds_rowBehind N x2 w) fun r1 w1 =>
        if r1 = x1 then
          x_Rounds_ring_39 N (aw_w (x4 + 1)) w1
        else
          if (aw_w (x4 + 1)) = x3 then
            x_Rounds_ring_57 N (x_Rounds_ring_18 N n) r1 r1 (aw_w (x3 * 2)) 0 x5 w1
          else
            x_Rounds_ring_57 N (x_Rounds_ring_18 N n) x1 r1 x3 (aw_w (x4 + 1)) x5 w1
theorem w_x_Rounds_ring_18 {l : Launch} {K : aw_K} (N d : Nat) (hd : 5 ≤ d) : ∀ (n : Nat) (x1 x2 x3 x4 x5 : Int) (w : aw_W) (y : Int) (v : aw_W), x_Rounds_ring_18 N n x1 x2 x3 x4 x5 w = some (y, v) → aw_AW l K MX6_ring (d + 1) 18 [(0, .inr (.inr 39)), (1, .inl x1), (2, .inl x2), (3, .inl x3), (4, .inl x4), (5, .inl x5)] [] w (some (.inl y), v) := by
  intro n
  induction n with
  | zero => intro x1 x2 x3 x4 x5 w y v h; rw [x_Rounds_ring_18] at h; cases h
  | succ n ih =>
    intro x1 x2 x3 x4 x5 w y v h
    rw [x_Rounds_ring_18] at h
    refine aw_iload (pc := 18) (q := 5) dX6_ring_18 rfl ?_
    refine aw_ldc (pc := 20) (x := 4000000) dX6_ring_20 cn_RX6_77 ⟨by decide, by decide⟩ ?_
    refine aw_icmp_ge (pc := 22) (tgt := 63) dX6_ring_22 (by decide) (fun hc => ?_) (fun hc => ?_)
    · rw [if_pos hc] at h
      exact aw_sel [] rfl (w_x_Rounds_ring_63 N d hd  _ _ _ h)
    · rw [if_neg hc] at h
      refine aw_aload_n (pc := 25) (q := 0) dX6_ring_25 rfl ?_
      refine aw_iload_n (pc := 26) (q := 2) dX6_ring_26 rfl ?_
      obtain ⟨r1, w1, h1, h⟩ := aw_b2s h
      refine aw_callV (pc := 27) (as := [.inl x2]) (st := []) (st' := [.inl r1]) dX6_ring_27 cv_RX6_47 (by decide) rfl rfl rfl rfl (Nat.le_of_ble_eq_true rfl) (w_x_Rounds_rowBehind N d (by omega) _ _ _ _ h1) rfl ?_
      refine aw_istore_n (pc := 30) (ls' := [(2, .inl r1), (0, .inr (.inr 39)), (1, .inl x1), (3, .inl x3), (4, .inl x4), (5, .inl x5)]) dX6_ring_30 (by decide) rfl ?_
      refine aw_iinc (pc := 31) (q := 4) (ls' := [(4, .inl (aw_w (x4 + 1))), (2, .inl r1), (0, .inr (.inr 39)), (1, .inl x1), (3, .inl x3), (5, .inl x5)]) dX6_ring_31 rfl (by decide) rfl ?_
      refine aw_iload_n (pc := 34) (q := 1) dX6_ring_34 rfl ?_
      refine aw_iload_n (pc := 35) (q := 3) dX6_ring_35 rfl ?_
      refine aw_icmp_ne (pc := 36) (tgt := 42) dX6_ring_36 (by decide) (fun hc => ?_) (fun hc => ?_)
      · rw [if_neg hc] at h
        refine aw_iload (pc := 42) (q := 0) dX6_ring_42 rfl ?_
        refine aw_iload_n (pc := 44) (q := 4) dX6_ring_44 rfl ?_
        refine aw_icmp_ne (pc := 45) (tgt := 57) dX6_ring_45 (by decide) (fun hc => ?_) (fun hc => ?_)
        · rw [if_neg hc] at h
          exact aw_sel [2, 3, 1, 4, 0, 5] rfl (w_x_Rounds_ring_57 N d hd  _ ih _ _ _ _ _ _ _ _ h)
        · rw [if_pos hc] at h
          refine aw_iload_n (pc := 48) (q := 1) dX6_ring_48 rfl ?_
          refine aw_istore_n (pc := 49) (ls' := [(1, .inl r1), (4, .inl (aw_w (x4 + 1))), (2, .inl r1), (0, .inr (.inr 39)), (3, .inl x3), (5, .inl x5)]) dX6_ring_49 (by decide) rfl ?_
          refine aw_iload_n (pc := 50) (q := 4) dX6_ring_50 rfl ?_
          refine aw_iconst (pc := 51) dX6_ring_51 ⟨by decide, by decide⟩ ?_
          refine aw_imul (pc := 52) dX6_ring_52 ?_
          refine aw_istore_n (pc := 53) (ls' := [(3, .inl (aw_w (x3 * 2))), (1, .inl r1), (4, .inl (aw_w (x4 + 1))), (2, .inl r1), (0, .inr (.inr 39)), (5, .inl x5)]) dX6_ring_53 (by decide) rfl ?_
          refine aw_iconst (pc := 54) dX6_ring_54 ⟨by decide, by decide⟩ ?_
          refine aw_istore (pc := 55) (ls' := [(4, .inl 0), (3, .inl (aw_w (x3 * 2))), (1, .inl r1), (2, .inl r1), (0, .inr (.inr 39)), (5, .inl x5)]) dX6_ring_55 (by decide) rfl ?_
          exact aw_sel [4, 2, 3, 1, 0, 5] rfl (w_x_Rounds_ring_57 N d hd  _ ih _ _ _ _ _ _ _ _ h)
      · rw [if_pos hc] at h
        exact aw_sel [0] rfl (w_x_Rounds_ring_39 N d hd  _ _ _ _ h)
def x_Rounds_ring (N : Nat) (w : aw_W) : Option (Int × aw_W) :=
  x_Rounds_ring_18 N N (w 39 4) (w 39 4) 1 0 0 w
theorem w_x_Rounds_ring_d {l : Launch} {K : aw_K} (N d : Nat) (hd : 5 ≤ d) : ∀ (w : aw_W) (y : Int) (v : aw_W), x_Rounds_ring N w = some (y, v) → aw_Met l K MX6_ring (d + 1) [.inr (.inr 39)] w (some (.inl y), v) := by
  intro w y v h
  unfold x_Rounds_ring at h
  refine aw_enter rfl (Nat.le_of_ble_eq_true rfl) ?_
  show aw_AW l K MX6_ring (d + 1) 0 [(0, .inr (.inr 39))] [] w (some (.inl y), v)
  refine aw_aload_n (pc := 0) (q := 0) dX6_ring_0 rfl ?_
  refine aw_getf (pc := 1) (v := .inl (w 39 4)) dX6_ring_1 fl_RX6_42 (by decide) rfl rfl rfl ?_
  refine aw_istore_n (pc := 4) (ls' := [(1, .inl (w 39 4)), (0, .inr (.inr 39))]) dX6_ring_4 (by decide) rfl ?_
  refine aw_aload_n (pc := 5) (q := 1) dX6_ring_5 rfl ?_
  refine aw_getf (pc := 6) (v := .inl (w 39 4)) dX6_ring_6 fl_RX6_42 (by decide) rfl rfl rfl ?_
  refine aw_istore_n (pc := 9) (ls' := [(2, .inl (w 39 4)), (1, .inl (w 39 4)), (0, .inr (.inr 39))]) dX6_ring_9 (by decide) rfl ?_
  refine aw_iconst (pc := 10) dX6_ring_10 ⟨by decide, by decide⟩ ?_
  refine aw_istore_n (pc := 11) (ls' := [(3, .inl 1), (2, .inl (w 39 4)), (1, .inl (w 39 4)), (0, .inr (.inr 39))]) dX6_ring_11 (by decide) rfl ?_
  refine aw_iconst (pc := 12) dX6_ring_12 ⟨by decide, by decide⟩ ?_
  refine aw_istore (pc := 13) (ls' := [(4, .inl 0), (3, .inl 1), (2, .inl (w 39 4)), (1, .inl (w 39 4)), (0, .inr (.inr 39))]) dX6_ring_13 (by decide) rfl ?_
  refine aw_iconst (pc := 15) dX6_ring_15 ⟨by decide, by decide⟩ ?_
  refine aw_istore (pc := 16) (ls' := [(5, .inl 0), (4, .inl 0), (3, .inl 1), (2, .inl (w 39 4)), (1, .inl (w 39 4)), (0, .inr (.inr 39))]) dX6_ring_16 (by decide) rfl ?_
  exact aw_sel [5, 4, 3, 2, 1, 0] rfl (w_x_Rounds_ring_18 N d hd  N _ _ _ _ _ _ _ _ h)
theorem w_x_Rounds_ring {l : Launch} {K : aw_K} (N d : Nat) (hd : 6 ≤ d) : ∀ (w : aw_W) (y : Int) (v : aw_W), x_Rounds_ring N w = some (y, v) → aw_Met l K MX6_ring (d) [.inr (.inr 39)] w (some (.inl y), v) := by
  obtain ⟨e, rfl⟩ : ∃ e, d = e + 1 := ⟨d - 1, by omega⟩
  exact w_x_Rounds_ring_d N e (by omega)
theorem dX11_rounds_0 : decode cX11_rounds 0 = .ok (.aload_n 0, 1) := by decide +kernel
theorem dX11_rounds_1 : decode cX11_rounds 1 = .ok (.getfield 19, 3) := by decide +kernel
theorem dX11_rounds_4 : decode cX11_rounds 4 = .ok (.getfield 136, 3) := by decide +kernel
theorem dX11_rounds_7 : decode cX11_rounds 7 = .ok (.ifCond .eq 12, 3) := by decide +kernel
theorem dX11_rounds_10 : decode cX11_rounds 10 = .ok (.iload_n 1, 1) := by decide +kernel
theorem dX11_rounds_11 : decode cX11_rounds 11 = .ok (.ifCond .lt 8, 3) := by decide +kernel
theorem dX11_rounds_14 : decode cX11_rounds 14 = .ok (.iload_n 1, 1) := by decide +kernel
theorem dX11_rounds_15 : decode cX11_rounds 15 = .ok (.iconst 2, 1) := by decide +kernel
theorem dX11_rounds_16 : decode cX11_rounds 16 = .ok (.if_icmp .le 6, 3) := by decide +kernel
theorem dX11_rounds_19 : decode cX11_rounds 19 = .ok (.ldc 165, 2) := by decide +kernel
theorem dX11_rounds_21 : decode cX11_rounds 21 = .ok (.ireturn, 1) := by decide +kernel
theorem dX11_rounds_22 : decode cX11_rounds 22 = .ok (.aload_n 0, 1) := by decide +kernel
theorem dX11_rounds_23 : decode cX11_rounds 23 = .ok (.getfield 77, 3) := by decide +kernel
theorem dX11_rounds_26 : decode cX11_rounds 26 = .ok (.invokevirtual 269, 3) := by decide +kernel
theorem dX11_rounds_29 : decode cX11_rounds 29 = .ok (.iload_n 1, 1) := by decide +kernel
theorem dX11_rounds_30 : decode cX11_rounds 30 = .ok (.ifCond .ne 11, 3) := by decide +kernel
theorem dX11_rounds_33 : decode cX11_rounds 33 = .ok (.aload_n 0, 1) := by decide +kernel
theorem dX11_rounds_34 : decode cX11_rounds 34 = .ok (.getfield 77, 3) := by decide +kernel
theorem dX11_rounds_37 : decode cX11_rounds 37 = .ok (.getfield 271, 3) := by decide +kernel
theorem dX11_rounds_40 : decode cX11_rounds 40 = .ok (.ireturn, 1) := by decide +kernel
theorem dX11_rounds_41 : decode cX11_rounds 41 = .ok (.iload_n 1, 1) := by decide +kernel
theorem dX11_rounds_42 : decode cX11_rounds 42 = .ok (.iconst 1, 1) := by decide +kernel
theorem dX11_rounds_43 : decode cX11_rounds 43 = .ok (.if_icmp .ne 13, 3) := by decide +kernel
theorem dX11_rounds_46 : decode cX11_rounds 46 = .ok (.aload_n 0, 1) := by decide +kernel
theorem dX11_rounds_47 : decode cX11_rounds 47 = .ok (.getfield 77, 3) := by decide +kernel
theorem dX11_rounds_50 : decode cX11_rounds 50 = .ok (.getfield 274, 3) := by decide +kernel
theorem dX11_rounds_53 : decode cX11_rounds 53 = .ok (.goto 10, 3) := by decide +kernel
theorem dX11_rounds_56 : decode cX11_rounds 56 = .ok (.aload_n 0, 1) := by decide +kernel
theorem dX11_rounds_57 : decode cX11_rounds 57 = .ok (.getfield 77, 3) := by decide +kernel
theorem dX11_rounds_60 : decode cX11_rounds 60 = .ok (.invokevirtual 277, 3) := by decide +kernel
theorem dX11_rounds_63 : decode cX11_rounds 63 = .ok (.ireturn, 1) := by decide +kernel
def x_rounds_19 (N : Nat) (w : aw_W) : Option (Int × aw_W) :=
  some ((-1000000), w)
theorem w_x_rounds_19 {l : Launch} {K : aw_K} (N d : Nat) (hd : 6 ≤ d) : ∀ (w : aw_W) (y : Int) (v : aw_W), x_rounds_19 N w = some (y, v) → aw_AW l K MX11_rounds (d + 1) 19 [] [] w (some (.inl y), v) := by
  intro w y v h
  unfold x_rounds_19 at h
  refine aw_ldc (pc := 19) (x := (-1000000)) dX11_rounds_19 cn_RX11_165 ⟨by decide, by decide⟩ ?_
  cases h
  exact aw_iret (pc := 21) rfl dX11_rounds_21
def x_rounds_63 (N : Nat) (s0 : Int) (w : aw_W) : Option (Int × aw_W) :=
  some (s0, w)
theorem w_x_rounds_63 {l : Launch} {K : aw_K} (N d : Nat) (hd : 6 ≤ d) : ∀ (s0 : Int) (w : aw_W) (y : Int) (v : aw_W), x_rounds_63 N s0 w = some (y, v) → aw_AW l K MX11_rounds (d + 1) 63 [] [.inl s0] w (some (.inl y), v) := by
  intro s0 w y v h
  unfold x_rounds_63 at h
  cases h
  exact aw_iret (pc := 63) rfl dX11_rounds_63
def x_rounds (N : Nat) (x1 : Int) (w : aw_W) : Option (Int × aw_W) :=
  if (w 3 4) = 0 then
    x_rounds_19 N w
  else
    if x1 < 0 then
      x_rounds_19 N w
    else
      if x1 ≤ 2 then
        aw_b1 (x_Rounds_go N w) fun w1 =>
          if x1 = 0 then
            some (w1 39 3, w1)
          else
            if x1 = 1 then
              x_rounds_63 N (w1 39 4) w1
            else
              aw_b2 (x_Rounds_ring N w1) fun r2 w2 =>
                x_rounds_63 N r2 w2
      else
        x_rounds_19 N w
theorem w_x_rounds_d {l : Launch} {K : aw_K} (N d : Nat) (hd : 6 ≤ d) : ∀ (x1 : Int) (w : aw_W) (y : Int) (v : aw_W), x_rounds N x1 w = some (y, v) → aw_Met l K MX11_rounds (d + 1) [.inr (.inr 0), .inl x1] w (some (.inl y), v) := by
  intro x1 w y v h
  unfold x_rounds at h
  refine aw_enter rfl (Nat.le_of_ble_eq_true rfl) ?_
  show aw_AW l K MX11_rounds (d + 1) 0 [(0, .inr (.inr 0)), (1, .inl x1)] [] w (some (.inl y), v)
  refine aw_aload_n (pc := 0) (q := 0) dX11_rounds_0 rfl ?_
  refine aw_getf (pc := 1) (v := .inr (.inr 3)) dX11_rounds_1 fl_RX11_19 (by decide) rfl rfl rfl ?_
  refine aw_getf (pc := 4) (v := .inl (w 3 4)) dX11_rounds_4 fl_RX11_136 (by decide) rfl rfl rfl ?_
  refine aw_if_eq (pc := 7) (tgt := 19) dX11_rounds_7 (by decide) (fun hc => ?_) (fun hc => ?_)
  · rw [if_pos hc] at h
    exact aw_sel [] rfl (w_x_rounds_19 N d hd  _ _ _ h)
  · rw [if_neg hc] at h
    refine aw_iload_n (pc := 10) (q := 1) dX11_rounds_10 rfl ?_
    refine aw_if_lt (pc := 11) (tgt := 19) dX11_rounds_11 (by decide) (fun hc => ?_) (fun hc => ?_)
    · rw [if_pos hc] at h
      exact aw_sel [] rfl (w_x_rounds_19 N d hd  _ _ _ h)
    · rw [if_neg hc] at h
      refine aw_iload_n (pc := 14) (q := 1) dX11_rounds_14 rfl ?_
      refine aw_iconst (pc := 15) dX11_rounds_15 ⟨by decide, by decide⟩ ?_
      refine aw_icmp_le (pc := 16) (tgt := 22) dX11_rounds_16 (by decide) (fun hc => ?_) (fun hc => ?_)
      · rw [if_pos hc] at h
        refine aw_aload_n (pc := 22) (q := 0) dX11_rounds_22 rfl ?_
        refine aw_getf (pc := 23) (v := .inr (.inr 39)) dX11_rounds_23 fl_RX11_77 (by decide) rfl rfl rfl ?_
        obtain ⟨w1, h1, h⟩ := aw_b1s h
        refine aw_callV (pc := 26) (as := []) (st := []) (st' := []) dX11_rounds_26 cv_RX11_269 (by decide) rfl rfl rfl rfl (Nat.le_of_ble_eq_true rfl) (w_x_Rounds_go N d (by omega) _ _ h1) rfl ?_
        refine aw_iload_n (pc := 29) (q := 1) dX11_rounds_29 rfl ?_
        refine aw_if_ne (pc := 30) (tgt := 41) dX11_rounds_30 (by decide) (fun hc => ?_) (fun hc => ?_)
        · rw [if_neg hc] at h
          refine aw_iload_n (pc := 41) (q := 1) dX11_rounds_41 rfl ?_
          refine aw_iconst (pc := 42) dX11_rounds_42 ⟨by decide, by decide⟩ ?_
          refine aw_icmp_ne (pc := 43) (tgt := 56) dX11_rounds_43 (by decide) (fun hc => ?_) (fun hc => ?_)
          · rw [if_neg hc] at h
            refine aw_aload_n (pc := 56) (q := 0) dX11_rounds_56 rfl ?_
            refine aw_getf (pc := 57) (v := .inr (.inr 39)) dX11_rounds_57 fl_RX11_77 (by decide) rfl rfl rfl ?_
            obtain ⟨r2, w2, h2, h⟩ := aw_b2s h
            refine aw_callV (pc := 60) (as := []) (st := []) (st' := [.inl r2]) dX11_rounds_60 cv_RX11_277 (by decide) rfl rfl rfl rfl (Nat.le_of_ble_eq_true rfl) (w_x_Rounds_ring N d (by omega) _ _ _ h2) rfl ?_
            exact aw_sel [] rfl (w_x_rounds_63 N d hd  _ _ _ _ h)
          · rw [if_pos hc] at h
            refine aw_aload_n (pc := 46) (q := 0) dX11_rounds_46 rfl ?_
            refine aw_getf (pc := 47) (v := .inr (.inr 39)) dX11_rounds_47 fl_RX11_77 (by decide) rfl rfl rfl ?_
            refine aw_getf (pc := 50) (v := .inl (w1 39 4)) dX11_rounds_50 fl_RX11_274 (by decide) rfl rfl rfl ?_
            refine aw_goto (pc := 53) (tgt := 63) dX11_rounds_53 (by decide) ?_
            exact aw_sel [] rfl (w_x_rounds_63 N d hd  _ _ _ _ h)
        · rw [if_pos hc] at h
          refine aw_aload_n (pc := 33) (q := 0) dX11_rounds_33 rfl ?_
          refine aw_getf (pc := 34) (v := .inr (.inr 39)) dX11_rounds_34 fl_RX11_77 (by decide) rfl rfl rfl ?_
          refine aw_getf (pc := 37) (v := .inl (w1 39 3)) dX11_rounds_37 fl_RX11_271 (by decide) rfl rfl rfl ?_
          cases h
          exact aw_iret (pc := 40) rfl dX11_rounds_40
      · rw [if_neg hc] at h
        exact aw_sel [] rfl (w_x_rounds_19 N d hd  _ _ _ h)
theorem w_x_rounds {l : Launch} {K : aw_K} (N d : Nat) (hd : 7 ≤ d) : ∀ (x1 : Int) (w : aw_W) (y : Int) (v : aw_W), x_rounds N x1 w = some (y, v) → aw_Met l K MX11_rounds (d) [.inr (.inr 0), .inl x1] w (some (.inl y), v) := by
  obtain ⟨e, rfl⟩ : ∃ e, d = e + 1 := ⟨d - 1, by omega⟩
  exact w_x_rounds_d N e (by omega)
theorem dX11_rule_0 : decode cX11_rule 0 = .ok (.aload_n 0, 1) := by decide +kernel
theorem dX11_rule_1 : decode cX11_rule 1 = .ok (.getfield 19, 3) := by decide +kernel
theorem dX11_rule_4 : decode cX11_rule 4 = .ok (.iload_n 1, 1) := by decide +kernel
theorem dX11_rule_5 : decode cX11_rule 5 = .ok (.invokevirtual 137, 3) := by decide +kernel
theorem dX11_rule_8 : decode cX11_rule 8 = .ok (.ifCond .eq 19, 3) := by decide +kernel
theorem dX11_rule_11 : decode cX11_rule 11 = .ok (.iload_n 2, 1) := by decide +kernel
theorem dX11_rule_12 : decode cX11_rule 12 = .ok (.iconst (-1), 1) := by decide +kernel
theorem dX11_rule_13 : decode cX11_rule 13 = .ok (.if_icmp .eq 16, 3) := by decide +kernel
theorem dX11_rule_16 : decode cX11_rule 16 = .ok (.aload_n 0, 1) := by decide +kernel
theorem dX11_rule_17 : decode cX11_rule 17 = .ok (.getfield 29, 3) := by decide +kernel
theorem dX11_rule_20 : decode cX11_rule 20 = .ok (.iload_n 2, 1) := by decide +kernel
theorem dX11_rule_21 : decode cX11_rule 21 = .ok (.invokevirtual 160, 3) := by decide +kernel
theorem dX11_rule_24 : decode cX11_rule 24 = .ok (.ifCond .ne 5, 3) := by decide +kernel
theorem dX11_rule_27 : decode cX11_rule 27 = .ok (.iconst 0, 1) := by decide +kernel
theorem dX11_rule_28 : decode cX11_rule 28 = .ok (.ireturn, 1) := by decide +kernel
theorem dX11_rule_29 : decode cX11_rule 29 = .ok (.aload_n 0, 1) := by decide +kernel
theorem dX11_rule_30 : decode cX11_rule 30 = .ok (.getfield 19, 3) := by decide +kernel
theorem dX11_rule_33 : decode cX11_rule 33 = .ok (.getfield 144, 3) := by decide +kernel
theorem dX11_rule_36 : decode cX11_rule 36 = .ok (.iload_n 1, 1) := by decide +kernel
theorem dX11_rule_37 : decode cX11_rule 37 = .ok (.iload_n 2, 1) := by decide +kernel
theorem dX11_rule_38 : decode cX11_rule 38 = .ok (.iastore, 1) := by decide +kernel
theorem dX11_rule_39 : decode cX11_rule 39 = .ok (.iconst 1, 1) := by decide +kernel
theorem dX11_rule_40 : decode cX11_rule 40 = .ok (.ireturn, 1) := by decide +kernel
def x_rule_27 (N : Nat) (w : aw_W) : Option (Int × aw_W) :=
  some (0, w)
theorem w_x_rule_27 {l : Launch} {K : aw_K} (N d : Nat) (hd : 0 ≤ d) : ∀ (w : aw_W) (y : Int) (v : aw_W), x_rule_27 N w = some (y, v) → aw_AW l K MX11_rule (d + 1) 27 [] [] w (some (.inl y), v) := by
  intro w y v h
  unfold x_rule_27 at h
  refine aw_iconst (pc := 27) dX11_rule_27 ⟨by decide, by decide⟩ ?_
  cases h
  exact aw_zret (pc := 28) rfl (by decide) dX11_rule_28
def x_rule_29 (N : Nat) (x1 x2 : Int) (w : aw_W) : Option (Int × aw_W) :=
  if 0 ≤ x1 ∧ x1 < 6 then
    some (1, (aw_up w 6 x1.toNat x2))
  else none
theorem w_x_rule_29 {l : Launch} {K : aw_K} (N d : Nat) (hd : 0 ≤ d) : ∀ (x1 x2 : Int) (w : aw_W) (y : Int) (v : aw_W), x_rule_29 N x1 x2 w = some (y, v) → aw_AW l K MX11_rule (d + 1) 29 [(0, .inr (.inr 0)), (1, .inl x1), (2, .inl x2)] [] w (some (.inl y), v) := by
  intro x1 x2 w y v h
  unfold x_rule_29 at h
  refine aw_aload_n (pc := 29) (q := 0) dX11_rule_29 rfl ?_
  refine aw_getf (pc := 30) (v := .inr (.inr 3)) dX11_rule_30 fl_RX11_19 (by decide) rfl rfl rfl ?_
  refine aw_getf (pc := 33) (v := .inr (.inr 6)) dX11_rule_33 fl_RX11_144 (by decide) rfl rfl rfl ?_
  refine aw_iload_n (pc := 36) (q := 1) dX11_rule_36 rfl ?_
  refine aw_iload_n (pc := 37) (q := 2) dX11_rule_37 rfl ?_
  obtain ⟨hb, h⟩ := aw_cks h
  refine aw_iast (pc := 38) dX11_rule_38 rfl hb.1 hb.2 ?_
  refine aw_iconst (pc := 39) dX11_rule_39 ⟨by decide, by decide⟩ ?_
  cases h
  exact aw_zret (pc := 40) rfl (by decide) dX11_rule_40
def x_rule (N : Nat) (x1 x2 : Int) (w : aw_W) : Option (Int × aw_W) :=
  aw_b2 (x_Land_holds N x1 w) fun r1 w1 =>
    if r1 = 0 then
      x_rule_27 N w1
    else
      if x2 = (-1) then
        x_rule_29 N x1 x2 w1
      else
        aw_b2 (x_Rules_holds N x2 w1) fun r2 w2 =>
          if r2 = 0 then
            x_rule_27 N w2
          else
            x_rule_29 N x1 x2 w2
theorem w_x_rule_d {l : Launch} {K : aw_K} (N d : Nat) (hd : 0 ≤ d) : ∀ (x1 x2 : Int) (w : aw_W) (y : Int) (v : aw_W), x_rule N x1 x2 w = some (y, v) → aw_Met l K MX11_rule (d + 1) [.inr (.inr 0), .inl x1, .inl x2] w (some (.inl y), v) := by
  intro x1 x2 w y v h
  unfold x_rule at h
  refine aw_enter rfl (Nat.le_of_ble_eq_true rfl) ?_
  show aw_AW l K MX11_rule (d + 1) 0 [(0, .inr (.inr 0)), (1, .inl x1), (2, .inl x2)] [] w (some (.inl y), v)
  refine aw_aload_n (pc := 0) (q := 0) dX11_rule_0 rfl ?_
  refine aw_getf (pc := 1) (v := .inr (.inr 3)) dX11_rule_1 fl_RX11_19 (by decide) rfl rfl rfl ?_
  refine aw_iload_n (pc := 4) (q := 1) dX11_rule_4 rfl ?_
  obtain ⟨r1, w1, h1, h⟩ := aw_b2s h
  refine aw_callV (pc := 5) (as := [.inl x1]) (st := []) (st' := [.inl r1]) dX11_rule_5 cv_RX11_137 (by decide) rfl rfl rfl rfl (Nat.le_of_ble_eq_true rfl) (w_x_Land_holds N d (by omega) _ _ _ _ h1) rfl ?_
  refine aw_if_eq (pc := 8) (tgt := 27) dX11_rule_8 (by decide) (fun hc => ?_) (fun hc => ?_)
  · rw [if_pos hc] at h
    exact aw_sel [] rfl (w_x_rule_27 N d hd  _ _ _ h)
  · rw [if_neg hc] at h
    refine aw_iload_n (pc := 11) (q := 2) dX11_rule_11 rfl ?_
    refine aw_iconst (pc := 12) dX11_rule_12 ⟨by decide, by decide⟩ ?_
    refine aw_icmp_eq (pc := 13) (tgt := 29) dX11_rule_13 (by decide) (fun hc => ?_) (fun hc => ?_)
    · rw [if_pos hc] at h
      exact aw_sel [0, 1, 2] rfl (w_x_rule_29 N d hd  _ _ _ _ _ h)
    · rw [if_neg hc] at h
      refine aw_aload_n (pc := 16) (q := 0) dX11_rule_16 rfl ?_
      refine aw_getf (pc := 17) (v := .inr (.inr 11)) dX11_rule_17 fl_RX11_29 (by decide) rfl rfl rfl ?_
      refine aw_iload_n (pc := 20) (q := 2) dX11_rule_20 rfl ?_
      obtain ⟨r2, w2, h2, h⟩ := aw_b2s h
      refine aw_callV (pc := 21) (as := [.inl x2]) (st := []) (st' := [.inl r2]) dX11_rule_21 cv_RX11_160 (by decide) rfl rfl rfl rfl (Nat.le_of_ble_eq_true rfl) (w_x_Rules_holds N d (by omega) _ _ _ _ h2) rfl ?_
      refine aw_if_ne (pc := 24) (tgt := 29) dX11_rule_24 (by decide) (fun hc => ?_) (fun hc => ?_)
      · rw [if_neg hc] at h
        exact aw_sel [0, 1, 2] rfl (w_x_rule_29 N d hd  _ _ _ _ _ h)
      · rw [if_pos hc] at h
        exact aw_sel [] rfl (w_x_rule_27 N d hd  _ _ _ h)
theorem w_x_rule {l : Launch} {K : aw_K} (N d : Nat) (hd : 1 ≤ d) : ∀ (x1 x2 : Int) (w : aw_W) (y : Int) (v : aw_W), x_rule N x1 x2 w = some (y, v) → aw_Met l K MX11_rule (d) [.inr (.inr 0), .inl x1, .inl x2] w (some (.inl y), v) := by
  obtain ⟨e, rfl⟩ : ∃ e, d = e + 1 := ⟨d - 1, by omega⟩
  exact w_x_rule_d N e (by omega)
theorem dX11_seller_0 : decode cX11_seller 0 = .ok (.aload_n 0, 1) := by decide +kernel
theorem dX11_seller_1 : decode cX11_seller 1 = .ok (.invokevirtual 208, 3) := by decide +kernel
theorem dX11_seller_4 : decode cX11_seller 4 = .ok (.ifCond .eq 12, 3) := by decide +kernel
theorem dX11_seller_7 : decode cX11_seller 7 = .ok (.iload_n 1, 1) := by decide +kernel
theorem dX11_seller_8 : decode cX11_seller 8 = .ok (.ifCond .lt 8, 3) := by decide +kernel
theorem dX11_seller_11 : decode cX11_seller 11 = .ok (.iload_n 1, 1) := by decide +kernel
theorem dX11_seller_12 : decode cX11_seller 12 = .ok (.iconst 1, 1) := by decide +kernel
theorem dX11_seller_13 : decode cX11_seller 13 = .ok (.if_icmp .le 6, 3) := by decide +kernel
theorem dX11_seller_16 : decode cX11_seller 16 = .ok (.ldc 165, 2) := by decide +kernel
theorem dX11_seller_18 : decode cX11_seller 18 = .ok (.ireturn, 1) := by decide +kernel
theorem dX11_seller_19 : decode cX11_seller 19 = .ok (.aload_n 0, 1) := by decide +kernel
theorem dX11_seller_20 : decode cX11_seller 20 = .ok (.getfield 54, 3) := by decide +kernel
theorem dX11_seller_23 : decode cX11_seller 23 = .ok (.invokevirtual 212, 3) := by decide +kernel
theorem dX11_seller_26 : decode cX11_seller 26 = .ok (.aload_n 0, 1) := by decide +kernel
theorem dX11_seller_27 : decode cX11_seller 27 = .ok (.getfield 54, 3) := by decide +kernel
theorem dX11_seller_30 : decode cX11_seller 30 = .ok (.getfield 215, 3) := by decide +kernel
theorem dX11_seller_33 : decode cX11_seller 33 = .ok (.ifCond .ne 5, 3) := by decide +kernel
theorem dX11_seller_36 : decode cX11_seller 36 = .ok (.iconst (-1), 1) := by decide +kernel
theorem dX11_seller_37 : decode cX11_seller 37 = .ok (.ireturn, 1) := by decide +kernel
theorem dX11_seller_38 : decode cX11_seller 38 = .ok (.iload_n 1, 1) := by decide +kernel
theorem dX11_seller_39 : decode cX11_seller 39 = .ok (.ifCond .ne 13, 3) := by decide +kernel
theorem dX11_seller_42 : decode cX11_seller 42 = .ok (.aload_n 0, 1) := by decide +kernel
theorem dX11_seller_43 : decode cX11_seller 43 = .ok (.getfield 54, 3) := by decide +kernel
theorem dX11_seller_46 : decode cX11_seller 46 = .ok (.getfield 221, 3) := by decide +kernel
theorem dX11_seller_49 : decode cX11_seller 49 = .ok (.goto 10, 3) := by decide +kernel
theorem dX11_seller_52 : decode cX11_seller 52 = .ok (.aload_n 0, 1) := by decide +kernel
theorem dX11_seller_53 : decode cX11_seller 53 = .ok (.getfield 54, 3) := by decide +kernel
theorem dX11_seller_56 : decode cX11_seller 56 = .ok (.getfield 224, 3) := by decide +kernel
theorem dX11_seller_59 : decode cX11_seller 59 = .ok (.ireturn, 1) := by decide +kernel
def x_seller_16 (N : Nat) (w : aw_W) : Option (Int × aw_W) :=
  some ((-1000000), w)
theorem w_x_seller_16 {l : Launch} {K : aw_K} (N d : Nat) (hd : 5 ≤ d) : ∀ (w : aw_W) (y : Int) (v : aw_W), x_seller_16 N w = some (y, v) → aw_AW l K MX11_seller (d + 1) 16 [] [] w (some (.inl y), v) := by
  intro w y v h
  unfold x_seller_16 at h
  refine aw_ldc (pc := 16) (x := (-1000000)) dX11_seller_16 cn_RX11_165 ⟨by decide, by decide⟩ ?_
  cases h
  exact aw_iret (pc := 18) rfl dX11_seller_18
def x_seller_59 (N : Nat) (s0 : Int) (w : aw_W) : Option (Int × aw_W) :=
  some (s0, w)
theorem w_x_seller_59 {l : Launch} {K : aw_K} (N d : Nat) (hd : 5 ≤ d) : ∀ (s0 : Int) (w : aw_W) (y : Int) (v : aw_W), x_seller_59 N s0 w = some (y, v) → aw_AW l K MX11_seller (d + 1) 59 [] [.inl s0] w (some (.inl y), v) := by
  intro s0 w y v h
  unfold x_seller_59 at h
  cases h
  exact aw_iret (pc := 59) rfl dX11_seller_59
def x_seller (N : Nat) (x1 : Int) (w : aw_W) : Option (Int × aw_W) :=
  aw_b2 (x_isSmall N w) fun r1 w1 =>
    if r1 = 0 then
      x_seller_16 N w1
    else
      if x1 < 0 then
        x_seller_16 N w1
      else
        if x1 ≤ 1 then
          aw_b1 (x_Rests_find N w1) fun w2 =>
            if (w2 23 5) = 0 then
              some ((-1), w2)
            else
              if x1 = 0 then
                x_seller_59 N (w2 23 6) w2
              else
                x_seller_59 N (w2 23 7) w2
        else
          x_seller_16 N w1
theorem w_x_seller_d {l : Launch} {K : aw_K} (N d : Nat) (hd : 5 ≤ d) : ∀ (x1 : Int) (w : aw_W) (y : Int) (v : aw_W), x_seller N x1 w = some (y, v) → aw_Met l K MX11_seller (d + 1) [.inr (.inr 0), .inl x1] w (some (.inl y), v) := by
  intro x1 w y v h
  unfold x_seller at h
  refine aw_enter rfl (Nat.le_of_ble_eq_true rfl) ?_
  show aw_AW l K MX11_seller (d + 1) 0 [(0, .inr (.inr 0)), (1, .inl x1)] [] w (some (.inl y), v)
  refine aw_aload_n (pc := 0) (q := 0) dX11_seller_0 rfl ?_
  obtain ⟨r1, w1, h1, h⟩ := aw_b2s h
  refine aw_callV (pc := 1) (as := []) (st := []) (st' := [.inl r1]) dX11_seller_1 cv_RX11_208 (by decide) rfl rfl rfl rfl (Nat.le_of_ble_eq_true rfl) (w_x_isSmall N d (by omega) _ _ _ h1) rfl ?_
  refine aw_if_eq (pc := 4) (tgt := 16) dX11_seller_4 (by decide) (fun hc => ?_) (fun hc => ?_)
  · rw [if_pos hc] at h
    exact aw_sel [] rfl (w_x_seller_16 N d hd  _ _ _ h)
  · rw [if_neg hc] at h
    refine aw_iload_n (pc := 7) (q := 1) dX11_seller_7 rfl ?_
    refine aw_if_lt (pc := 8) (tgt := 16) dX11_seller_8 (by decide) (fun hc => ?_) (fun hc => ?_)
    · rw [if_pos hc] at h
      exact aw_sel [] rfl (w_x_seller_16 N d hd  _ _ _ h)
    · rw [if_neg hc] at h
      refine aw_iload_n (pc := 11) (q := 1) dX11_seller_11 rfl ?_
      refine aw_iconst (pc := 12) dX11_seller_12 ⟨by decide, by decide⟩ ?_
      refine aw_icmp_le (pc := 13) (tgt := 19) dX11_seller_13 (by decide) (fun hc => ?_) (fun hc => ?_)
      · rw [if_pos hc] at h
        refine aw_aload_n (pc := 19) (q := 0) dX11_seller_19 rfl ?_
        refine aw_getf (pc := 20) (v := .inr (.inr 23)) dX11_seller_20 fl_RX11_54 (by decide) rfl rfl rfl ?_
        obtain ⟨w2, h2, h⟩ := aw_b1s h
        refine aw_callV (pc := 23) (as := []) (st := []) (st' := []) dX11_seller_23 cv_RX11_212 (by decide) rfl rfl rfl rfl (Nat.le_of_ble_eq_true rfl) (w_x_Rests_find N d (by omega) _ _ h2) rfl ?_
        refine aw_aload_n (pc := 26) (q := 0) dX11_seller_26 rfl ?_
        refine aw_getf (pc := 27) (v := .inr (.inr 23)) dX11_seller_27 fl_RX11_54 (by decide) rfl rfl rfl ?_
        refine aw_getf (pc := 30) (v := .inl (w2 23 5)) dX11_seller_30 fl_RX11_215 (by decide) rfl rfl rfl ?_
        refine aw_if_ne (pc := 33) (tgt := 38) dX11_seller_33 (by decide) (fun hc => ?_) (fun hc => ?_)
        · rw [if_neg hc] at h
          refine aw_iload_n (pc := 38) (q := 1) dX11_seller_38 rfl ?_
          refine aw_if_ne (pc := 39) (tgt := 52) dX11_seller_39 (by decide) (fun hc => ?_) (fun hc => ?_)
          · rw [if_neg hc] at h
            refine aw_aload_n (pc := 52) (q := 0) dX11_seller_52 rfl ?_
            refine aw_getf (pc := 53) (v := .inr (.inr 23)) dX11_seller_53 fl_RX11_54 (by decide) rfl rfl rfl ?_
            refine aw_getf (pc := 56) (v := .inl (w2 23 7)) dX11_seller_56 fl_RX11_224 (by decide) rfl rfl rfl ?_
            exact aw_sel [] rfl (w_x_seller_59 N d hd  _ _ _ _ h)
          · rw [if_pos hc] at h
            refine aw_aload_n (pc := 42) (q := 0) dX11_seller_42 rfl ?_
            refine aw_getf (pc := 43) (v := .inr (.inr 23)) dX11_seller_43 fl_RX11_54 (by decide) rfl rfl rfl ?_
            refine aw_getf (pc := 46) (v := .inl (w2 23 6)) dX11_seller_46 fl_RX11_221 (by decide) rfl rfl rfl ?_
            refine aw_goto (pc := 49) (tgt := 59) dX11_seller_49 (by decide) ?_
            exact aw_sel [] rfl (w_x_seller_59 N d hd  _ _ _ _ h)
        · rw [if_pos hc] at h
          refine aw_iconst (pc := 36) dX11_seller_36 ⟨by decide, by decide⟩ ?_
          cases h
          exact aw_iret (pc := 37) rfl dX11_seller_37
      · rw [if_neg hc] at h
        exact aw_sel [] rfl (w_x_seller_16 N d hd  _ _ _ h)
theorem w_x_seller {l : Launch} {K : aw_K} (N d : Nat) (hd : 6 ≤ d) : ∀ (x1 : Int) (w : aw_W) (y : Int) (v : aw_W), x_seller N x1 w = some (y, v) → aw_Met l K MX11_seller (d) [.inr (.inr 0), .inl x1] w (some (.inl y), v) := by
  obtain ⟨e, rfl⟩ : ∃ e, d = e + 1 := ⟨d - 1, by omega⟩
  exact w_x_seller_d N e (by omega)
theorem dX10_decide_0 : decode cX10_decide 0 = .ok (.iload_n 3, 1) := by decide +kernel
theorem dX10_decide_1 : decode cX10_decide 1 = .ok (.invokestatic 59, 3) := by decide +kernel
theorem dX10_decide_4 : decode cX10_decide 4 = .ok (.aload_n 0, 1) := by decide +kernel
theorem dX10_decide_5 : decode cX10_decide 5 = .ok (.getfield 26, 3) := by decide +kernel
theorem dX10_decide_8 : decode cX10_decide 8 = .ok (.getfield 48, 3) := by decide +kernel
theorem dX10_decide_11 : decode cX10_decide 11 = .ok (.iconst 0, 1) := by decide +kernel
theorem dX10_decide_12 : decode cX10_decide 12 = .ok (.iaload, 1) := by decide +kernel
theorem dX10_decide_13 : decode cX10_decide 13 = .ok (.iconst 1, 1) := by decide +kernel
theorem dX10_decide_14 : decode cX10_decide 14 = .ok (.isub, 1) := by decide +kernel
theorem dX10_decide_15 : decode cX10_decide 15 = .ok (.if_icmp .ne 7, 3) := by decide +kernel
theorem dX10_decide_18 : decode cX10_decide 18 = .ok (.iconst 1, 1) := by decide +kernel
theorem dX10_decide_19 : decode cX10_decide 19 = .ok (.goto 4, 3) := by decide +kernel
theorem dX10_decide_22 : decode cX10_decide 22 = .ok (.iconst 0, 1) := by decide +kernel
theorem dX10_decide_23 : decode cX10_decide 23 = .ok (.istore 4, 2) := by decide +kernel
theorem dX10_decide_25 : decode cX10_decide 25 = .ok (.aload_n 0, 1) := by decide +kernel
theorem dX10_decide_26 : decode cX10_decide 26 = .ok (.getfield 26, 3) := by decide +kernel
theorem dX10_decide_29 : decode cX10_decide 29 = .ok (.iload_n 2, 1) := by decide +kernel
theorem dX10_decide_30 : decode cX10_decide 30 = .ok (.iconst 1, 1) := by decide +kernel
theorem dX10_decide_31 : decode cX10_decide 31 = .ok (.invokevirtual 65, 3) := by decide +kernel
theorem dX10_decide_34 : decode cX10_decide 34 = .ok (.istore 5, 2) := by decide +kernel
theorem dX10_decide_36 : decode cX10_decide 36 = .ok (.iload 4, 2) := by decide +kernel
theorem dX10_decide_38 : decode cX10_decide 38 = .ok (.ifCond .eq 8, 3) := by decide +kernel
theorem dX10_decide_41 : decode cX10_decide 41 = .ok (.iload 5, 2) := by decide +kernel
theorem dX10_decide_43 : decode cX10_decide 43 = .ok (.goto 4, 3) := by decide +kernel
theorem dX10_decide_46 : decode cX10_decide 46 = .ok (.iconst 0, 1) := by decide +kernel
theorem dX10_decide_47 : decode cX10_decide 47 = .ok (.istore 6, 2) := by decide +kernel
theorem dX10_decide_49 : decode cX10_decide 49 = .ok (.aload_n 0, 1) := by decide +kernel
theorem dX10_decide_50 : decode cX10_decide 50 = .ok (.getfield 9, 3) := by decide +kernel
theorem dX10_decide_53 : decode cX10_decide 53 = .ok (.iload_n 3, 1) := by decide +kernel
theorem dX10_decide_54 : decode cX10_decide 54 = .ok (.iaload, 1) := by decide +kernel
theorem dX10_decide_55 : decode cX10_decide 55 = .ok (.iload_n 2, 1) := by decide +kernel
theorem dX10_decide_56 : decode cX10_decide 56 = .ok (.if_icmp .ne 8, 3) := by decide +kernel
theorem dX10_decide_59 : decode cX10_decide 59 = .ok (.iload 5, 2) := by decide +kernel
theorem dX10_decide_61 : decode cX10_decide 61 = .ok (.goto 4, 3) := by decide +kernel
theorem dX10_decide_64 : decode cX10_decide 64 = .ok (.iconst 0, 1) := by decide +kernel
theorem dX10_decide_65 : decode cX10_decide 65 = .ok (.istore 7, 2) := by decide +kernel
theorem dX10_decide_67 : decode cX10_decide 67 = .ok (.iload 6, 2) := by decide +kernel
theorem dX10_decide_69 : decode cX10_decide 69 = .ok (.iload 7, 2) := by decide +kernel
theorem dX10_decide_71 : decode cX10_decide 71 = .ok (.if_icmp .le 40, 3) := by decide +kernel
theorem dX10_decide_74 : decode cX10_decide 74 = .ok (.aload_n 0, 1) := by decide +kernel
theorem dX10_decide_75 : decode cX10_decide 75 = .ok (.getfield 15, 3) := by decide +kernel
theorem dX10_decide_78 : decode cX10_decide 78 = .ok (.iload_n 1, 1) := by decide +kernel
theorem dX10_decide_79 : decode cX10_decide 79 = .ok (.dup2, 1) := by decide +kernel
theorem dX10_decide_80 : decode cX10_decide 80 = .ok (.laload, 1) := by decide +kernel
theorem dX10_decide_81 : decode cX10_decide 81 = .ok (.lconst 1, 1) := by decide +kernel
theorem dX10_decide_82 : decode cX10_decide 82 = .ok (.iload_n 3, 1) := by decide +kernel
theorem dX10_decide_83 : decode cX10_decide 83 = .ok (.lshl, 1) := by decide +kernel
theorem dX10_decide_84 : decode cX10_decide 84 = .ok (.lor, 1) := by decide +kernel
theorem dX10_decide_85 : decode cX10_decide 85 = .ok (.lastore, 1) := by decide +kernel
theorem dX10_decide_86 : decode cX10_decide 86 = .ok (.aload_n 0, 1) := by decide +kernel
theorem dX10_decide_87 : decode cX10_decide 87 = .ok (.getfield 9, 3) := by decide +kernel
theorem dX10_decide_90 : decode cX10_decide 90 = .ok (.iload_n 3, 1) := by decide +kernel
theorem dX10_decide_91 : decode cX10_decide 91 = .ok (.iload 4, 2) := by decide +kernel
theorem dX10_decide_93 : decode cX10_decide 93 = .ok (.ifCond .eq 7, 3) := by decide +kernel
theorem dX10_decide_96 : decode cX10_decide 96 = .ok (.iload_n 2, 1) := by decide +kernel
theorem dX10_decide_97 : decode cX10_decide 97 = .ok (.goto 13, 3) := by decide +kernel
theorem dX10_decide_100 : decode cX10_decide 100 = .ok (.aload_n 0, 1) := by decide +kernel
theorem dX10_decide_101 : decode cX10_decide 101 = .ok (.getfield 9, 3) := by decide +kernel
theorem dX10_decide_104 : decode cX10_decide 104 = .ok (.iload_n 3, 1) := by decide +kernel
theorem dX10_decide_105 : decode cX10_decide 105 = .ok (.iconst 1, 1) := by decide +kernel
theorem dX10_decide_106 : decode cX10_decide 106 = .ok (.iload_n 2, 1) := by decide +kernel
theorem dX10_decide_107 : decode cX10_decide 107 = .ok (.ishl, 1) := by decide +kernel
theorem dX10_decide_108 : decode cX10_decide 108 = .ok (.ior, 1) := by decide +kernel
theorem dX10_decide_109 : decode cX10_decide 109 = .ok (.iaload, 1) := by decide +kernel
theorem dX10_decide_110 : decode cX10_decide 110 = .ok (.iastore, 1) := by decide +kernel
theorem dX10_decide_111 : decode cX10_decide 111 = .ok (.return_, 1) := by decide +kernel
def x_Waiting_decide_111 (N : Nat) (w : aw_W) : Option (aw_W) :=
  some w
theorem w_x_Waiting_decide_111 {l : Launch} {K : aw_K} (N d : Nat) (hd : 1 ≤ d) : ∀ (w v : aw_W), x_Waiting_decide_111 N w = some v → aw_AW l K MX10_decide (d + 1) 111 [] [] w (none, v) := by
  intro w v h
  unfold x_Waiting_decide_111 at h
  cases h
  exact aw_vret (pc := 111) rfl dX10_decide_111
def x_Waiting_decide_110 (N : Nat) (s0 s1 : Int) (w : aw_W) : Option (aw_W) :=
  if 0 ≤ s1 ∧ s1 < 64 then
    x_Waiting_decide_111 N (aw_up w 35 s1.toNat s0)
  else none
theorem w_x_Waiting_decide_110 {l : Launch} {K : aw_K} (N d : Nat) (hd : 1 ≤ d) : ∀ (s0 s1 : Int) (w v : aw_W), x_Waiting_decide_110 N s0 s1 w = some v → aw_AW l K MX10_decide (d + 1) 110 [] [.inl s0, .inl s1, .inr (.inr 35)] w (none, v) := by
  intro s0 s1 w v h
  unfold x_Waiting_decide_110 at h
  obtain ⟨hb, h⟩ := aw_cks h
  refine aw_iast (pc := 110) dX10_decide_110 rfl hb.1 hb.2 ?_
  exact aw_sel [] rfl (w_x_Waiting_decide_111 N d hd  _ _ h)
def x_Waiting_decide_65 (N : Nat) (x1 x2 x3 x4 x6 s0 : Int) (w : aw_W) : Option (aw_W) :=
  if x6 ≤ s0 then
    x_Waiting_decide_111 N w
  else
    if 0 ≤ x1 ∧ x1 < 60 then
      if 0 ≤ x1 ∧ x1 < 60 then
        if x4 = 0 then
          if 0 ≤ (aw_or x3 (aw_shl 1 x2)) ∧ (aw_or x3 (aw_shl 1 x2)) < 64 then
            x_Waiting_decide_110 N (w 35 ((aw_or x3 (aw_shl 1 x2)).toNat)) x3 (aw_up w 36 x1.toNat (aw_orL (w 36 x1.toNat) (aw_shlL 1 x3)))
          else none
        else
          x_Waiting_decide_110 N x2 x3 (aw_up w 36 x1.toNat (aw_orL (w 36 x1.toNat) (aw_shlL 1 x3)))
      else none
    else none
theorem w_x_Waiting_decide_65 {l : Launch} {K : aw_K} (N d : Nat) (hd : 1 ≤ d) : ∀ (x1 x2 x3 x4 x6 s0 : Int) (w v : aw_W), x_Waiting_decide_65 N x1 x2 x3 x4 x6 s0 w = some v → aw_AW l K MX10_decide (d + 1) 65 [(0, .inr (.inr 34)), (1, .inl x1), (2, .inl x2), (3, .inl x3), (4, .inl x4), (6, .inl x6)] [.inl s0] w (none, v) := by
  intro x1 x2 x3 x4 x6 s0 w v h
  unfold x_Waiting_decide_65 at h
  refine aw_istore (pc := 65) (ls' := [(7, .inl s0), (0, .inr (.inr 34)), (1, .inl x1), (2, .inl x2), (3, .inl x3), (4, .inl x4), (6, .inl x6)]) dX10_decide_65 (by decide) rfl ?_
  refine aw_iload (pc := 67) (q := 6) dX10_decide_67 rfl ?_
  refine aw_iload (pc := 69) (q := 0) dX10_decide_69 rfl ?_
  refine aw_icmp_le (pc := 71) (tgt := 111) dX10_decide_71 (by decide) (fun hc => ?_) (fun hc => ?_)
  · rw [if_pos hc] at h
    exact aw_sel [] rfl (w_x_Waiting_decide_111 N d hd  _ _ h)
  · rw [if_neg hc] at h
    refine aw_aload_n (pc := 74) (q := 1) dX10_decide_74 rfl ?_
    refine aw_getf (pc := 75) (v := .inr (.inr 36)) dX10_decide_75 fl_RX10_15 (by decide) rfl rfl rfl ?_
    refine aw_iload_n (pc := 78) (q := 2) dX10_decide_78 rfl ?_
    refine aw_dup2 (pc := 79) dX10_decide_79 rfl rfl ?_
    obtain ⟨hb, h⟩ := aw_cks h
    refine aw_laldv (pc := 80) (v := w 36 x1.toNat) dX10_decide_80 rfl hb.1 hb.2 rfl ?_
    refine aw_lconst (pc := 81) (x := 1) dX10_decide_81 (by decide) ⟨by decide, by decide⟩ ?_
    refine aw_iload_n (pc := 82) (q := 4) dX10_decide_82 rfl ?_
    refine aw_lshl (pc := 83) dX10_decide_83 ?_
    refine aw_lor (pc := 84) dX10_decide_84 ?_
    obtain ⟨hb, h⟩ := aw_cks h
    refine aw_last (pc := 85) dX10_decide_85 rfl hb.1 hb.2 ?_
    refine aw_aload_n (pc := 86) (q := 1) dX10_decide_86 rfl ?_
    refine aw_getf (pc := 87) (v := .inr (.inr 35)) dX10_decide_87 fl_RX10_9 (by decide) rfl rfl rfl ?_
    refine aw_iload_n (pc := 90) (q := 4) dX10_decide_90 rfl ?_
    refine aw_iload (pc := 91) (q := 5) dX10_decide_91 rfl ?_
    refine aw_if_eq (pc := 93) (tgt := 100) dX10_decide_93 (by decide) (fun hc => ?_) (fun hc => ?_)
    · rw [if_pos hc] at h
      refine aw_aload_n (pc := 100) (q := 1) dX10_decide_100 rfl ?_
      refine aw_getf (pc := 101) (v := .inr (.inr 35)) dX10_decide_101 fl_RX10_9 (by decide) rfl rfl rfl ?_
      refine aw_iload_n (pc := 104) (q := 4) dX10_decide_104 rfl ?_
      refine aw_iconst (pc := 105) dX10_decide_105 ⟨by decide, by decide⟩ ?_
      refine aw_iload_n (pc := 106) (q := 3) dX10_decide_106 rfl ?_
      refine aw_ishl (pc := 107) dX10_decide_107 ?_
      refine aw_ior (pc := 108) dX10_decide_108 ?_
      obtain ⟨hb, h⟩ := aw_cks h
      refine aw_ialdv (pc := 109) (v := w 35 ((aw_or x3 (aw_shl 1 x2)).toNat)) dX10_decide_109 rfl hb.1 hb.2 rfl ?_
      exact aw_sel [] rfl (w_x_Waiting_decide_110 N d hd  _ _ _ _ h)
    · rw [if_neg hc] at h
      refine aw_iload_n (pc := 96) (q := 3) dX10_decide_96 rfl ?_
      refine aw_goto (pc := 97) (tgt := 110) dX10_decide_97 (by decide) ?_
      exact aw_sel [] rfl (w_x_Waiting_decide_110 N d hd  _ _ _ _ h)
def x_Waiting_decide_47 (N : Nat) (x1 x2 x3 x4 x5 s0 : Int) (w : aw_W) : Option (aw_W) :=
  if 0 ≤ x3 ∧ x3 < 64 then
    if (w 35 x3.toNat) = x2 then
      x_Waiting_decide_65 N x1 x2 x3 x4 s0 x5 w
    else
      x_Waiting_decide_65 N x1 x2 x3 x4 s0 0 w
  else none
theorem w_x_Waiting_decide_47 {l : Launch} {K : aw_K} (N d : Nat) (hd : 1 ≤ d) : ∀ (x1 x2 x3 x4 x5 s0 : Int) (w v : aw_W), x_Waiting_decide_47 N x1 x2 x3 x4 x5 s0 w = some v → aw_AW l K MX10_decide (d + 1) 47 [(0, .inr (.inr 34)), (1, .inl x1), (2, .inl x2), (3, .inl x3), (4, .inl x4), (5, .inl x5)] [.inl s0] w (none, v) := by
  intro x1 x2 x3 x4 x5 s0 w v h
  unfold x_Waiting_decide_47 at h
  refine aw_istore (pc := 47) (ls' := [(6, .inl s0), (0, .inr (.inr 34)), (1, .inl x1), (2, .inl x2), (3, .inl x3), (4, .inl x4), (5, .inl x5)]) dX10_decide_47 (by decide) rfl ?_
  refine aw_aload_n (pc := 49) (q := 1) dX10_decide_49 rfl ?_
  refine aw_getf (pc := 50) (v := .inr (.inr 35)) dX10_decide_50 fl_RX10_9 (by decide) rfl rfl rfl ?_
  refine aw_iload_n (pc := 53) (q := 4) dX10_decide_53 rfl ?_
  obtain ⟨hb, h⟩ := aw_cks h
  refine aw_ialdv (pc := 54) (v := w 35 x3.toNat) dX10_decide_54 rfl hb.1 hb.2 rfl ?_
  refine aw_iload_n (pc := 55) (q := 3) dX10_decide_55 rfl ?_
  refine aw_icmp_ne (pc := 56) (tgt := 64) dX10_decide_56 (by decide) (fun hc => ?_) (fun hc => ?_)
  · rw [if_neg hc] at h
    refine aw_iconst (pc := 64) dX10_decide_64 ⟨by decide, by decide⟩ ?_
    exact aw_sel [1, 2, 3, 4, 5, 0] rfl (w_x_Waiting_decide_65 N d hd  _ _ _ _ _ _ _ _ h)
  · rw [if_pos hc] at h
    refine aw_iload (pc := 59) (q := 6) dX10_decide_59 rfl ?_
    refine aw_goto (pc := 61) (tgt := 65) dX10_decide_61 (by decide) ?_
    exact aw_sel [1, 2, 3, 4, 5, 0] rfl (w_x_Waiting_decide_65 N d hd  _ _ _ _ _ _ _ _ h)
def x_Waiting_decide_23 (N : Nat) (x1 x2 x3 s0 : Int) (w : aw_W) : Option (aw_W) :=
  aw_b2 (x_Land_item N x2 1 w) fun r1 w1 =>
    if s0 = 0 then
      x_Waiting_decide_47 N x1 x2 x3 s0 r1 0 w1
    else
      x_Waiting_decide_47 N x1 x2 x3 s0 r1 r1 w1
theorem w_x_Waiting_decide_23 {l : Launch} {K : aw_K} (N d : Nat) (hd : 1 ≤ d) : ∀ (x1 x2 x3 s0 : Int) (w v : aw_W), x_Waiting_decide_23 N x1 x2 x3 s0 w = some v → aw_AW l K MX10_decide (d + 1) 23 [(0, .inr (.inr 34)), (1, .inl x1), (2, .inl x2), (3, .inl x3)] [.inl s0] w (none, v) := by
  intro x1 x2 x3 s0 w v h
  unfold x_Waiting_decide_23 at h
  refine aw_istore (pc := 23) (ls' := [(4, .inl s0), (0, .inr (.inr 34)), (1, .inl x1), (2, .inl x2), (3, .inl x3)]) dX10_decide_23 (by decide) rfl ?_
  refine aw_aload_n (pc := 25) (q := 1) dX10_decide_25 rfl ?_
  refine aw_getf (pc := 26) (v := .inr (.inr 3)) dX10_decide_26 fl_RX10_26 (by decide) rfl rfl rfl ?_
  refine aw_iload_n (pc := 29) (q := 3) dX10_decide_29 rfl ?_
  refine aw_iconst (pc := 30) dX10_decide_30 ⟨by decide, by decide⟩ ?_
  obtain ⟨r1, w1, h1, h⟩ := aw_b2s h
  refine aw_callV (pc := 31) (as := [.inl x2, .inl 1]) (st := []) (st' := [.inl r1]) dX10_decide_31 cv_RX10_65 (by decide) rfl rfl rfl rfl (Nat.le_of_ble_eq_true rfl) (w_x_Land_item N d (by omega) _ _ _ _ _ h1) rfl ?_
  refine aw_istore (pc := 34) (ls' := [(5, .inl r1), (4, .inl s0), (0, .inr (.inr 34)), (1, .inl x1), (2, .inl x2), (3, .inl x3)]) dX10_decide_34 (by decide) rfl ?_
  refine aw_iload (pc := 36) (q := 1) dX10_decide_36 rfl ?_
  refine aw_if_eq (pc := 38) (tgt := 46) dX10_decide_38 (by decide) (fun hc => ?_) (fun hc => ?_)
  · rw [if_pos hc] at h
    refine aw_iconst (pc := 46) dX10_decide_46 ⟨by decide, by decide⟩ ?_
    exact aw_sel [2, 3, 4, 5, 1, 0] rfl (w_x_Waiting_decide_47 N d hd  _ _ _ _ _ _ _ _ h)
  · rw [if_neg hc] at h
    refine aw_iload (pc := 41) (q := 0) dX10_decide_41 rfl ?_
    refine aw_goto (pc := 43) (tgt := 47) dX10_decide_43 (by decide) ?_
    exact aw_sel [2, 3, 4, 5, 1, 0] rfl (w_x_Waiting_decide_47 N d hd  _ _ _ _ _ _ _ _ h)
def x_Waiting_decide (N : Nat) (x1 x2 x3 : Int) (w : aw_W) : Option (aw_W) :=
  aw_b2 (j_Int_bitCount N x3 w) fun r1 w1 =>
    if r1 = (aw_w ((w1 5 0) - 1)) then
      x_Waiting_decide_23 N x1 x2 x3 1 w1
    else
      x_Waiting_decide_23 N x1 x2 x3 0 w1
theorem w_x_Waiting_decide_d {l : Launch} {K : aw_K} (N d : Nat) (hd : 1 ≤ d) : ∀ (x1 x2 x3 : Int) (w v : aw_W), x_Waiting_decide N x1 x2 x3 w = some v → aw_Met l K MX10_decide (d + 1) [.inr (.inr 34), .inl x1, .inl x2, .inl x3] w (none, v) := by
  intro x1 x2 x3 w v h
  unfold x_Waiting_decide at h
  refine aw_enter rfl (Nat.le_of_ble_eq_true rfl) ?_
  show aw_AW l K MX10_decide (d + 1) 0 [(0, .inr (.inr 34)), (1, .inl x1), (2, .inl x2), (3, .inl x3)] [] w (none, v)
  refine aw_iload_n (pc := 0) (q := 3) dX10_decide_0 rfl ?_
  obtain ⟨r1, w1, h1, h⟩ := aw_b2s h
  refine aw_callS (pc := 1) (as := [.inl x3]) (st := []) (st' := [.inl r1]) dX10_decide_1 cs_RX10_59 rfl rfl (Nat.le_of_ble_eq_true rfl) (w_j_Int_bitCount N d (by omega) _ _ _ _ h1) rfl ?_
  refine aw_aload_n (pc := 4) (q := 0) dX10_decide_4 rfl ?_
  refine aw_getf (pc := 5) (v := .inr (.inr 3)) dX10_decide_5 fl_RX10_26 (by decide) rfl rfl rfl ?_
  refine aw_getf (pc := 8) (v := .inr (.inr 5)) dX10_decide_8 fl_RX10_48 (by decide) rfl rfl rfl ?_
  refine aw_iconst (pc := 11) dX10_decide_11 ⟨by decide, by decide⟩ ?_
  refine aw_ialdv (pc := 12) (v := w1 5 0) dX10_decide_12 rfl (by decide) (by decide) rfl ?_
  refine aw_iconst (pc := 13) dX10_decide_13 ⟨by decide, by decide⟩ ?_
  refine aw_isub (pc := 14) dX10_decide_14 ?_
  refine aw_icmp_ne (pc := 15) (tgt := 22) dX10_decide_15 (by decide) (fun hc => ?_) (fun hc => ?_)
  · rw [if_neg hc] at h
    refine aw_iconst (pc := 22) dX10_decide_22 ⟨by decide, by decide⟩ ?_
    exact aw_sel [0, 1, 2, 3] rfl (w_x_Waiting_decide_23 N d hd  _ _ _ _ _ _ h)
  · rw [if_pos hc] at h
    refine aw_iconst (pc := 18) dX10_decide_18 ⟨by decide, by decide⟩ ?_
    refine aw_goto (pc := 19) (tgt := 23) dX10_decide_19 (by decide) ?_
    exact aw_sel [0, 1, 2, 3] rfl (w_x_Waiting_decide_23 N d hd  _ _ _ _ _ _ h)
theorem w_x_Waiting_decide {l : Launch} {K : aw_K} (N d : Nat) (hd : 2 ≤ d) : ∀ (x1 x2 x3 : Int) (w v : aw_W), x_Waiting_decide N x1 x2 x3 w = some v → aw_Met l K MX10_decide (d) [.inr (.inr 34), .inl x1, .inl x2, .inl x3] w (none, v) := by
  obtain ⟨e, rfl⟩ : ∃ e, d = e + 1 := ⟨d - 1, by omega⟩
  exact w_x_Waiting_decide_d N e (by omega)
theorem dX10_behindTheFirst_0 : decode cX10_behindTheFirst 0 = .ok (.aload_n 0, 1) := by decide +kernel
theorem dX10_behindTheFirst_1 : decode cX10_behindTheFirst 1 = .ok (.getfield 9, 3) := by decide +kernel
theorem dX10_behindTheFirst_4 : decode cX10_behindTheFirst 4 = .ok (.iconst (-1), 1) := by decide +kernel
theorem dX10_behindTheFirst_5 : decode cX10_behindTheFirst 5 = .ok (.invokestatic 30, 3) := by decide +kernel
theorem dX10_behindTheFirst_8 : decode cX10_behindTheFirst 8 = .ok (.iload_n 1, 1) := by decide +kernel
theorem dX10_behindTheFirst_9 : decode cX10_behindTheFirst 9 = .ok (.bipush 60, 2) := by decide +kernel
theorem dX10_behindTheFirst_11 : decode cX10_behindTheFirst 11 = .ok (.invokestatic 36, 3) := by decide +kernel
theorem dX10_behindTheFirst_14 : decode cX10_behindTheFirst 14 = .ok (.iconst 1, 1) := by decide +kernel
theorem dX10_behindTheFirst_15 : decode cX10_behindTheFirst 15 = .ok (.isub, 1) := by decide +kernel
theorem dX10_behindTheFirst_16 : decode cX10_behindTheFirst 16 = .ok (.istore_n 2, 1) := by decide +kernel
theorem dX10_behindTheFirst_17 : decode cX10_behindTheFirst 17 = .ok (.iload_n 2, 1) := by decide +kernel
theorem dX10_behindTheFirst_18 : decode cX10_behindTheFirst 18 = .ok (.ifCond .lt 115, 3) := by decide +kernel
theorem dX10_behindTheFirst_21 : decode cX10_behindTheFirst 21 = .ok (.aload_n 0, 1) := by decide +kernel
theorem dX10_behindTheFirst_22 : decode cX10_behindTheFirst 22 = .ok (.getfield 26, 3) := by decide +kernel
theorem dX10_behindTheFirst_25 : decode cX10_behindTheFirst 25 = .ok (.getfield 42, 3) := by decide +kernel
theorem dX10_behindTheFirst_28 : decode cX10_behindTheFirst 28 = .ok (.ifCond .le 105, 3) := by decide +kernel
theorem dX10_behindTheFirst_31 : decode cX10_behindTheFirst 31 = .ok (.iload_n 2, 1) := by decide +kernel
theorem dX10_behindTheFirst_32 : decode cX10_behindTheFirst 32 = .ok (.aload_n 0, 1) := by decide +kernel
theorem dX10_behindTheFirst_33 : decode cX10_behindTheFirst 33 = .ok (.getfield 26, 3) := by decide +kernel
theorem dX10_behindTheFirst_36 : decode cX10_behindTheFirst 36 = .ok (.getfield 42, 3) := by decide +kernel
theorem dX10_behindTheFirst_39 : decode cX10_behindTheFirst 39 = .ok (.irem, 1) := by decide +kernel
theorem dX10_behindTheFirst_40 : decode cX10_behindTheFirst 40 = .ok (.istore_n 3, 1) := by decide +kernel
theorem dX10_behindTheFirst_41 : decode cX10_behindTheFirst 41 = .ok (.aload_n 0, 1) := by decide +kernel
theorem dX10_behindTheFirst_42 : decode cX10_behindTheFirst 42 = .ok (.getfield 19, 3) := by decide +kernel
theorem dX10_behindTheFirst_45 : decode cX10_behindTheFirst 45 = .ok (.iload_n 2, 1) := by decide +kernel
theorem dX10_behindTheFirst_46 : decode cX10_behindTheFirst 46 = .ok (.aload_n 0, 1) := by decide +kernel
theorem dX10_behindTheFirst_47 : decode cX10_behindTheFirst 47 = .ok (.getfield 26, 3) := by decide +kernel
theorem dX10_behindTheFirst_50 : decode cX10_behindTheFirst 50 = .ok (.getfield 48, 3) := by decide +kernel
theorem dX10_behindTheFirst_53 : decode cX10_behindTheFirst 53 = .ok (.iconst 0, 1) := by decide +kernel
theorem dX10_behindTheFirst_54 : decode cX10_behindTheFirst 54 = .ok (.iaload, 1) := by decide +kernel
theorem dX10_behindTheFirst_55 : decode cX10_behindTheFirst 55 = .ok (.iconst 1, 1) := by decide +kernel
theorem dX10_behindTheFirst_56 : decode cX10_behindTheFirst 56 = .ok (.if_icmp .ne 7, 3) := by decide +kernel
theorem dX10_behindTheFirst_59 : decode cX10_behindTheFirst 59 = .ok (.iload_n 3, 1) := by decide +kernel
theorem dX10_behindTheFirst_60 : decode cX10_behindTheFirst 60 = .ok (.goto 11, 3) := by decide +kernel
theorem dX10_behindTheFirst_63 : decode cX10_behindTheFirst 63 = .ok (.aload_n 0, 1) := by decide +kernel
theorem dX10_behindTheFirst_64 : decode cX10_behindTheFirst 64 = .ok (.getfield 9, 3) := by decide +kernel
theorem dX10_behindTheFirst_67 : decode cX10_behindTheFirst 67 = .ok (.iconst 1, 1) := by decide +kernel
theorem dX10_behindTheFirst_68 : decode cX10_behindTheFirst 68 = .ok (.iload_n 3, 1) := by decide +kernel
theorem dX10_behindTheFirst_69 : decode cX10_behindTheFirst 69 = .ok (.ishl, 1) := by decide +kernel
theorem dX10_behindTheFirst_70 : decode cX10_behindTheFirst 70 = .ok (.iaload, 1) := by decide +kernel
theorem dX10_behindTheFirst_71 : decode cX10_behindTheFirst 71 = .ok (.iastore, 1) := by decide +kernel
theorem dX10_behindTheFirst_72 : decode cX10_behindTheFirst 72 = .ok (.aload_n 0, 1) := by decide +kernel
theorem dX10_behindTheFirst_73 : decode cX10_behindTheFirst 73 = .ok (.getfield 15, 3) := by decide +kernel
theorem dX10_behindTheFirst_76 : decode cX10_behindTheFirst 76 = .ok (.iload_n 2, 1) := by decide +kernel
theorem dX10_behindTheFirst_77 : decode cX10_behindTheFirst 77 = .ok (.lconst 0, 1) := by decide +kernel
theorem dX10_behindTheFirst_78 : decode cX10_behindTheFirst 78 = .ok (.lastore, 1) := by decide +kernel
theorem dX10_behindTheFirst_79 : decode cX10_behindTheFirst 79 = .ok (.iconst 1, 1) := by decide +kernel
theorem dX10_behindTheFirst_80 : decode cX10_behindTheFirst 80 = .ok (.istore 4, 2) := by decide +kernel
theorem dX10_behindTheFirst_82 : decode cX10_behindTheFirst 82 = .ok (.iload 4, 2) := by decide +kernel
theorem dX10_behindTheFirst_84 : decode cX10_behindTheFirst 84 = .ok (.aload_n 0, 1) := by decide +kernel
theorem dX10_behindTheFirst_85 : decode cX10_behindTheFirst 85 = .ok (.getfield 26, 3) := by decide +kernel
theorem dX10_behindTheFirst_88 : decode cX10_behindTheFirst 88 = .ok (.invokevirtual 51, 3) := by decide +kernel
theorem dX10_behindTheFirst_91 : decode cX10_behindTheFirst 91 = .ok (.if_icmp .gt 36, 3) := by decide +kernel
theorem dX10_behindTheFirst_94 : decode cX10_behindTheFirst 94 = .ok (.iload 4, 2) := by decide +kernel
theorem dX10_behindTheFirst_96 : decode cX10_behindTheFirst 96 = .ok (.aload_n 0, 1) := by decide +kernel
theorem dX10_behindTheFirst_97 : decode cX10_behindTheFirst 97 = .ok (.getfield 9, 3) := by decide +kernel
theorem dX10_behindTheFirst_100 : decode cX10_behindTheFirst 100 = .ok (.arraylength, 1) := by decide +kernel
theorem dX10_behindTheFirst_101 : decode cX10_behindTheFirst 101 = .ok (.if_icmp .ge 26, 3) := by decide +kernel
theorem dX10_behindTheFirst_104 : decode cX10_behindTheFirst 104 = .ok (.iload 4, 2) := by decide +kernel
theorem dX10_behindTheFirst_106 : decode cX10_behindTheFirst 106 = .ok (.iload_n 3, 1) := by decide +kernel
theorem dX10_behindTheFirst_107 : decode cX10_behindTheFirst 107 = .ok (.ishr, 1) := by decide +kernel
theorem dX10_behindTheFirst_108 : decode cX10_behindTheFirst 108 = .ok (.iconst 1, 1) := by decide +kernel
theorem dX10_behindTheFirst_109 : decode cX10_behindTheFirst 109 = .ok (.iand, 1) := by decide +kernel
theorem dX10_behindTheFirst_110 : decode cX10_behindTheFirst 110 = .ok (.ifCond .ne 11, 3) := by decide +kernel
theorem dX10_behindTheFirst_113 : decode cX10_behindTheFirst 113 = .ok (.aload_n 0, 1) := by decide +kernel
theorem dX10_behindTheFirst_114 : decode cX10_behindTheFirst 114 = .ok (.iload_n 2, 1) := by decide +kernel
theorem dX10_behindTheFirst_115 : decode cX10_behindTheFirst 115 = .ok (.iload_n 3, 1) := by decide +kernel
theorem dX10_behindTheFirst_116 : decode cX10_behindTheFirst 116 = .ok (.iload 4, 2) := by decide +kernel
theorem dX10_behindTheFirst_118 : decode cX10_behindTheFirst 118 = .ok (.invokevirtual 55, 3) := by decide +kernel
theorem dX10_behindTheFirst_121 : decode cX10_behindTheFirst 121 = .ok (.iinc 4 1, 3) := by decide +kernel
theorem dX10_behindTheFirst_124 : decode cX10_behindTheFirst 124 = .ok (.goto (-42), 3) := by decide +kernel
theorem dX10_behindTheFirst_127 : decode cX10_behindTheFirst 127 = .ok (.iinc 2 (-1), 3) := by decide +kernel
theorem dX10_behindTheFirst_130 : decode cX10_behindTheFirst 130 = .ok (.goto (-113), 3) := by decide +kernel
theorem dX10_behindTheFirst_133 : decode cX10_behindTheFirst 133 = .ok (.return_, 1) := by decide +kernel
def x_Waiting_behindTheFirst_133 (N : Nat) (w : aw_W) : Option (aw_W) :=
  some w
theorem w_x_Waiting_behindTheFirst_133 {l : Launch} {K : aw_K} (N d : Nat) (hd : 2 ≤ d) : ∀ (w v : aw_W), x_Waiting_behindTheFirst_133 N w = some v → aw_AW l K MX10_behindTheFirst (d + 1) 133 [] [] w (none, v) := by
  intro w v h
  unfold x_Waiting_behindTheFirst_133 at h
  cases h
  exact aw_vret (pc := 133) rfl dX10_behindTheFirst_133
def x_Waiting_behindTheFirst_127 (N : Nat) (k17 : Int → aw_W → Option (aw_W)) (x2 : Int) (w : aw_W) : Option (aw_W) :=
  k17 (aw_w (x2 + (-1))) w
theorem w_x_Waiting_behindTheFirst_127 {l : Launch} {K : aw_K} (N d : Nat) (hd : 2 ≤ d) (k17 : Int → aw_W → Option (aw_W)) (hk17 : ∀ (x2 : Int) (w v : aw_W), k17 x2 w = some v → aw_AW l K MX10_behindTheFirst (d + 1) 17 [(0, .inr (.inr 34)), (2, .inl x2)] [] w (none, v)) : ∀ (x2 : Int) (w v : aw_W), x_Waiting_behindTheFirst_127 N k17 x2 w = some v → aw_AW l K MX10_behindTheFirst (d + 1) 127 [(0, .inr (.inr 34)), (2, .inl x2)] [] w (none, v) := by
  intro x2 w v h
  unfold x_Waiting_behindTheFirst_127 at h
  refine aw_iinc (pc := 127) (q := 1) (ls' := [(2, .inl (aw_w (x2 + (-1)))), (0, .inr (.inr 34))]) dX10_behindTheFirst_127 rfl (by decide) rfl ?_
  refine aw_goto (pc := 130) (tgt := 17) dX10_behindTheFirst_130 (by decide) ?_
  exact aw_sel [1, 0] rfl (hk17 _ _ _ h)
def x_Waiting_behindTheFirst_121 (N : Nat) (k17 : Int → aw_W → Option (aw_W)) (k82 : Int → Int → Int → aw_W → Option (aw_W)) (x2 x3 x4 : Int) (w : aw_W) : Option (aw_W) :=
  k82 x2 x3 (aw_w (x4 + 1)) w
theorem w_x_Waiting_behindTheFirst_121 {l : Launch} {K : aw_K} (N d : Nat) (hd : 2 ≤ d) (k17 : Int → aw_W → Option (aw_W)) (hk17 : ∀ (x2 : Int) (w v : aw_W), k17 x2 w = some v → aw_AW l K MX10_behindTheFirst (d + 1) 17 [(0, .inr (.inr 34)), (2, .inl x2)] [] w (none, v)) (k82 : Int → Int → Int → aw_W → Option (aw_W)) (hk82 : ∀ (x2 x3 x4 : Int) (w v : aw_W), k82 x2 x3 x4 w = some v → aw_AW l K MX10_behindTheFirst (d + 1) 82 [(0, .inr (.inr 34)), (2, .inl x2), (3, .inl x3), (4, .inl x4)] [] w (none, v)) : ∀ (x2 x3 x4 : Int) (w v : aw_W), x_Waiting_behindTheFirst_121 N k17 k82 x2 x3 x4 w = some v → aw_AW l K MX10_behindTheFirst (d + 1) 121 [(0, .inr (.inr 34)), (2, .inl x2), (3, .inl x3), (4, .inl x4)] [] w (none, v) := by
  intro x2 x3 x4 w v h
  unfold x_Waiting_behindTheFirst_121 at h
  refine aw_iinc (pc := 121) (q := 3) (ls' := [(4, .inl (aw_w (x4 + 1))), (0, .inr (.inr 34)), (2, .inl x2), (3, .inl x3)]) dX10_behindTheFirst_121 rfl (by decide) rfl ?_
  refine aw_goto (pc := 124) (tgt := 82) dX10_behindTheFirst_124 (by decide) ?_
  exact aw_sel [1, 2, 3, 0] rfl (hk82 _ _ _ _ _ h)
def x_Waiting_behindTheFirst_82 (N : Nat) (k17 : Int → aw_W → Option (aw_W)) : Nat → Int → Int → Int → aw_W → Option (aw_W)
  | 0, _, _, _, _ => none
  | n + 1, x2, x3, x4, w =>
    aw_b2 (x_Land_all N w) fun r1 w1 =>
      if r1 < x4 then
        x_Waiting_behindTheFirst_127 N k17 x2 w1
      else
        if 64 ≤ x4 then
          x_Waiting_behindTheFirst_127 N k17 x2 w1
        else
          if (aw_and (aw_shr x4 x3) 1) = 0 then
            aw_b1 (x_Waiting_decide N x2 x3 x4 w1) fun w2 =>
              x_Waiting_behindTheFirst_121 N k17 (x_Waiting_behindTheFirst_82 N k17 n) x2 x3 x4 w2
          else
            x_Waiting_behindTheFirst_121 N k17 (x_Waiting_behindTheFirst_82 N k17 n) x2 x3 x4 w1
theorem w_x_Waiting_behindTheFirst_82 {l : Launch} {K : aw_K} (N d : Nat) (hd : 2 ≤ d) (k17 : Int → aw_W → Option (aw_W)) (hk17 : ∀ (x2 : Int) (w v : aw_W), k17 x2 w = some v → aw_AW l K MX10_behindTheFirst (d + 1) 17 [(0, .inr (.inr 34)), (2, .inl x2)] [] w (none, v)) : ∀ (n : Nat) (x2 x3 x4 : Int) (w v : aw_W), x_Waiting_behindTheFirst_82 N k17 n x2 x3 x4 w = some v → aw_AW l K MX10_behindTheFirst (d + 1) 82 [(0, .inr (.inr 34)), (2, .inl x2), (3, .inl x3), (4, .inl x4)] [] w (none, v) := by
  intro n
  induction n with
  | zero => intro x2 x3 x4 w v h; rw [x_Waiting_behindTheFirst_82] at h; cases h
  | succ n ih =>
    intro x2 x3 x4 w v h
    rw [x_Waiting_behindTheFirst_82] at h
    refine aw_iload (pc := 82) (q := 3) dX10_behindTheFirst_82 rfl ?_
    refine aw_aload_n (pc := 84) (q := 0) dX10_behindTheFirst_84 rfl ?_
    refine aw_getf (pc := 85) (v := .inr (.inr 3)) dX10_behindTheFirst_85 fl_RX10_26 (by decide) rfl rfl rfl ?_
    obtain ⟨r1, w1, h1, h⟩ := aw_b2s h
    refine aw_callV (pc := 88) (as := []) (st := [.inl x4]) (st' := [.inl r1, .inl x4]) dX10_behindTheFirst_88 cv_RX10_51 (by decide) rfl rfl rfl rfl (Nat.le_of_ble_eq_true rfl) (w_x_Land_all N d (by omega) _ _ _ h1) rfl ?_
    refine aw_icmp_gt (pc := 91) (tgt := 127) dX10_behindTheFirst_91 (by decide) (fun hc => ?_) (fun hc => ?_)
    · rw [if_pos hc] at h
      exact aw_sel [0, 1] rfl (w_x_Waiting_behindTheFirst_127 N d hd  _ hk17 _ _ _ h)
    · rw [if_neg hc] at h
      refine aw_iload (pc := 94) (q := 3) dX10_behindTheFirst_94 rfl ?_
      refine aw_aload_n (pc := 96) (q := 0) dX10_behindTheFirst_96 rfl ?_
      refine aw_getf (pc := 97) (v := .inr (.inr 35)) dX10_behindTheFirst_97 fl_RX10_9 (by decide) rfl rfl rfl ?_
      refine aw_alenv (pc := 100) (x := 64) dX10_behindTheFirst_100 (by decide) rfl (by decide) rfl ⟨by decide, by decide⟩ ?_
      refine aw_icmp_ge (pc := 101) (tgt := 127) dX10_behindTheFirst_101 (by decide) (fun hc => ?_) (fun hc => ?_)
      · rw [if_pos hc] at h
        exact aw_sel [0, 1] rfl (w_x_Waiting_behindTheFirst_127 N d hd  _ hk17 _ _ _ h)
      · rw [if_neg hc] at h
        refine aw_iload (pc := 104) (q := 3) dX10_behindTheFirst_104 rfl ?_
        refine aw_iload_n (pc := 106) (q := 2) dX10_behindTheFirst_106 rfl ?_
        refine aw_ishr (pc := 107) dX10_behindTheFirst_107 ?_
        refine aw_iconst (pc := 108) dX10_behindTheFirst_108 ⟨by decide, by decide⟩ ?_
        refine aw_iand (pc := 109) dX10_behindTheFirst_109 ?_
        refine aw_if_ne (pc := 110) (tgt := 121) dX10_behindTheFirst_110 (by decide) (fun hc => ?_) (fun hc => ?_)
        · rw [if_neg hc] at h
          exact aw_sel [0, 1, 2, 3] rfl (w_x_Waiting_behindTheFirst_121 N d hd  _ hk17 _ ih _ _ _ _ _ h)
        · rw [if_pos hc] at h
          refine aw_aload_n (pc := 113) (q := 0) dX10_behindTheFirst_113 rfl ?_
          refine aw_iload_n (pc := 114) (q := 1) dX10_behindTheFirst_114 rfl ?_
          refine aw_iload_n (pc := 115) (q := 2) dX10_behindTheFirst_115 rfl ?_
          refine aw_iload (pc := 116) (q := 3) dX10_behindTheFirst_116 rfl ?_
          obtain ⟨w2, h2, h⟩ := aw_b1s h
          refine aw_callV (pc := 118) (as := [.inl x2, .inl x3, .inl x4]) (st := []) (st' := []) dX10_behindTheFirst_118 cv_RX10_55 (by decide) rfl rfl rfl rfl (Nat.le_of_ble_eq_true rfl) (w_x_Waiting_decide N d (by omega) _ _ _ _ _ h2) rfl ?_
          exact aw_sel [0, 1, 2, 3] rfl (w_x_Waiting_behindTheFirst_121 N d hd  _ hk17 _ ih _ _ _ _ _ h)
def x_Waiting_behindTheFirst_71 (N : Nat) (k17 : Int → aw_W → Option (aw_W)) (x2 x3 s0 s1 : Int) (w : aw_W) : Option (aw_W) :=
  if 0 ≤ s1 ∧ s1 < 60 then
    if 0 ≤ x2 ∧ x2 < 60 then
      x_Waiting_behindTheFirst_82 N k17 N x2 x3 1 (aw_up (aw_up w 37 s1.toNat s0) 36 x2.toNat 0)
    else none
  else none
theorem w_x_Waiting_behindTheFirst_71 {l : Launch} {K : aw_K} (N d : Nat) (hd : 2 ≤ d) (k17 : Int → aw_W → Option (aw_W)) (hk17 : ∀ (x2 : Int) (w v : aw_W), k17 x2 w = some v → aw_AW l K MX10_behindTheFirst (d + 1) 17 [(0, .inr (.inr 34)), (2, .inl x2)] [] w (none, v)) : ∀ (x2 x3 s0 s1 : Int) (w v : aw_W), x_Waiting_behindTheFirst_71 N k17 x2 x3 s0 s1 w = some v → aw_AW l K MX10_behindTheFirst (d + 1) 71 [(0, .inr (.inr 34)), (2, .inl x2), (3, .inl x3)] [.inl s0, .inl s1, .inr (.inr 37)] w (none, v) := by
  intro x2 x3 s0 s1 w v h
  unfold x_Waiting_behindTheFirst_71 at h
  obtain ⟨hb, h⟩ := aw_cks h
  refine aw_iast (pc := 71) dX10_behindTheFirst_71 rfl hb.1 hb.2 ?_
  refine aw_aload_n (pc := 72) (q := 0) dX10_behindTheFirst_72 rfl ?_
  refine aw_getf (pc := 73) (v := .inr (.inr 36)) dX10_behindTheFirst_73 fl_RX10_15 (by decide) rfl rfl rfl ?_
  refine aw_iload_n (pc := 76) (q := 1) dX10_behindTheFirst_76 rfl ?_
  refine aw_lconst (pc := 77) (x := 0) dX10_behindTheFirst_77 (by decide) ⟨by decide, by decide⟩ ?_
  obtain ⟨hb, h⟩ := aw_cks h
  refine aw_last (pc := 78) dX10_behindTheFirst_78 rfl hb.1 hb.2 ?_
  refine aw_iconst (pc := 79) dX10_behindTheFirst_79 ⟨by decide, by decide⟩ ?_
  refine aw_istore (pc := 80) (ls' := [(4, .inl 1), (0, .inr (.inr 34)), (2, .inl x2), (3, .inl x3)]) dX10_behindTheFirst_80 (by decide) rfl ?_
  exact aw_sel [1, 2, 3, 0] rfl (w_x_Waiting_behindTheFirst_82 N d hd  _ hk17 N _ _ _ _ _ h)
def x_Waiting_behindTheFirst_17 (N : Nat) : Nat → Int → aw_W → Option (aw_W)
  | 0, _, _ => none
  | n + 1, x2, w =>
    if x2 < 0 then
      x_Waiting_behindTheFirst_133 N w
    else
      if (w 3 4) ≤ 0 then
        x_Waiting_behindTheFirst_133 N w
      else
        if ¬ (w 3 4) = 0 then
          if (w 5 0) = 1 then
            x_Waiting_behindTheFirst_71 N (x_Waiting_behindTheFirst_17 N n) x2 (aw_w (Int.tmod x2 (w 3 4))) (aw_w (Int.tmod x2 (w 3 4))) x2 w
          else
            if 0 ≤ (aw_shl 1 (aw_w (Int.tmod x2 (w 3 4)))) ∧ (aw_shl 1 (aw_w (Int.tmod x2 (w 3 4)))) < 64 then
              x_Waiting_behindTheFirst_71 N (x_Waiting_behindTheFirst_17 N n) x2 (aw_w (Int.tmod x2 (w 3 4))) (w 35 ((aw_shl 1 (aw_w (Int.tmod x2 (w 3 4)))).toNat)) x2 w
            else none
        else none
theorem w_x_Waiting_behindTheFirst_17 {l : Launch} {K : aw_K} (N d : Nat) (hd : 2 ≤ d) : ∀ (n : Nat) (x2 : Int) (w v : aw_W), x_Waiting_behindTheFirst_17 N n x2 w = some v → aw_AW l K MX10_behindTheFirst (d + 1) 17 [(0, .inr (.inr 34)), (2, .inl x2)] [] w (none, v) := by
  intro n
  induction n with
  | zero => intro x2 w v h; rw [x_Waiting_behindTheFirst_17] at h; cases h
  | succ n ih =>
    intro x2 w v h
    rw [x_Waiting_behindTheFirst_17] at h
    refine aw_iload_n (pc := 17) (q := 1) dX10_behindTheFirst_17 rfl ?_
    refine aw_if_lt (pc := 18) (tgt := 133) dX10_behindTheFirst_18 (by decide) (fun hc => ?_) (fun hc => ?_)
    · rw [if_pos hc] at h
      exact aw_sel [] rfl (w_x_Waiting_behindTheFirst_133 N d hd  _ _ h)
    · rw [if_neg hc] at h
      refine aw_aload_n (pc := 21) (q := 0) dX10_behindTheFirst_21 rfl ?_
      refine aw_getf (pc := 22) (v := .inr (.inr 3)) dX10_behindTheFirst_22 fl_RX10_26 (by decide) rfl rfl rfl ?_
      refine aw_getf (pc := 25) (v := .inl (w 3 4)) dX10_behindTheFirst_25 fl_RX10_42 (by decide) rfl rfl rfl ?_
      refine aw_if_le (pc := 28) (tgt := 133) dX10_behindTheFirst_28 (by decide) (fun hc => ?_) (fun hc => ?_)
      · rw [if_pos hc] at h
        exact aw_sel [] rfl (w_x_Waiting_behindTheFirst_133 N d hd  _ _ h)
      · rw [if_neg hc] at h
        refine aw_iload_n (pc := 31) (q := 1) dX10_behindTheFirst_31 rfl ?_
        refine aw_aload_n (pc := 32) (q := 0) dX10_behindTheFirst_32 rfl ?_
        refine aw_getf (pc := 33) (v := .inr (.inr 3)) dX10_behindTheFirst_33 fl_RX10_26 (by decide) rfl rfl rfl ?_
        refine aw_getf (pc := 36) (v := .inl (w 3 4)) dX10_behindTheFirst_36 fl_RX10_42 (by decide) rfl rfl rfl ?_
        obtain ⟨hy, h⟩ := aw_cks h
        refine aw_irem (pc := 39) dX10_behindTheFirst_39 hy ?_
        refine aw_istore_n (pc := 40) (ls' := [(3, .inl (aw_w (Int.tmod x2 (w 3 4)))), (0, .inr (.inr 34)), (2, .inl x2)]) dX10_behindTheFirst_40 (by decide) rfl ?_
        refine aw_aload_n (pc := 41) (q := 1) dX10_behindTheFirst_41 rfl ?_
        refine aw_getf (pc := 42) (v := .inr (.inr 37)) dX10_behindTheFirst_42 fl_RX10_19 (by decide) rfl rfl rfl ?_
        refine aw_iload_n (pc := 45) (q := 2) dX10_behindTheFirst_45 rfl ?_
        refine aw_aload_n (pc := 46) (q := 1) dX10_behindTheFirst_46 rfl ?_
        refine aw_getf (pc := 47) (v := .inr (.inr 3)) dX10_behindTheFirst_47 fl_RX10_26 (by decide) rfl rfl rfl ?_
        refine aw_getf (pc := 50) (v := .inr (.inr 5)) dX10_behindTheFirst_50 fl_RX10_48 (by decide) rfl rfl rfl ?_
        refine aw_iconst (pc := 53) dX10_behindTheFirst_53 ⟨by decide, by decide⟩ ?_
        refine aw_ialdv (pc := 54) (v := w 5 0) dX10_behindTheFirst_54 rfl (by decide) (by decide) rfl ?_
        refine aw_iconst (pc := 55) dX10_behindTheFirst_55 ⟨by decide, by decide⟩ ?_
        refine aw_icmp_ne (pc := 56) (tgt := 63) dX10_behindTheFirst_56 (by decide) (fun hc => ?_) (fun hc => ?_)
        · rw [if_neg hc] at h
          refine aw_aload_n (pc := 63) (q := 1) dX10_behindTheFirst_63 rfl ?_
          refine aw_getf (pc := 64) (v := .inr (.inr 35)) dX10_behindTheFirst_64 fl_RX10_9 (by decide) rfl rfl rfl ?_
          refine aw_iconst (pc := 67) dX10_behindTheFirst_67 ⟨by decide, by decide⟩ ?_
          refine aw_iload_n (pc := 68) (q := 0) dX10_behindTheFirst_68 rfl ?_
          refine aw_ishl (pc := 69) dX10_behindTheFirst_69 ?_
          obtain ⟨hb, h⟩ := aw_cks h
          refine aw_ialdv (pc := 70) (v := w 35 ((aw_shl 1 (aw_w (Int.tmod x2 (w 3 4)))).toNat)) dX10_behindTheFirst_70 rfl hb.1 hb.2 rfl ?_
          exact aw_sel [1, 2, 0] rfl (w_x_Waiting_behindTheFirst_71 N d hd  _ ih _ _ _ _ _ _ h)
        · rw [if_pos hc] at h
          refine aw_iload_n (pc := 59) (q := 0) dX10_behindTheFirst_59 rfl ?_
          refine aw_goto (pc := 60) (tgt := 71) dX10_behindTheFirst_60 (by decide) ?_
          exact aw_sel [1, 2, 0] rfl (w_x_Waiting_behindTheFirst_71 N d hd  _ ih _ _ _ _ _ _ h)
def x_Waiting_behindTheFirst (N : Nat) (x1 : Int) (w : aw_W) : Option (aw_W) :=
  aw_b1 (j_Arr_fill_Ii_35 N (-1) w) fun w1 =>
    x_Waiting_behindTheFirst_17 N N (aw_w ((aw_mn x1 60) - 1)) w1
theorem w_x_Waiting_behindTheFirst_d {l : Launch} {K : aw_K} (N d : Nat) (hd : 2 ≤ d) : ∀ (x1 : Int) (w v : aw_W), x_Waiting_behindTheFirst N x1 w = some v → aw_Met l K MX10_behindTheFirst (d + 1) [.inr (.inr 34), .inl x1] w (none, v) := by
  intro x1 w v h
  unfold x_Waiting_behindTheFirst at h
  refine aw_enter rfl (Nat.le_of_ble_eq_true rfl) ?_
  show aw_AW l K MX10_behindTheFirst (d + 1) 0 [(0, .inr (.inr 34)), (1, .inl x1)] [] w (none, v)
  refine aw_aload_n (pc := 0) (q := 0) dX10_behindTheFirst_0 rfl ?_
  refine aw_getf (pc := 1) (v := .inr (.inr 35)) dX10_behindTheFirst_1 fl_RX10_9 (by decide) rfl rfl rfl ?_
  refine aw_iconst (pc := 4) dX10_behindTheFirst_4 ⟨by decide, by decide⟩ ?_
  obtain ⟨w1, h1, h⟩ := aw_b1s h
  refine aw_callS (pc := 5) (as := [.inr (.inr 35), .inl (-1)]) (st := []) (st' := []) dX10_behindTheFirst_5 cs_RX10_30 rfl rfl (Nat.le_of_ble_eq_true rfl) (w_j_Arr_fill_Ii_35 N d (by omega) _ _ _ h1) rfl ?_
  refine aw_iload_n (pc := 8) (q := 1) dX10_behindTheFirst_8 rfl ?_
  refine aw_bipush (pc := 9) dX10_behindTheFirst_9 (by decide) ⟨by decide, by decide⟩ ?_
  refine aw_mmin (pc := 11) dX10_behindTheFirst_11 cm_RX10_36 (Nat.le_of_ble_eq_true rfl) ?_
  refine aw_iconst (pc := 14) dX10_behindTheFirst_14 ⟨by decide, by decide⟩ ?_
  refine aw_isub (pc := 15) dX10_behindTheFirst_15 ?_
  refine aw_istore_n (pc := 16) (ls' := [(2, .inl (aw_w ((aw_mn x1 60) - 1))), (0, .inr (.inr 34)), (1, .inl x1)]) dX10_behindTheFirst_16 (by decide) rfl ?_
  exact aw_sel [1, 0] rfl (w_x_Waiting_behindTheFirst_17 N d hd  N _ _ _ h)
theorem w_x_Waiting_behindTheFirst {l : Launch} {K : aw_K} (N d : Nat) (hd : 3 ≤ d) : ∀ (x1 : Int) (w v : aw_W), x_Waiting_behindTheFirst N x1 w = some v → aw_Met l K MX10_behindTheFirst (d) [.inr (.inr 34), .inl x1] w (none, v) := by
  obtain ⟨e, rfl⟩ : ∃ e, d = e + 1 := ⟨d - 1, by omega⟩
  exact w_x_Waiting_behindTheFirst_d N e (by omega)
theorem dX10_tillTheFirst_0 : decode cX10_tillTheFirst 0 = .ok (.iconst (-1), 1) := by decide +kernel
theorem dX10_tillTheFirst_1 : decode cX10_tillTheFirst 1 = .ok (.istore_n 3, 1) := by decide +kernel
theorem dX10_tillTheFirst_2 : decode cX10_tillTheFirst 2 = .ok (.iconst (-1), 1) := by decide +kernel
theorem dX10_tillTheFirst_3 : decode cX10_tillTheFirst 3 = .ok (.istore 4, 2) := by decide +kernel
theorem dX10_tillTheFirst_5 : decode cX10_tillTheFirst 5 = .ok (.iload_n 1, 1) := by decide +kernel
theorem dX10_tillTheFirst_6 : decode cX10_tillTheFirst 6 = .ok (.bipush 60, 2) := by decide +kernel
theorem dX10_tillTheFirst_8 : decode cX10_tillTheFirst 8 = .ok (.invokestatic 36, 3) := by decide +kernel
theorem dX10_tillTheFirst_11 : decode cX10_tillTheFirst 11 = .ok (.iconst 1, 1) := by decide +kernel
theorem dX10_tillTheFirst_12 : decode cX10_tillTheFirst 12 = .ok (.isub, 1) := by decide +kernel
theorem dX10_tillTheFirst_13 : decode cX10_tillTheFirst 13 = .ok (.istore 5, 2) := by decide +kernel
theorem dX10_tillTheFirst_15 : decode cX10_tillTheFirst 15 = .ok (.iload 5, 2) := by decide +kernel
theorem dX10_tillTheFirst_17 : decode cX10_tillTheFirst 17 = .ok (.ifCond .lt 134, 3) := by decide +kernel
theorem dX10_tillTheFirst_20 : decode cX10_tillTheFirst 20 = .ok (.aload_n 0, 1) := by decide +kernel
theorem dX10_tillTheFirst_21 : decode cX10_tillTheFirst 21 = .ok (.getfield 26, 3) := by decide +kernel
theorem dX10_tillTheFirst_24 : decode cX10_tillTheFirst 24 = .ok (.getfield 42, 3) := by decide +kernel
theorem dX10_tillTheFirst_27 : decode cX10_tillTheFirst 27 = .ok (.ifCond .le 124, 3) := by decide +kernel
theorem dX10_tillTheFirst_30 : decode cX10_tillTheFirst 30 = .ok (.iload 5, 2) := by decide +kernel
theorem dX10_tillTheFirst_32 : decode cX10_tillTheFirst 32 = .ok (.aload_n 0, 1) := by decide +kernel
theorem dX10_tillTheFirst_33 : decode cX10_tillTheFirst 33 = .ok (.getfield 26, 3) := by decide +kernel
theorem dX10_tillTheFirst_36 : decode cX10_tillTheFirst 36 = .ok (.getfield 42, 3) := by decide +kernel
theorem dX10_tillTheFirst_39 : decode cX10_tillTheFirst 39 = .ok (.irem, 1) := by decide +kernel
theorem dX10_tillTheFirst_40 : decode cX10_tillTheFirst 40 = .ok (.istore 6, 2) := by decide +kernel
theorem dX10_tillTheFirst_42 : decode cX10_tillTheFirst 42 = .ok (.aload_n 0, 1) := by decide +kernel
theorem dX10_tillTheFirst_43 : decode cX10_tillTheFirst 43 = .ok (.getfield 26, 3) := by decide +kernel
theorem dX10_tillTheFirst_46 : decode cX10_tillTheFirst 46 = .ok (.iload 6, 2) := by decide +kernel
theorem dX10_tillTheFirst_48 : decode cX10_tillTheFirst 48 = .ok (.iconst 1, 1) := by decide +kernel
theorem dX10_tillTheFirst_49 : decode cX10_tillTheFirst 49 = .ok (.invokevirtual 65, 3) := by decide +kernel
theorem dX10_tillTheFirst_52 : decode cX10_tillTheFirst 52 = .ok (.istore 7, 2) := by decide +kernel
theorem dX10_tillTheFirst_54 : decode cX10_tillTheFirst 54 = .ok (.aload_n 0, 1) := by decide +kernel
theorem dX10_tillTheFirst_55 : decode cX10_tillTheFirst 55 = .ok (.getfield 26, 3) := by decide +kernel
theorem dX10_tillTheFirst_58 : decode cX10_tillTheFirst 58 = .ok (.getfield 48, 3) := by decide +kernel
theorem dX10_tillTheFirst_61 : decode cX10_tillTheFirst 61 = .ok (.iconst 0, 1) := by decide +kernel
theorem dX10_tillTheFirst_62 : decode cX10_tillTheFirst 62 = .ok (.iaload, 1) := by decide +kernel
theorem dX10_tillTheFirst_63 : decode cX10_tillTheFirst 63 = .ok (.iconst 1, 1) := by decide +kernel
theorem dX10_tillTheFirst_64 : decode cX10_tillTheFirst 64 = .ok (.if_icmp .ne 8, 3) := by decide +kernel
theorem dX10_tillTheFirst_67 : decode cX10_tillTheFirst 67 = .ok (.iload 7, 2) := by decide +kernel
theorem dX10_tillTheFirst_69 : decode cX10_tillTheFirst 69 = .ok (.goto 4, 3) := by decide +kernel
theorem dX10_tillTheFirst_72 : decode cX10_tillTheFirst 72 = .ok (.iconst 0, 1) := by decide +kernel
theorem dX10_tillTheFirst_73 : decode cX10_tillTheFirst 73 = .ok (.iload_n 2, 1) := by decide +kernel
theorem dX10_tillTheFirst_74 : decode cX10_tillTheFirst 74 = .ok (.isub, 1) := by decide +kernel
theorem dX10_tillTheFirst_75 : decode cX10_tillTheFirst 75 = .ok (.istore 8, 2) := by decide +kernel
theorem dX10_tillTheFirst_77 : decode cX10_tillTheFirst 77 = .ok (.iload 4, 2) := by decide +kernel
theorem dX10_tillTheFirst_79 : decode cX10_tillTheFirst 79 = .ok (.iload 6, 2) := by decide +kernel
theorem dX10_tillTheFirst_81 : decode cX10_tillTheFirst 81 = .ok (.if_icmp .ne 8, 3) := by decide +kernel
theorem dX10_tillTheFirst_84 : decode cX10_tillTheFirst 84 = .ok (.iload 7, 2) := by decide +kernel
theorem dX10_tillTheFirst_86 : decode cX10_tillTheFirst 86 = .ok (.goto 4, 3) := by decide +kernel
theorem dX10_tillTheFirst_89 : decode cX10_tillTheFirst 89 = .ok (.iconst 0, 1) := by decide +kernel
theorem dX10_tillTheFirst_90 : decode cX10_tillTheFirst 90 = .ok (.iload_n 3, 1) := by decide +kernel
theorem dX10_tillTheFirst_91 : decode cX10_tillTheFirst 91 = .ok (.iload 6, 2) := by decide +kernel
theorem dX10_tillTheFirst_93 : decode cX10_tillTheFirst 93 = .ok (.if_icmp .ne 7, 3) := by decide +kernel
theorem dX10_tillTheFirst_96 : decode cX10_tillTheFirst 96 = .ok (.iload_n 2, 1) := by decide +kernel
theorem dX10_tillTheFirst_97 : decode cX10_tillTheFirst 97 = .ok (.goto 4, 3) := by decide +kernel
theorem dX10_tillTheFirst_100 : decode cX10_tillTheFirst 100 = .ok (.iconst 0, 1) := by decide +kernel
theorem dX10_tillTheFirst_101 : decode cX10_tillTheFirst 101 = .ok (.isub, 1) := by decide +kernel
theorem dX10_tillTheFirst_102 : decode cX10_tillTheFirst 102 = .ok (.istore 9, 2) := by decide +kernel
theorem dX10_tillTheFirst_104 : decode cX10_tillTheFirst 104 = .ok (.aload_n 0, 1) := by decide +kernel
theorem dX10_tillTheFirst_105 : decode cX10_tillTheFirst 105 = .ok (.getfield 22, 3) := by decide +kernel
theorem dX10_tillTheFirst_108 : decode cX10_tillTheFirst 108 = .ok (.iload 5, 2) := by decide +kernel
theorem dX10_tillTheFirst_110 : decode cX10_tillTheFirst 110 = .ok (.iload 8, 2) := by decide +kernel
theorem dX10_tillTheFirst_112 : decode cX10_tillTheFirst 112 = .ok (.iload 9, 2) := by decide +kernel
theorem dX10_tillTheFirst_114 : decode cX10_tillTheFirst 114 = .ok (.if_icmp .le 7, 3) := by decide +kernel
theorem dX10_tillTheFirst_117 : decode cX10_tillTheFirst 117 = .ok (.iconst 1, 1) := by decide +kernel
theorem dX10_tillTheFirst_118 : decode cX10_tillTheFirst 118 = .ok (.goto 4, 3) := by decide +kernel
theorem dX10_tillTheFirst_121 : decode cX10_tillTheFirst 121 = .ok (.iconst 0, 1) := by decide +kernel
theorem dX10_tillTheFirst_122 : decode cX10_tillTheFirst 122 = .ok (.bastore, 1) := by decide +kernel
theorem dX10_tillTheFirst_123 : decode cX10_tillTheFirst 123 = .ok (.aload_n 0, 1) := by decide +kernel
theorem dX10_tillTheFirst_124 : decode cX10_tillTheFirst 124 = .ok (.getfield 22, 3) := by decide +kernel
theorem dX10_tillTheFirst_127 : decode cX10_tillTheFirst 127 = .ok (.iload 5, 2) := by decide +kernel
theorem dX10_tillTheFirst_129 : decode cX10_tillTheFirst 129 = .ok (.baload, 1) := by decide +kernel
theorem dX10_tillTheFirst_130 : decode cX10_tillTheFirst 130 = .ok (.ifCond .eq 15, 3) := by decide +kernel
theorem dX10_tillTheFirst_133 : decode cX10_tillTheFirst 133 = .ok (.iload 6, 2) := by decide +kernel
theorem dX10_tillTheFirst_135 : decode cX10_tillTheFirst 135 = .ok (.istore_n 3, 1) := by decide +kernel
theorem dX10_tillTheFirst_136 : decode cX10_tillTheFirst 136 = .ok (.aload_n 0, 1) := by decide +kernel
theorem dX10_tillTheFirst_137 : decode cX10_tillTheFirst 137 = .ok (.getfield 19, 3) := by decide +kernel
theorem dX10_tillTheFirst_140 : decode cX10_tillTheFirst 140 = .ok (.iload 5, 2) := by decide +kernel
theorem dX10_tillTheFirst_142 : decode cX10_tillTheFirst 142 = .ok (.iaload, 1) := by decide +kernel
theorem dX10_tillTheFirst_143 : decode cX10_tillTheFirst 143 = .ok (.istore 4, 2) := by decide +kernel
theorem dX10_tillTheFirst_145 : decode cX10_tillTheFirst 145 = .ok (.iinc 5 (-1), 3) := by decide +kernel
theorem dX10_tillTheFirst_148 : decode cX10_tillTheFirst 148 = .ok (.goto (-133), 3) := by decide +kernel
theorem dX10_tillTheFirst_151 : decode cX10_tillTheFirst 151 = .ok (.iload 4, 2) := by decide +kernel
theorem dX10_tillTheFirst_153 : decode cX10_tillTheFirst 153 = .ok (.ireturn, 1) := by decide +kernel
def x_Waiting_tillTheFirst_151 (N : Nat) (x4 : Int) (w : aw_W) : Option (Int × aw_W) :=
  some (x4, w)
theorem w_x_Waiting_tillTheFirst_151 {l : Launch} {K : aw_K} (N d : Nat) (hd : 1 ≤ d) : ∀ (x4 : Int) (w : aw_W) (y : Int) (v : aw_W), x_Waiting_tillTheFirst_151 N x4 w = some (y, v) → aw_AW l K MX10_tillTheFirst (d + 1) 151 [(4, .inl x4)] [] w (some (.inl y), v) := by
  intro x4 w y v h
  unfold x_Waiting_tillTheFirst_151 at h
  refine aw_iload (pc := 151) (q := 0) dX10_tillTheFirst_151 rfl ?_
  cases h
  exact aw_iret (pc := 153) rfl dX10_tillTheFirst_153
def x_Waiting_tillTheFirst_145 (N : Nat) (k15 : Int → Int → Int → Int → aw_W → Option (Int × aw_W)) (x2 x3 x4 x5 : Int) (w : aw_W) : Option (Int × aw_W) :=
  k15 x2 x3 x4 (aw_w (x5 + (-1))) w
theorem w_x_Waiting_tillTheFirst_145 {l : Launch} {K : aw_K} (N d : Nat) (hd : 1 ≤ d) (k15 : Int → Int → Int → Int → aw_W → Option (Int × aw_W)) (hk15 : ∀ (x2 x3 x4 x5 : Int) (w : aw_W) (y : Int) (v : aw_W), k15 x2 x3 x4 x5 w = some (y, v) → aw_AW l K MX10_tillTheFirst (d + 1) 15 [(0, .inr (.inr 34)), (2, .inl x2), (3, .inl x3), (4, .inl x4), (5, .inl x5)] [] w (some (.inl y), v)) : ∀ (x2 x3 x4 x5 : Int) (w : aw_W) (y : Int) (v : aw_W), x_Waiting_tillTheFirst_145 N k15 x2 x3 x4 x5 w = some (y, v) → aw_AW l K MX10_tillTheFirst (d + 1) 145 [(0, .inr (.inr 34)), (2, .inl x2), (3, .inl x3), (4, .inl x4), (5, .inl x5)] [] w (some (.inl y), v) := by
  intro x2 x3 x4 x5 w y v h
  unfold x_Waiting_tillTheFirst_145 at h
  refine aw_iinc (pc := 145) (q := 4) (ls' := [(5, .inl (aw_w (x5 + (-1)))), (0, .inr (.inr 34)), (2, .inl x2), (3, .inl x3), (4, .inl x4)]) dX10_tillTheFirst_145 rfl (by decide) rfl ?_
  refine aw_goto (pc := 148) (tgt := 15) dX10_tillTheFirst_148 (by decide) ?_
  exact aw_sel [1, 2, 3, 4, 0] rfl (hk15 _ _ _ _ _ _ _ h)
def x_Waiting_tillTheFirst_122 (N : Nat) (k15 : Int → Int → Int → Int → aw_W → Option (Int × aw_W)) (x2 x3 x4 x5 x6 s0 s1 : Int) (w : aw_W) : Option (Int × aw_W) :=
  if 0 ≤ s1 ∧ s1 < 60 then
    if s0 = 0 ∨ s0 = 1 then
      if 0 ≤ x5 ∧ x5 < 60 then
        if ((aw_up w 38 s1.toNat s0) 38 x5.toNat) = 0 then
          x_Waiting_tillTheFirst_145 N k15 x2 x3 x4 x5 (aw_up w 38 s1.toNat s0)
        else
          if 0 ≤ x5 ∧ x5 < 60 then
            x_Waiting_tillTheFirst_145 N k15 x2 x6 (w 37 x5.toNat) x5 (aw_up w 38 s1.toNat s0)
          else none
      else none
    else none
  else none
theorem w_x_Waiting_tillTheFirst_122 {l : Launch} {K : aw_K} (N d : Nat) (hd : 1 ≤ d) (k15 : Int → Int → Int → Int → aw_W → Option (Int × aw_W)) (hk15 : ∀ (x2 x3 x4 x5 : Int) (w : aw_W) (y : Int) (v : aw_W), k15 x2 x3 x4 x5 w = some (y, v) → aw_AW l K MX10_tillTheFirst (d + 1) 15 [(0, .inr (.inr 34)), (2, .inl x2), (3, .inl x3), (4, .inl x4), (5, .inl x5)] [] w (some (.inl y), v)) : ∀ (x2 x3 x4 x5 x6 s0 s1 : Int) (w : aw_W) (y : Int) (v : aw_W), x_Waiting_tillTheFirst_122 N k15 x2 x3 x4 x5 x6 s0 s1 w = some (y, v) → aw_AW l K MX10_tillTheFirst (d + 1) 122 [(0, .inr (.inr 34)), (2, .inl x2), (3, .inl x3), (4, .inl x4), (5, .inl x5), (6, .inl x6)] [.inl s0, .inl s1, .inr (.inr 38)] w (some (.inl y), v) := by
  intro x2 x3 x4 x5 x6 s0 s1 w y v h
  unfold x_Waiting_tillTheFirst_122 at h
  obtain ⟨hb, h⟩ := aw_cks h
  obtain ⟨hz, h⟩ := aw_cks h
  refine aw_zast (pc := 122) dX10_tillTheFirst_122 rfl hb.1 hb.2 hz ?_
  refine aw_aload_n (pc := 123) (q := 0) dX10_tillTheFirst_123 rfl ?_
  refine aw_getf (pc := 124) (v := .inr (.inr 38)) dX10_tillTheFirst_124 fl_RX10_22 (by decide) rfl rfl rfl ?_
  refine aw_iload (pc := 127) (q := 4) dX10_tillTheFirst_127 rfl ?_
  obtain ⟨hb, h⟩ := aw_cks h
  refine aw_zaldv (pc := 129) (v := (aw_up w 38 s1.toNat s0) 38 x5.toNat) dX10_tillTheFirst_129 rfl hb.1 hb.2 rfl ?_
  refine aw_if_eq (pc := 130) (tgt := 145) dX10_tillTheFirst_130 (by decide) (fun hc => ?_) (fun hc => ?_)
  · rw [if_pos hc] at h
    exact aw_sel [0, 1, 2, 3, 4] rfl (w_x_Waiting_tillTheFirst_145 N d hd  _ hk15 _ _ _ _ _ _ _ h)
  · rw [if_neg hc] at h
    refine aw_iload (pc := 133) (q := 5) dX10_tillTheFirst_133 rfl ?_
    refine aw_istore_n (pc := 135) (ls' := [(3, .inl x6), (0, .inr (.inr 34)), (2, .inl x2), (4, .inl x4), (5, .inl x5), (6, .inl x6)]) dX10_tillTheFirst_135 (by decide) rfl ?_
    refine aw_aload_n (pc := 136) (q := 1) dX10_tillTheFirst_136 rfl ?_
    refine aw_getf (pc := 137) (v := .inr (.inr 37)) dX10_tillTheFirst_137 fl_RX10_19 (by decide) rfl rfl rfl ?_
    refine aw_iload (pc := 140) (q := 4) dX10_tillTheFirst_140 rfl ?_
    obtain ⟨hb, h⟩ := aw_cks h
    refine aw_ialdv (pc := 142) (v := w 37 x5.toNat) dX10_tillTheFirst_142 rfl hb.1 hb.2 rfl ?_
    refine aw_istore (pc := 143) (ls' := [(4, .inl (w 37 x5.toNat)), (3, .inl x6), (0, .inr (.inr 34)), (2, .inl x2), (5, .inl x5), (6, .inl x6)]) dX10_tillTheFirst_143 (by decide) rfl ?_
    exact aw_sel [2, 3, 1, 0, 4] rfl (w_x_Waiting_tillTheFirst_145 N d hd  _ hk15 _ _ _ _ _ _ _ h)
def x_Waiting_tillTheFirst_101 (N : Nat) (k15 : Int → Int → Int → Int → aw_W → Option (Int × aw_W)) (x2 x3 x4 x5 x6 x8 s0 s1 : Int) (w : aw_W) : Option (Int × aw_W) :=
  if x8 ≤ (aw_w (s1 - s0)) then
    x_Waiting_tillTheFirst_122 N k15 x2 x3 x4 x5 x6 0 x5 w
  else
    x_Waiting_tillTheFirst_122 N k15 x2 x3 x4 x5 x6 1 x5 w
theorem w_x_Waiting_tillTheFirst_101 {l : Launch} {K : aw_K} (N d : Nat) (hd : 1 ≤ d) (k15 : Int → Int → Int → Int → aw_W → Option (Int × aw_W)) (hk15 : ∀ (x2 x3 x4 x5 : Int) (w : aw_W) (y : Int) (v : aw_W), k15 x2 x3 x4 x5 w = some (y, v) → aw_AW l K MX10_tillTheFirst (d + 1) 15 [(0, .inr (.inr 34)), (2, .inl x2), (3, .inl x3), (4, .inl x4), (5, .inl x5)] [] w (some (.inl y), v)) : ∀ (x2 x3 x4 x5 x6 x8 s0 s1 : Int) (w : aw_W) (y : Int) (v : aw_W), x_Waiting_tillTheFirst_101 N k15 x2 x3 x4 x5 x6 x8 s0 s1 w = some (y, v) → aw_AW l K MX10_tillTheFirst (d + 1) 101 [(0, .inr (.inr 34)), (2, .inl x2), (3, .inl x3), (4, .inl x4), (5, .inl x5), (6, .inl x6), (8, .inl x8)] [.inl s0, .inl s1] w (some (.inl y), v) := by
  intro x2 x3 x4 x5 x6 x8 s0 s1 w y v h
  unfold x_Waiting_tillTheFirst_101 at h
  refine aw_isub (pc := 101) dX10_tillTheFirst_101 ?_
  refine aw_istore (pc := 102) (ls' := [(9, .inl (aw_w (s1 - s0))), (0, .inr (.inr 34)), (2, .inl x2), (3, .inl x3), (4, .inl x4), (5, .inl x5), (6, .inl x6), (8, .inl x8)]) dX10_tillTheFirst_102 (by decide) rfl ?_
  refine aw_aload_n (pc := 104) (q := 1) dX10_tillTheFirst_104 rfl ?_
  refine aw_getf (pc := 105) (v := .inr (.inr 38)) dX10_tillTheFirst_105 fl_RX10_22 (by decide) rfl rfl rfl ?_
  refine aw_iload (pc := 108) (q := 5) dX10_tillTheFirst_108 rfl ?_
  refine aw_iload (pc := 110) (q := 7) dX10_tillTheFirst_110 rfl ?_
  refine aw_iload (pc := 112) (q := 0) dX10_tillTheFirst_112 rfl ?_
  refine aw_icmp_le (pc := 114) (tgt := 121) dX10_tillTheFirst_114 (by decide) (fun hc => ?_) (fun hc => ?_)
  · rw [if_pos hc] at h
    refine aw_iconst (pc := 121) dX10_tillTheFirst_121 ⟨by decide, by decide⟩ ?_
    exact aw_sel [1, 2, 3, 4, 5, 6] rfl (w_x_Waiting_tillTheFirst_122 N d hd  _ hk15 _ _ _ _ _ _ _ _ _ _ h)
  · rw [if_neg hc] at h
    refine aw_iconst (pc := 117) dX10_tillTheFirst_117 ⟨by decide, by decide⟩ ?_
    refine aw_goto (pc := 118) (tgt := 122) dX10_tillTheFirst_118 (by decide) ?_
    exact aw_sel [1, 2, 3, 4, 5, 6] rfl (w_x_Waiting_tillTheFirst_122 N d hd  _ hk15 _ _ _ _ _ _ _ _ _ _ h)
def x_Waiting_tillTheFirst_90 (N : Nat) (k15 : Int → Int → Int → Int → aw_W → Option (Int × aw_W)) (x2 x3 x4 x5 x6 x8 s0 : Int) (w : aw_W) : Option (Int × aw_W) :=
  if x3 = x6 then
    x_Waiting_tillTheFirst_101 N k15 x2 x3 x4 x5 x6 x8 x2 s0 w
  else
    x_Waiting_tillTheFirst_101 N k15 x2 x3 x4 x5 x6 x8 0 s0 w
theorem w_x_Waiting_tillTheFirst_90 {l : Launch} {K : aw_K} (N d : Nat) (hd : 1 ≤ d) (k15 : Int → Int → Int → Int → aw_W → Option (Int × aw_W)) (hk15 : ∀ (x2 x3 x4 x5 : Int) (w : aw_W) (y : Int) (v : aw_W), k15 x2 x3 x4 x5 w = some (y, v) → aw_AW l K MX10_tillTheFirst (d + 1) 15 [(0, .inr (.inr 34)), (2, .inl x2), (3, .inl x3), (4, .inl x4), (5, .inl x5)] [] w (some (.inl y), v)) : ∀ (x2 x3 x4 x5 x6 x8 s0 : Int) (w : aw_W) (y : Int) (v : aw_W), x_Waiting_tillTheFirst_90 N k15 x2 x3 x4 x5 x6 x8 s0 w = some (y, v) → aw_AW l K MX10_tillTheFirst (d + 1) 90 [(0, .inr (.inr 34)), (2, .inl x2), (3, .inl x3), (4, .inl x4), (5, .inl x5), (6, .inl x6), (8, .inl x8)] [.inl s0] w (some (.inl y), v) := by
  intro x2 x3 x4 x5 x6 x8 s0 w y v h
  unfold x_Waiting_tillTheFirst_90 at h
  refine aw_iload_n (pc := 90) (q := 2) dX10_tillTheFirst_90 rfl ?_
  refine aw_iload (pc := 91) (q := 5) dX10_tillTheFirst_91 rfl ?_
  refine aw_icmp_ne (pc := 93) (tgt := 100) dX10_tillTheFirst_93 (by decide) (fun hc => ?_) (fun hc => ?_)
  · rw [if_neg hc] at h
    refine aw_iconst (pc := 100) dX10_tillTheFirst_100 ⟨by decide, by decide⟩ ?_
    exact aw_sel [0, 1, 2, 3, 4, 5, 6] rfl (w_x_Waiting_tillTheFirst_101 N d hd  _ hk15 _ _ _ _ _ _ _ _ _ _ _ h)
  · rw [if_pos hc] at h
    refine aw_iload_n (pc := 96) (q := 1) dX10_tillTheFirst_96 rfl ?_
    refine aw_goto (pc := 97) (tgt := 101) dX10_tillTheFirst_97 (by decide) ?_
    exact aw_sel [0, 1, 2, 3, 4, 5, 6] rfl (w_x_Waiting_tillTheFirst_101 N d hd  _ hk15 _ _ _ _ _ _ _ _ _ _ _ h)
def x_Waiting_tillTheFirst_73 (N : Nat) (k15 : Int → Int → Int → Int → aw_W → Option (Int × aw_W)) (x2 x3 x4 x5 x6 x7 s0 : Int) (w : aw_W) : Option (Int × aw_W) :=
  if x4 = x6 then
    x_Waiting_tillTheFirst_90 N k15 x2 x3 x4 x5 x6 (aw_w (s0 - x2)) x7 w
  else
    x_Waiting_tillTheFirst_90 N k15 x2 x3 x4 x5 x6 (aw_w (s0 - x2)) 0 w
theorem w_x_Waiting_tillTheFirst_73 {l : Launch} {K : aw_K} (N d : Nat) (hd : 1 ≤ d) (k15 : Int → Int → Int → Int → aw_W → Option (Int × aw_W)) (hk15 : ∀ (x2 x3 x4 x5 : Int) (w : aw_W) (y : Int) (v : aw_W), k15 x2 x3 x4 x5 w = some (y, v) → aw_AW l K MX10_tillTheFirst (d + 1) 15 [(0, .inr (.inr 34)), (2, .inl x2), (3, .inl x3), (4, .inl x4), (5, .inl x5)] [] w (some (.inl y), v)) : ∀ (x2 x3 x4 x5 x6 x7 s0 : Int) (w : aw_W) (y : Int) (v : aw_W), x_Waiting_tillTheFirst_73 N k15 x2 x3 x4 x5 x6 x7 s0 w = some (y, v) → aw_AW l K MX10_tillTheFirst (d + 1) 73 [(0, .inr (.inr 34)), (2, .inl x2), (3, .inl x3), (4, .inl x4), (5, .inl x5), (6, .inl x6), (7, .inl x7)] [.inl s0] w (some (.inl y), v) := by
  intro x2 x3 x4 x5 x6 x7 s0 w y v h
  unfold x_Waiting_tillTheFirst_73 at h
  refine aw_iload_n (pc := 73) (q := 1) dX10_tillTheFirst_73 rfl ?_
  refine aw_isub (pc := 74) dX10_tillTheFirst_74 ?_
  refine aw_istore (pc := 75) (ls' := [(8, .inl (aw_w (s0 - x2))), (0, .inr (.inr 34)), (2, .inl x2), (3, .inl x3), (4, .inl x4), (5, .inl x5), (6, .inl x6), (7, .inl x7)]) dX10_tillTheFirst_75 (by decide) rfl ?_
  refine aw_iload (pc := 77) (q := 4) dX10_tillTheFirst_77 rfl ?_
  refine aw_iload (pc := 79) (q := 6) dX10_tillTheFirst_79 rfl ?_
  refine aw_icmp_ne (pc := 81) (tgt := 89) dX10_tillTheFirst_81 (by decide) (fun hc => ?_) (fun hc => ?_)
  · rw [if_neg hc] at h
    refine aw_iconst (pc := 89) dX10_tillTheFirst_89 ⟨by decide, by decide⟩ ?_
    exact aw_sel [1, 2, 3, 4, 5, 6, 0] rfl (w_x_Waiting_tillTheFirst_90 N d hd  _ hk15 _ _ _ _ _ _ _ _ _ _ h)
  · rw [if_pos hc] at h
    refine aw_iload (pc := 84) (q := 7) dX10_tillTheFirst_84 rfl ?_
    refine aw_goto (pc := 86) (tgt := 90) dX10_tillTheFirst_86 (by decide) ?_
    exact aw_sel [1, 2, 3, 4, 5, 6, 0] rfl (w_x_Waiting_tillTheFirst_90 N d hd  _ hk15 _ _ _ _ _ _ _ _ _ _ h)
def x_Waiting_tillTheFirst_15 (N : Nat) : Nat → Int → Int → Int → Int → aw_W → Option (Int × aw_W)
  | 0, _, _, _, _, _ => none
  | n + 1, x2, x3, x4, x5, w =>
    if x5 < 0 then
      x_Waiting_tillTheFirst_151 N x4 w
    else
      if (w 3 4) ≤ 0 then
        x_Waiting_tillTheFirst_151 N x4 w
      else
        if ¬ (w 3 4) = 0 then
          aw_b2 (x_Land_item N (aw_w (Int.tmod x5 (w 3 4))) 1 w) fun r1 w1 =>
            if (w1 5 0) = 1 then
              x_Waiting_tillTheFirst_73 N (x_Waiting_tillTheFirst_15 N n) x2 x3 x4 x5 (aw_w (Int.tmod x5 (w 3 4))) r1 r1 w1
            else
              x_Waiting_tillTheFirst_73 N (x_Waiting_tillTheFirst_15 N n) x2 x3 x4 x5 (aw_w (Int.tmod x5 (w 3 4))) r1 0 w1
        else none
theorem w_x_Waiting_tillTheFirst_15 {l : Launch} {K : aw_K} (N d : Nat) (hd : 1 ≤ d) : ∀ (n : Nat) (x2 x3 x4 x5 : Int) (w : aw_W) (y : Int) (v : aw_W), x_Waiting_tillTheFirst_15 N n x2 x3 x4 x5 w = some (y, v) → aw_AW l K MX10_tillTheFirst (d + 1) 15 [(0, .inr (.inr 34)), (2, .inl x2), (3, .inl x3), (4, .inl x4), (5, .inl x5)] [] w (some (.inl y), v) := by
  intro n
  induction n with
  | zero => intro x2 x3 x4 x5 w y v h; rw [x_Waiting_tillTheFirst_15] at h; cases h
  | succ n ih =>
    intro x2 x3 x4 x5 w y v h
    rw [x_Waiting_tillTheFirst_15] at h
    refine aw_iload (pc := 15) (q := 4) dX10_tillTheFirst_15 rfl ?_
    refine aw_if_lt (pc := 17) (tgt := 151) dX10_tillTheFirst_17 (by decide) (fun hc => ?_) (fun hc => ?_)
    · rw [if_pos hc] at h
      exact aw_sel [3] rfl (w_x_Waiting_tillTheFirst_151 N d hd  _ _ _ _ h)
    · rw [if_neg hc] at h
      refine aw_aload_n (pc := 20) (q := 0) dX10_tillTheFirst_20 rfl ?_
      refine aw_getf (pc := 21) (v := .inr (.inr 3)) dX10_tillTheFirst_21 fl_RX10_26 (by decide) rfl rfl rfl ?_
      refine aw_getf (pc := 24) (v := .inl (w 3 4)) dX10_tillTheFirst_24 fl_RX10_42 (by decide) rfl rfl rfl ?_
      refine aw_if_le (pc := 27) (tgt := 151) dX10_tillTheFirst_27 (by decide) (fun hc => ?_) (fun hc => ?_)
      · rw [if_pos hc] at h
        exact aw_sel [3] rfl (w_x_Waiting_tillTheFirst_151 N d hd  _ _ _ _ h)
      · rw [if_neg hc] at h
        refine aw_iload (pc := 30) (q := 4) dX10_tillTheFirst_30 rfl ?_
        refine aw_aload_n (pc := 32) (q := 0) dX10_tillTheFirst_32 rfl ?_
        refine aw_getf (pc := 33) (v := .inr (.inr 3)) dX10_tillTheFirst_33 fl_RX10_26 (by decide) rfl rfl rfl ?_
        refine aw_getf (pc := 36) (v := .inl (w 3 4)) dX10_tillTheFirst_36 fl_RX10_42 (by decide) rfl rfl rfl ?_
        obtain ⟨hy, h⟩ := aw_cks h
        refine aw_irem (pc := 39) dX10_tillTheFirst_39 hy ?_
        refine aw_istore (pc := 40) (ls' := [(6, .inl (aw_w (Int.tmod x5 (w 3 4)))), (0, .inr (.inr 34)), (2, .inl x2), (3, .inl x3), (4, .inl x4), (5, .inl x5)]) dX10_tillTheFirst_40 (by decide) rfl ?_
        refine aw_aload_n (pc := 42) (q := 1) dX10_tillTheFirst_42 rfl ?_
        refine aw_getf (pc := 43) (v := .inr (.inr 3)) dX10_tillTheFirst_43 fl_RX10_26 (by decide) rfl rfl rfl ?_
        refine aw_iload (pc := 46) (q := 0) dX10_tillTheFirst_46 rfl ?_
        refine aw_iconst (pc := 48) dX10_tillTheFirst_48 ⟨by decide, by decide⟩ ?_
        obtain ⟨r1, w1, h1, h⟩ := aw_b2s h
        refine aw_callV (pc := 49) (as := [.inl (aw_w (Int.tmod x5 (w 3 4))), .inl 1]) (st := []) (st' := [.inl r1]) dX10_tillTheFirst_49 cv_RX10_65 (by decide) rfl rfl rfl rfl (Nat.le_of_ble_eq_true rfl) (w_x_Land_item N d (by omega) _ _ _ _ _ h1) rfl ?_
        refine aw_istore (pc := 52) (ls' := [(7, .inl r1), (6, .inl (aw_w (Int.tmod x5 (w 3 4)))), (0, .inr (.inr 34)), (2, .inl x2), (3, .inl x3), (4, .inl x4), (5, .inl x5)]) dX10_tillTheFirst_52 (by decide) rfl ?_
        refine aw_aload_n (pc := 54) (q := 2) dX10_tillTheFirst_54 rfl ?_
        refine aw_getf (pc := 55) (v := .inr (.inr 3)) dX10_tillTheFirst_55 fl_RX10_26 (by decide) rfl rfl rfl ?_
        refine aw_getf (pc := 58) (v := .inr (.inr 5)) dX10_tillTheFirst_58 fl_RX10_48 (by decide) rfl rfl rfl ?_
        refine aw_iconst (pc := 61) dX10_tillTheFirst_61 ⟨by decide, by decide⟩ ?_
        refine aw_ialdv (pc := 62) (v := w1 5 0) dX10_tillTheFirst_62 rfl (by decide) (by decide) rfl ?_
        refine aw_iconst (pc := 63) dX10_tillTheFirst_63 ⟨by decide, by decide⟩ ?_
        refine aw_icmp_ne (pc := 64) (tgt := 72) dX10_tillTheFirst_64 (by decide) (fun hc => ?_) (fun hc => ?_)
        · rw [if_neg hc] at h
          refine aw_iconst (pc := 72) dX10_tillTheFirst_72 ⟨by decide, by decide⟩ ?_
          exact aw_sel [2, 3, 4, 5, 6, 1, 0] rfl (w_x_Waiting_tillTheFirst_73 N d hd  _ ih _ _ _ _ _ _ _ _ _ _ h)
        · rw [if_pos hc] at h
          refine aw_iload (pc := 67) (q := 0) dX10_tillTheFirst_67 rfl ?_
          refine aw_goto (pc := 69) (tgt := 73) dX10_tillTheFirst_69 (by decide) ?_
          exact aw_sel [2, 3, 4, 5, 6, 1, 0] rfl (w_x_Waiting_tillTheFirst_73 N d hd  _ ih _ _ _ _ _ _ _ _ _ _ h)
def x_Waiting_tillTheFirst (N : Nat) (x1 x2 : Int) (w : aw_W) : Option (Int × aw_W) :=
  x_Waiting_tillTheFirst_15 N N x2 (-1) (-1) (aw_w ((aw_mn x1 60) - 1)) w
theorem w_x_Waiting_tillTheFirst_d {l : Launch} {K : aw_K} (N d : Nat) (hd : 1 ≤ d) : ∀ (x1 x2 : Int) (w : aw_W) (y : Int) (v : aw_W), x_Waiting_tillTheFirst N x1 x2 w = some (y, v) → aw_Met l K MX10_tillTheFirst (d + 1) [.inr (.inr 34), .inl x1, .inl x2] w (some (.inl y), v) := by
  intro x1 x2 w y v h
  unfold x_Waiting_tillTheFirst at h
  refine aw_enter rfl (Nat.le_of_ble_eq_true rfl) ?_
  show aw_AW l K MX10_tillTheFirst (d + 1) 0 [(0, .inr (.inr 34)), (1, .inl x1), (2, .inl x2)] [] w (some (.inl y), v)
  refine aw_iconst (pc := 0) dX10_tillTheFirst_0 ⟨by decide, by decide⟩ ?_
  refine aw_istore_n (pc := 1) (ls' := [(3, .inl (-1)), (0, .inr (.inr 34)), (1, .inl x1), (2, .inl x2)]) dX10_tillTheFirst_1 (by decide) rfl ?_
  refine aw_iconst (pc := 2) dX10_tillTheFirst_2 ⟨by decide, by decide⟩ ?_
  refine aw_istore (pc := 3) (ls' := [(4, .inl (-1)), (3, .inl (-1)), (0, .inr (.inr 34)), (1, .inl x1), (2, .inl x2)]) dX10_tillTheFirst_3 (by decide) rfl ?_
  refine aw_iload_n (pc := 5) (q := 3) dX10_tillTheFirst_5 rfl ?_
  refine aw_bipush (pc := 6) dX10_tillTheFirst_6 (by decide) ⟨by decide, by decide⟩ ?_
  refine aw_mmin (pc := 8) dX10_tillTheFirst_8 cm_RX10_36 (Nat.le_of_ble_eq_true rfl) ?_
  refine aw_iconst (pc := 11) dX10_tillTheFirst_11 ⟨by decide, by decide⟩ ?_
  refine aw_isub (pc := 12) dX10_tillTheFirst_12 ?_
  refine aw_istore (pc := 13) (ls' := [(5, .inl (aw_w ((aw_mn x1 60) - 1))), (4, .inl (-1)), (3, .inl (-1)), (0, .inr (.inr 34)), (1, .inl x1), (2, .inl x2)]) dX10_tillTheFirst_13 (by decide) rfl ?_
  exact aw_sel [3, 5, 2, 1, 0] rfl (w_x_Waiting_tillTheFirst_15 N d hd  N _ _ _ _ _ _ _ h)
theorem w_x_Waiting_tillTheFirst {l : Launch} {K : aw_K} (N d : Nat) (hd : 2 ≤ d) : ∀ (x1 x2 : Int) (w : aw_W) (y : Int) (v : aw_W), x_Waiting_tillTheFirst N x1 x2 w = some (y, v) → aw_Met l K MX10_tillTheFirst (d) [.inr (.inr 34), .inl x1, .inl x2] w (some (.inl y), v) := by
  obtain ⟨e, rfl⟩ : ∃ e, d = e + 1 := ⟨d - 1, by omega⟩
  exact w_x_Waiting_tillTheFirst_d N e (by omega)
